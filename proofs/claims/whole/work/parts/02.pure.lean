/-! the pure picture: digits, sums, counts, the numbering of all lists, the marks -/
def sr_d (c j : Nat) : Nat := c / 4 ^ j % 4
theorem sr_d_lt (c j : Nat) : sr_d c j < 4 := Nat.mod_lt _ (by decide)
def sr_S (f : Nat → Nat) : Nat → Nat
  | 0 => 0
  | n + 1 => sr_S f n + f n
theorem sr_Srev1 (f : Nat → Nat) (n : Nat) : ∀ i, i ≤ n → sr_S (fun j => f (n - 1 - j)) i + sr_S f (n - i) = sr_S f n := by
  intro i
  induction i with
  | zero => intro _; simp [sr_S]
  | succ i ih =>
    intro h
    have h1 := ih (by omega)
    have e : n - i = (n - (i + 1)) + 1 := by omega
    rw [e] at h1
    simp only [sr_S] at h1 ⊢
    have e2 : n - 1 - i = n - (i + 1) := by omega
    rw [e2]
    omega
theorem sr_Srev (f : Nat → Nat) (n : Nat) : sr_S (fun j => f (n - 1 - j)) n = sr_S f n := by
  have h := sr_Srev1 f n n (Nat.le_refl n)
  rw [Nat.sub_self] at h
  exact h
theorem sr_S_le (f : Nat → Nat) (b : Nat) (h : ∀ j, f j ≤ b) : ∀ n, sr_S f n ≤ b * n := by
  intro n
  induction n with
  | zero => exact Nat.zero_le _
  | succ n ih =>
    have := h n
    simp only [sr_S, Nat.mul_add, Nat.mul_one]
    omega
def sr_E (p : Nat → Bool) : Nat → Bool
  | 0 => false
  | n + 1 => sr_E p n || p n
theorem sr_E_iff (p : Nat → Bool) : ∀ n, sr_E p n = true ↔ ∃ i, i < n ∧ p i = true := by
  intro n
  induction n with
  | zero => exact ⟨fun h => absurd (show false = true from h) (by decide), fun ⟨i, h, _⟩ => absurd h (Nat.not_lt_zero i)⟩
  | succ n ih =>
    simp only [sr_E, Bool.or_eq_true, ih]
    constructor
    · rintro (⟨i, h1, h2⟩ | h)
      · exact ⟨i, by omega, h2⟩
      · exact ⟨n, by omega, h⟩
    · rintro ⟨i, h1, h2⟩
      by_cases e : i = n
      · subst e; exact Or.inr h2
      · exact Or.inl ⟨i, by omega, h2⟩
theorem sr_E_t {p : Nat → Bool} {n i : Nat} (hi : i < n) (h : p i = true) : sr_E p n = true := (sr_E_iff p n).mpr ⟨i, hi, h⟩
theorem sr_E_f {p : Nat → Bool} {n : Nat} (h : ∀ i, i < n → p i = false) : sr_E p n = false := by
  cases e : sr_E p n
  · rfl
  · obtain ⟨i, h1, h2⟩ := (sr_E_iff p n).mp e
    rw [h i h1] at h2
    exact absurd h2 (by decide)
def sr_bI (b : Bool) : Int32 := if b = true then 1 else 0
theorem sr_bI_t {b : Bool} (h : b = true) : sr_bI b = 1 := if_pos h
theorem sr_bI_f {b : Bool} (h : b = false) : sr_bI b = 0 := if_neg (by rw [h]; decide)
theorem sr_bI_n (b : Bool) : narrow .boolean (.int (sr_bI b)) = .int (sr_bI b) := by cases b <;> rfl
theorem sr_bI_0 {b : Bool} : sr_bI b = 0 ↔ b = false := by cases b <;> decide
theorem sr_post {post : Int32 → Prop} {b : Bool} (h1 : b = true → post 1) (h0 : b = false → post 0) : post (sr_bI b) := by
  cases b
  · exact h0 rfl
  · exact h1 rfl
/-- what a kind asks of the list with n elements and the code c -/
def sr_occ (n c : Nat) (a : Int32) : Nat := sr_S (fun j => if nI (sr_d c j) = a then 1 else 0) n
def sr_pair (n c : Nat) (a b : Int32) : Bool := sr_E (fun j => decide (nI (sr_d c (j + 1)) = a) && decide (nI (sr_d c j) = b)) (n - 1)
def sr_rises (n c : Nat) : Bool := sr_E (fun j => decide (sr_d c (j + 1) < sr_d c j)) (n - 1)
def sr_mt (k a b : Int32) (n c : Nat) : Bool :=
  if k = 0 then decide (0 < a) && decide (nI (sr_S (sr_d c) n) - nI (sr_S (sr_d c) n) / a * a = b)
  else if k = 1 then decide (b ≤ nI (sr_occ n c a))
  else if k = 2 then decide (nI (sr_occ n c a) ≤ b)
  else if k = 3 then sr_pair n c a b
  else if k = 4 then !sr_pair n c a b
  else if k = 5 then decide (0 < n) && decide (a ≤ nI (sr_d c (n - 1)))
  else if k = 6 then decide (0 < n) && decide (a ≤ nI (sr_d c 0))
  else if k = 7 then decide (a ≤ nI n)
  else if k = 8 then sr_rises n c
  else decide (nI (sr_occ n c a) - nI (sr_occ n c a) / 2 * 2 = b)
def sr_F (K A B : Nat → Int32) : Nat → Nat → Nat → Bool
  | 0 => fun _ _ => true
  | q + 1 => fun n c => sr_F K A B q n c && sr_mt (K q) (A q) (B q) n c
theorem sr_F_f {K A B : Nat → Int32} {n c i : Nat} : ∀ {q : Nat}, i < q → sr_mt (K i) (A i) (B i) n c = false → sr_F K A B q n c = false := by
  intro q
  induction q with
  | zero => intro h; omega
  | succ q ih =>
    intro h z
    simp only [sr_F]
    by_cases e : i = q
    · subst e; rw [z, Bool.and_false]
    · rw [ih (by omega) z, Bool.false_and]
/-! counts -/
def sr_cn (p : Nat → Bool) (a : Nat) : Nat → Nat
  | 0 => 0
  | d + 1 => sr_cn p a d + (p (a + d)).toNat
theorem sr_cn_t {p : Nat → Bool} {a d : Nat} (h : p (a + d) = true) : sr_cn p a (d + 1) = sr_cn p a d + 1 := by simp only [sr_cn, h, Bool.toNat_true]
theorem sr_cn_f {p : Nat → Bool} {a d : Nat} (h : p (a + d) = false) : sr_cn p a (d + 1) = sr_cn p a d := by simp only [sr_cn, h, Bool.toNat_false, Nat.add_zero]
theorem sr_cn_le (p : Nat → Bool) (a : Nat) : ∀ d, sr_cn p a d ≤ d := by
  intro d
  induction d with
  | zero => exact Nat.le_refl 0
  | succ d ih =>
    cases h : p (a + d)
    · rw [sr_cn_f h]; omega
    · rw [sr_cn_t h]; omega
theorem sr_cn_add (p : Nat → Bool) (a d : Nat) : ∀ e, sr_cn p a (d + e) = sr_cn p a d + sr_cn p (a + d) e := by
  intro e
  induction e with
  | zero => rfl
  | succ e ih =>
    rw [← Nat.add_assoc]
    simp only [sr_cn, ih, Nat.add_assoc]
theorem sr_cn_sh {p q : Nat → Bool} {a b : Nat} : ∀ {d : Nat}, (∀ j, j < d → q (b + j) = p (a + j)) → sr_cn q b d = sr_cn p a d := by
  intro d
  induction d with
  | zero => intro _; rfl
  | succ d ih =>
    intro h
    simp only [sr_cn, ih (fun j hj => h j (by omega)), h d (by omega)]
theorem sr_cn_z {p : Nat → Bool} {a : Nat} : ∀ {d : Nat}, (∀ j, j < d → p (a + j) = false) → sr_cn p a d = 0 := by
  intro d
  induction d with
  | zero => intro _; rfl
  | succ d ih =>
    intro h
    rw [sr_cn_f (h d (by omega)), ih (fun j hj => h j (by omega))]
theorem sr_cn_mono (p : Nat → Bool) (a : Nat) {d e : Nat} (h : d ≤ e) : sr_cn p a d ≤ sr_cn p a e := by
  obtain ⟨f, rfl⟩ : ∃ f, e = d + f := ⟨e - d, by omega⟩
  rw [sr_cn_add]
  omega
theorem sr_cn_inj {p : Nat → Bool} {i j : Nat} (hi : p i = true) (hj : p j = true) (h : sr_cn p 0 i = sr_cn p 0 j) : i = j := by
  have ti : sr_cn p 0 (i + 1) = sr_cn p 0 i + 1 := sr_cn_t (by rw [Nat.zero_add]; exact hi)
  have tj : sr_cn p 0 (j + 1) = sr_cn p 0 j + 1 := sr_cn_t (by rw [Nat.zero_add]; exact hj)
  rcases Nat.lt_trichotomy i j with z | z | z
  · have := sr_cn_mono p 0 (show i + 1 ≤ j from z); omega
  · exact z
  · have := sr_cn_mono p 0 (show j + 1 ≤ i from z); omega
theorem sr_cn_none {p : Nat → Bool} {N n : Nat} (h : sr_cn p 0 N ≤ n) : ∀ k, k < N → p k = true → sr_cn p 0 k = n → False := by
  intro k hk pk e
  have t : sr_cn p 0 (k + 1) = sr_cn p 0 k + 1 := sr_cn_t (by rw [Nat.zero_add]; exact pk)
  have := sr_cn_mono p 0 (show k + 1 ≤ N from hk)
  omega
/-! the numbering of all lists -/
def sr_st : Nat → Nat
  | 0 => 0
  | n + 1 => sr_st n + 4 ^ n
def sr_ln (k : Nat) : Nat := if 1365 ≤ k then 6 else if 341 ≤ k then 5 else if 85 ≤ k then 4 else if 21 ≤ k then 3 else if 5 ≤ k then 2 else if 1 ≤ k then 1 else 0
theorem sr_st0 : sr_st 0 = 0 := rfl
theorem sr_st1 : sr_st 1 = 1 := rfl
theorem sr_st2 : sr_st 2 = 5 := rfl
theorem sr_st3 : sr_st 3 = 21 := rfl
theorem sr_st4 : sr_st 4 = 85 := rfl
theorem sr_st5 : sr_st 5 = 341 := rfl
theorem sr_st6 : sr_st 6 = 1365 := rfl
theorem sr_st7 : sr_st 7 = 5461 := rfl
theorem sr_7 {P : Nat → Prop} (h0 : P 0) (h1 : P 1) (h2 : P 2) (h3 : P 3) (h4 : P 4) (h5 : P 5) (h6 : P 6) : ∀ n, n ≤ 6 → P n := by
  intro n h
  have e : n = 0 ∨ n = 1 ∨ n = 2 ∨ n = 3 ∨ n = 4 ∨ n = 5 ∨ n = 6 := by omega
  rcases e with e | e | e | e | e | e | e <;> subst e <;> assumption
theorem sr_st_le : ∀ n, n ≤ 6 → sr_st n + 4 ^ n ≤ 5461 ∧ 4 ^ n ≤ 4096 ∧ 0 < 4 ^ n := sr_7 (by decide) (by decide) (by decide) (by decide) (by decide) (by decide) (by decide)
theorem sr_ln_st : ∀ n, n ≤ 6 → ∀ c, c < 4 ^ n → sr_ln (sr_st n + c) = n := by
  apply sr_7 <;> intro c hc <;> simp only [sr_st0, sr_st1, sr_st2, sr_st3, sr_st4, sr_st5, sr_st6] <;> simp at hc <;> unfold sr_ln <;> (repeat' split) <;> omega
theorem sr_ln_in (k : Nat) (h : k < 5461) : sr_ln k ≤ 6 ∧ sr_st (sr_ln k) ≤ k ∧ k - sr_st (sr_ln k) < 4 ^ sr_ln k := by
  unfold sr_ln
  (repeat' split) <;> simp only [sr_st0, sr_st1, sr_st2, sr_st3, sr_st4, sr_st5, sr_st6] <;> simp <;> omega
def sr_P (F : Nat → Nat → Bool) (k : Nat) : Bool := F (sr_ln k) (k - sr_st (sr_ln k))
theorem sr_P_at (F : Nat → Nat → Bool) {n c : Nat} (hn : n ≤ 6) (hc : c < 4 ^ n) : sr_P F (sr_st n + c) = F n c := by
  unfold sr_P
  rw [sr_ln_st n hn c hc, Nat.add_sub_cancel_left]
theorem sr_blk (F : Nat → Nat → Bool) {n a d : Nat} (hn : n ≤ 6) (h : a + d ≤ 4 ^ n) : sr_cn (sr_P F) (sr_st n + a) d = sr_cn (F n) a d := by
  apply sr_cn_sh
  intro j hj
  rw [Nat.add_assoc]
  exact sr_P_at F hn (by omega)
def sr_sh (F : Nat → Nat → Bool) : Nat → Nat
  | 0 => 0
  | n + 1 => sr_sh F n + sr_cn (F n) 0 (4 ^ n)
theorem sr_sh_cn (F : Nat → Nat → Bool) : ∀ b, b ≤ 7 → sr_sh F b = sr_cn (sr_P F) 0 (sr_st b) := by
  intro b
  induction b with
  | zero => intro _; rfl
  | succ b ih =>
    intro h
    simp only [sr_sh, sr_st]
    rw [ih (by omega), sr_cn_add, Nat.zero_add]
    have := sr_blk F (n := b) (a := 0) (d := 4 ^ b) (by omega) (by omega)
    rw [Nat.add_zero] at this
    rw [this]
/-- the number in the order of all failing lists of the one with n elements and the code c -/
theorem sr_rank (F : Nat → Nat → Bool) {n c : Nat} (hn : n ≤ 6) (hc : c ≤ 4 ^ n) : sr_cn (sr_P F) 0 (sr_st n + c) = sr_sh F n + sr_cn (F n) 0 c := by
  rw [sr_cn_add, sr_sh_cn F n (by omega), Nat.zero_add]
  have := sr_blk F (n := n) (a := 0) (d := c) hn (by omega)
  rw [Nat.add_zero] at this
  rw [this]
/-- of the lists with code c * w .. the ones that begin alike -/
theorem sr_ext (p : Nat → Bool) {N c w : Nat} (hw : 0 < w) (h : (c + 1) * w ≤ N) : sr_cn (fun j => p j && decide (j / w = c)) 0 N = sr_cn p (c * w) w := by
  have hm : (c + 1) * w = c * w + w := Nat.succ_mul c w
  obtain ⟨e, rfl⟩ : ∃ e, N = c * w + w + e := ⟨N - (c * w + w), by omega⟩
  rw [sr_cn_add, sr_cn_add, Nat.zero_add, Nat.zero_add]
  have h1 : sr_cn (fun j => p j && decide (j / w = c)) 0 (c * w) = 0 := sr_cn_z (by
    intro j hj
    have : j / w < c := (Nat.div_lt_iff_lt_mul hw).mpr hj
    have n1 : ¬ j / w = c := by omega
    rw [Nat.zero_add]
    simp [n1])
  have h2 : sr_cn (fun j => p j && decide (j / w = c)) (c * w) w = sr_cn p (c * w) w := sr_cn_sh (by
    intro j hj
    have : (c * w + j) / w = c := by
      rw [Nat.add_comm, Nat.add_mul_div_right _ _ hw, Nat.div_eq_of_lt hj, Nat.zero_add]
    simp [this])
  have h3 : sr_cn (fun j => p j && decide (j / w = c)) (c * w + w) e = 0 := sr_cn_z (by
    intro j hj
    have : c + 1 ≤ (c * w + w + j) / w := (Nat.le_div_iff_mul_le hw).mpr (by omega)
    have n1 : ¬ (c * w + w + j) / w = c := by omega
    simp [n1])
  rw [h1, h2, h3, Nat.zero_add, Nat.add_zero]
