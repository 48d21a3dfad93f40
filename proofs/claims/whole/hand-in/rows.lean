section
theorem pk_us {f : Nat → Int32} {k : Nat} {x : Int32} : upd f k x k = x := if_pos rfl
theorem pk_un {f : Nat → Int32} {k j : Nat} {x : Int32} (h : j ≠ k) : upd f k x j = f j := if_neg h
theorem pk_sub {a b : Nat} (h : b ≤ a) : nI a - nI b = nI (a - b) := by
  obtain ⟨c, rfl⟩ : ∃ c, a = c + b := ⟨a - b, by omega⟩
  rw [← nI_add, Int32.add_sub_cancel, Nat.add_sub_cancel]
theorem pk_m1 (n : Nat) : nI (n + 1) + (-1) = nI n := by
  rw [← nI_1, Int32.add_assoc, show (1 : Int32) + (-1) = 0 from rfl, Int32.add_zero]
theorem pk_mul (a b : Nat) : nI a * nI b = nI (a * b) := (Int32.ofNat_mul a b).symm
theorem pk_div {a d : Nat} (ha : a < 2 ^ 31) (h0 : 0 < d) (hd : d < 2 ^ 31) : nI a / nI d = nI (a / d) := by
  apply Int32.toInt_inj.mp
  rw [lg_idiv_nonneg (by rw [nI_toInt ha]; omega) (by rw [nI_toInt hd]; omega), nI_toInt ha, nI_toInt hd, nI_toInt (Nat.lt_of_le_of_lt (Nat.div_le_self a d) ha)]
  first | rfl | exact (Int.natCast_ediv _ _).symm
theorem pk_rem {a d : Nat} (ha : a < 2 ^ 31) (h0 : 0 < d) (hd : d < 2 ^ 31) : nI a - nI a / nI d * nI d = nI (a % d) := by
  rw [pk_div ha h0 hd, pk_mul, pk_sub (Nat.div_mul_le_self a d)]
  exact congrArg nI (by have := Nat.div_add_mod' a d; omega)
theorem pk_ix (x : Int32) {n : Nat} (hn : n < 2 ^ 31) : x < 0 ∨ nI n ≤ x ∨ ∃ j : Nat, j < n ∧ x = nI j := by
  by_cases h : x < 0
  · exact Or.inl h
  · obtain ⟨j, hj, rfl⟩ := nI_of h
    by_cases h2 : j < n
    · exact Or.inr (Or.inr ⟨j, h2, rfl⟩)
    · exact Or.inr (Or.inl (nI_le (by omega) hj))
theorem pk_le {x y : Int32} {A B : Prop} (a b : Nat) (f : a ≤ b → A) (g : b < a → B) (hx : x = nI a := by rfl) (hy : y = nI b := by rfl) (ha : a < 2 ^ 31 := by omega) (hb : b < 2 ^ 31 := by omega) : (x ≤ y → A) ∧ (¬ x ≤ y → B) := by
  subst hx hy
  rw [nI_leI ha hb]
  exact ⟨f, fun z => g (by omega)⟩
theorem pk_lt {x y : Int32} {A B : Prop} (a b : Nat) (f : a < b → A) (g : b ≤ a → B) (hx : x = nI a := by rfl) (hy : y = nI b := by rfl) (ha : a < 2 ^ 31 := by omega) (hb : b < 2 ^ 31 := by omega) : (x < y → A) ∧ (¬ x < y → B) := by
  subst hx hy
  rw [nI_ltI ha hb]
  exact ⟨f, fun z => g (by omega)⟩
theorem pk_eq {x y : Int32} {A B : Prop} (a b : Nat) (f : a = b → A) (g : a ≠ b → B) (hx : x = nI a := by rfl) (hy : y = nI b := by rfl) (ha : a < 2 ^ 31 := by omega) (hb : b < 2 ^ 31 := by omega) : (x = y → A) ∧ (¬ x = y → B) := by
  subst hx hy
  rw [nI_eq ha hb]
  exact ⟨f, g⟩
theorem pk_in {x : Int32} (n N : Nat) (h : n < N) (hx : x = nI n := by rfl) (hN : N < 2 ^ 31 := by omega) : vp_in x N := by
  subst hx
  exact vp_in_nI h hN
theorem pk_cl {x : Int32} (n : Nat) (hx : x = nI n := by rfl) (h : n < 2 ^ 31 := by omega) : x.toNatClampNeg = n := by
  subst hx
  exact nI_clamp h
theorem pk_tn {n : Nat} (h : n < 2 ^ 32) : (nI n).toBitVec.toNat = n := Nat.mod_eq_of_lt h
theorem pk_and (x : Int32) {m : Int32} (k : Nat) (hm : m.toBitVec.toNat = 2 ^ k - 1) : x &&& m = nI (x.toBitVec.toNat % 2 ^ k) := by
  apply Int32.toBitVec_inj.mp
  apply BitVec.eq_of_toNat_eq
  rw [Int32.toBitVec_and, BitVec.toNat_and, hm, Nat.and_two_pow_sub_one_eq_mod]
  show _ = (BitVec.ofNat 32 _).toNat
  rw [BitVec.toNat_ofNat]
  exact (Nat.mod_eq_of_lt (Nat.lt_of_le_of_lt (Nat.mod_le _ _) x.toBitVec.isLt)).symm
theorem pk_andN {n : Nat} (h : n < 2 ^ 32) {m : Int32} (k : Nat) (hm : m.toBitVec.toNat = 2 ^ k - 1) : nI n &&& m = nI (n % 2 ^ k) := by
  rw [pk_and _ k hm, pk_tn h]
theorem pk_shl (a s : Int32) (k : Nat) (hs : (s.toBitVec.smod 32).toNat = k) : (a <<< s).toBitVec.toNat = a.toBitVec.toNat * 2 ^ k % 2 ^ 32 := by
  show (a.toBitVec <<< (s.toBitVec.smod 32).toNat).toNat = _
  rw [hs, BitVec.toNat_shiftLeft, Nat.shiftLeft_eq]
theorem pk_shlN {n : Nat} (s : Int32) (k : Nat) (hs : (s.toBitVec.smod 32).toNat = k) (h : n * 2 ^ k < 2 ^ 32) : nI n <<< s = nI (n * 2 ^ k) := by
  apply Int32.toBitVec_inj.mp
  apply BitVec.eq_of_toNat_eq
  have hn : n < 2 ^ 32 := Nat.lt_of_le_of_lt (Nat.le_mul_of_pos_right n (Nat.two_pow_pos k)) h
  rw [pk_shl _ _ k hs, pk_tn hn, pk_tn h, Nat.mod_eq_of_lt h]
theorem pk_shr (a s : Int32) (k : Nat) (hs : (s.toBitVec.smod 32).toNat = k) : (a >>> s).toInt = a.toInt >>> k := by
  show (a.toBitVec.sshiftRight (s.toBitVec.smod 32).toNat).toInt = _
  rw [hs, BitVec.toInt_sshiftRight]
  rfl
theorem pk_shrN {n : Nat} (h : n < 2 ^ 31) (s : Int32) (k : Nat) (hs : (s.toBitVec.smod 32).toNat = k) : nI n >>> s = nI (n / 2 ^ k) := by
  apply Int32.toInt_inj.mp
  have h2 : n / 2 ^ k ≤ n := Nat.div_le_self _ _
  rw [pk_shr _ _ k hs, nI_toInt h, nI_toInt (by omega), Int.shiftRight_eq_div_pow]
  rfl
theorem pk_loop {σ : Type} (W : Nat → Nat → σ → Prop) (I : Nat → σ → Prop) (e i0 : Nat) (s : σ) (hi : i0 ≤ e) (h0 : I i0 s) (hx : ∀ n s, I e s → W (n + 1) e s)
    (hs : ∀ n i s, i < e → I i s → (∀ s', I (i + 1) s' → W n (i + 1) s') → W (n + 1) i s) : ∃ n, W n i0 s :=
  ⟨e + 1, loop_i W I e hx hs (e + 1) i0 s hi (by omega) h0⟩
def bt (x : Int32) (i : Nat) : Bool := x.toBitVec.getLsbD i
theorem b_or (x y : Int32) (i : Nat) : bt (x ||| y) i = (bt x i || bt y i) := by unfold bt; rw [Int32.toBitVec_or, BitVec.getLsbD_or]
theorem b_and (x y : Int32) (i : Nat) : bt (x &&& y) i = (bt x i && bt y i) := by unfold bt; rw [Int32.toBitVec_and, BitVec.getLsbD_and]
theorem b_0 (i : Nat) : bt 0 i = false := BitVec.getLsbD_zero
theorem s_l : ∀ n, n < 32 → ((nI n &&& 31).toBitVec.smod 32).toNat = n := by decide +kernel
theorem b_sshr (n : Nat) (hn : n < 32) (x : Int32) {i : Nat} (hi : i < 32) : bt (x >>> (nI n &&& 31)) i = if n + i < 32 then bt x (n + i) else bt x 31 := by
  unfold bt
  rw [Int32.toBitVec_shiftRight]
  show (x.toBitVec.sshiftRight ((nI n &&& 31).toBitVec.smod 32).toNat).getLsbD i = _
  rw [s_l n hn, BitVec.getLsbD_sshiftRight, BitVec.msb_eq_getLsbD_last]
  simp [hi]
theorem nf_sh : ∀ l, l < 32 → ((1 : Int32) <<< (nI l &&& 31)).toBitVec = BitVec.twoPow 32 l := by decide +kernel
end
section
/-! the pure picture: digits, sums, counts, the numbering of all lists, the marks -/
def sr_d (c j : Nat) : Nat := c / 4 ^ j % 4
theorem sr_d_lt (c j : Nat) : sr_d c j < 4 := Nat.mod_lt _ (by decide)
def sr_S (f : Nat → Nat) : Nat → Nat
  | 0 => 0
  | n + 1 => sr_S f n + f n
theorem sr_Srev1 (f : Nat → Nat) (n : Nat) : ∀ i, i ≤ n → sr_S (fun j => f (n - 1 - j)) i + sr_S f (n - i) = sr_S f n := by
  intro i
  induction i with
  | zero => intro _; simp [sr_S]
  | succ i ih =>
    intro h
    have h1 := ih (by omega)
    have e : n - i = (n - (i + 1)) + 1 := by omega
    rw [e] at h1
    simp only [sr_S] at h1 ⊢
    have e2 : n - 1 - i = n - (i + 1) := by omega
    rw [e2]
    omega
theorem sr_Srev (f : Nat → Nat) (n : Nat) : sr_S (fun j => f (n - 1 - j)) n = sr_S f n := by
  have h := sr_Srev1 f n n (Nat.le_refl n)
  rw [Nat.sub_self] at h
  exact h
theorem sr_S_le (f : Nat → Nat) (b : Nat) (h : ∀ j, f j ≤ b) : ∀ n, sr_S f n ≤ b * n := by
  intro n
  induction n with
  | zero => exact Nat.zero_le _
  | succ n ih =>
    have := h n
    simp only [sr_S, Nat.mul_add, Nat.mul_one]
    omega
def sr_E (p : Nat → Bool) : Nat → Bool
  | 0 => false
  | n + 1 => sr_E p n || p n
theorem sr_E_iff (p : Nat → Bool) : ∀ n, sr_E p n = true ↔ ∃ i, i < n ∧ p i = true := by
  intro n
  induction n with
  | zero => exact ⟨fun h => absurd (show false = true from h) (by decide), fun ⟨i, h, _⟩ => absurd h (Nat.not_lt_zero i)⟩
  | succ n ih =>
    simp only [sr_E, Bool.or_eq_true, ih]
    constructor
    · rintro (⟨i, h1, h2⟩ | h)
      · exact ⟨i, by omega, h2⟩
      · exact ⟨n, by omega, h⟩
    · rintro ⟨i, h1, h2⟩
      by_cases e : i = n
      · subst e; exact Or.inr h2
      · exact Or.inl ⟨i, by omega, h2⟩
theorem sr_E_t {p : Nat → Bool} {n i : Nat} (hi : i < n) (h : p i = true) : sr_E p n = true := (sr_E_iff p n).mpr ⟨i, hi, h⟩
theorem sr_E_f {p : Nat → Bool} {n : Nat} (h : ∀ i, i < n → p i = false) : sr_E p n = false := by
  cases e : sr_E p n
  · rfl
  · obtain ⟨i, h1, h2⟩ := (sr_E_iff p n).mp e
    rw [h i h1] at h2
    exact absurd h2 (by decide)
def sr_bI (b : Bool) : Int32 := if b = true then 1 else 0
theorem sr_bI_t {b : Bool} (h : b = true) : sr_bI b = 1 := if_pos h
theorem sr_bI_f {b : Bool} (h : b = false) : sr_bI b = 0 := if_neg (by rw [h]; decide)
theorem sr_bI_n (b : Bool) : narrow .boolean (.int (sr_bI b)) = .int (sr_bI b) := by cases b <;> rfl
theorem sr_bI_0 {b : Bool} : sr_bI b = 0 ↔ b = false := by cases b <;> decide
theorem sr_post {post : Int32 → Prop} {b : Bool} (h1 : b = true → post 1) (h0 : b = false → post 0) : post (sr_bI b) := by
  cases b
  · exact h0 rfl
  · exact h1 rfl
/-- what a kind asks of the list with n elements and the code c -/
def sr_occ (n c : Nat) (a : Int32) : Nat := sr_S (fun j => if nI (sr_d c j) = a then 1 else 0) n
def sr_pair (n c : Nat) (a b : Int32) : Bool := sr_E (fun j => decide (nI (sr_d c (j + 1)) = a) && decide (nI (sr_d c j) = b)) (n - 1)
def sr_rises (n c : Nat) : Bool := sr_E (fun j => decide (sr_d c (j + 1) < sr_d c j)) (n - 1)
def sr_mt (k a b : Int32) (n c : Nat) : Bool :=
  if k = 0 then decide (0 < a) && decide (nI (sr_S (sr_d c) n) - nI (sr_S (sr_d c) n) / a * a = b)
  else if k = 1 then decide (b ≤ nI (sr_occ n c a))
  else if k = 2 then decide (nI (sr_occ n c a) ≤ b)
  else if k = 3 then sr_pair n c a b
  else if k = 4 then !sr_pair n c a b
  else if k = 5 then decide (0 < n) && decide (a ≤ nI (sr_d c (n - 1)))
  else if k = 6 then decide (0 < n) && decide (a ≤ nI (sr_d c 0))
  else if k = 7 then decide (a ≤ nI n)
  else if k = 8 then sr_rises n c
  else decide (nI (sr_occ n c a) - nI (sr_occ n c a) / 2 * 2 = b)
def sr_F (K A B : Nat → Int32) : Nat → Nat → Nat → Bool
  | 0 => fun _ _ => true
  | q + 1 => fun n c => sr_F K A B q n c && sr_mt (K q) (A q) (B q) n c
theorem sr_F_f {K A B : Nat → Int32} {n c i : Nat} : ∀ {q : Nat}, i < q → sr_mt (K i) (A i) (B i) n c = false → sr_F K A B q n c = false := by
  intro q
  induction q with
  | zero => intro h; omega
  | succ q ih =>
    intro h z
    simp only [sr_F]
    by_cases e : i = q
    · subst e; rw [z, Bool.and_false]
    · rw [ih (by omega) z, Bool.false_and]
/-! counts -/
def sr_cn (p : Nat → Bool) (a : Nat) : Nat → Nat
  | 0 => 0
  | d + 1 => sr_cn p a d + (p (a + d)).toNat
theorem sr_cn_t {p : Nat → Bool} {a d : Nat} (h : p (a + d) = true) : sr_cn p a (d + 1) = sr_cn p a d + 1 := by simp only [sr_cn, h, Bool.toNat_true]
theorem sr_cn_f {p : Nat → Bool} {a d : Nat} (h : p (a + d) = false) : sr_cn p a (d + 1) = sr_cn p a d := by simp only [sr_cn, h, Bool.toNat_false, Nat.add_zero]
theorem sr_cn_le (p : Nat → Bool) (a : Nat) : ∀ d, sr_cn p a d ≤ d := by
  intro d
  induction d with
  | zero => exact Nat.le_refl 0
  | succ d ih =>
    cases h : p (a + d)
    · rw [sr_cn_f h]; omega
    · rw [sr_cn_t h]; omega
theorem sr_cn_add (p : Nat → Bool) (a d : Nat) : ∀ e, sr_cn p a (d + e) = sr_cn p a d + sr_cn p (a + d) e := by
  intro e
  induction e with
  | zero => rfl
  | succ e ih =>
    rw [← Nat.add_assoc]
    simp only [sr_cn, ih, Nat.add_assoc]
theorem sr_cn_sh {p q : Nat → Bool} {a b : Nat} : ∀ {d : Nat}, (∀ j, j < d → q (b + j) = p (a + j)) → sr_cn q b d = sr_cn p a d := by
  intro d
  induction d with
  | zero => intro _; rfl
  | succ d ih =>
    intro h
    simp only [sr_cn, ih (fun j hj => h j (by omega)), h d (by omega)]
theorem sr_cn_z {p : Nat → Bool} {a : Nat} : ∀ {d : Nat}, (∀ j, j < d → p (a + j) = false) → sr_cn p a d = 0 := by
  intro d
  induction d with
  | zero => intro _; rfl
  | succ d ih =>
    intro h
    rw [sr_cn_f (h d (by omega)), ih (fun j hj => h j (by omega))]
theorem sr_cn_mono (p : Nat → Bool) (a : Nat) {d e : Nat} (h : d ≤ e) : sr_cn p a d ≤ sr_cn p a e := by
  obtain ⟨f, rfl⟩ : ∃ f, e = d + f := ⟨e - d, by omega⟩
  rw [sr_cn_add]
  omega
theorem sr_cn_inj {p : Nat → Bool} {i j : Nat} (hi : p i = true) (hj : p j = true) (h : sr_cn p 0 i = sr_cn p 0 j) : i = j := by
  have ti : sr_cn p 0 (i + 1) = sr_cn p 0 i + 1 := sr_cn_t (by rw [Nat.zero_add]; exact hi)
  have tj : sr_cn p 0 (j + 1) = sr_cn p 0 j + 1 := sr_cn_t (by rw [Nat.zero_add]; exact hj)
  rcases Nat.lt_trichotomy i j with z | z | z
  · have := sr_cn_mono p 0 (show i + 1 ≤ j from z); omega
  · exact z
  · have := sr_cn_mono p 0 (show j + 1 ≤ i from z); omega
theorem sr_cn_none {p : Nat → Bool} {N n : Nat} (h : sr_cn p 0 N ≤ n) : ∀ k, k < N → p k = true → sr_cn p 0 k = n → False := by
  intro k hk pk e
  have t : sr_cn p 0 (k + 1) = sr_cn p 0 k + 1 := sr_cn_t (by rw [Nat.zero_add]; exact pk)
  have := sr_cn_mono p 0 (show k + 1 ≤ N from hk)
  omega
/-! the numbering of all lists -/
def sr_st : Nat → Nat
  | 0 => 0
  | n + 1 => sr_st n + 4 ^ n
def sr_ln (k : Nat) : Nat := if 1365 ≤ k then 6 else if 341 ≤ k then 5 else if 85 ≤ k then 4 else if 21 ≤ k then 3 else if 5 ≤ k then 2 else if 1 ≤ k then 1 else 0
theorem sr_st0 : sr_st 0 = 0 := rfl
theorem sr_st1 : sr_st 1 = 1 := rfl
theorem sr_st2 : sr_st 2 = 5 := rfl
theorem sr_st3 : sr_st 3 = 21 := rfl
theorem sr_st4 : sr_st 4 = 85 := rfl
theorem sr_st5 : sr_st 5 = 341 := rfl
theorem sr_st6 : sr_st 6 = 1365 := rfl
theorem sr_st7 : sr_st 7 = 5461 := rfl
theorem sr_7 {P : Nat → Prop} (h0 : P 0) (h1 : P 1) (h2 : P 2) (h3 : P 3) (h4 : P 4) (h5 : P 5) (h6 : P 6) : ∀ n, n ≤ 6 → P n := by
  intro n h
  have e : n = 0 ∨ n = 1 ∨ n = 2 ∨ n = 3 ∨ n = 4 ∨ n = 5 ∨ n = 6 := by omega
  rcases e with e | e | e | e | e | e | e <;> subst e <;> assumption
theorem sr_st_le : ∀ n, n ≤ 6 → sr_st n + 4 ^ n ≤ 5461 ∧ 4 ^ n ≤ 4096 ∧ 0 < 4 ^ n := sr_7 (by decide) (by decide) (by decide) (by decide) (by decide) (by decide) (by decide)
theorem sr_ln_st : ∀ n, n ≤ 6 → ∀ c, c < 4 ^ n → sr_ln (sr_st n + c) = n := by
  apply sr_7 <;> intro c hc <;> simp only [sr_st0, sr_st1, sr_st2, sr_st3, sr_st4, sr_st5, sr_st6] <;> simp at hc <;> unfold sr_ln <;> (repeat' split) <;> omega
theorem sr_ln_in (k : Nat) (h : k < 5461) : sr_ln k ≤ 6 ∧ sr_st (sr_ln k) ≤ k ∧ k - sr_st (sr_ln k) < 4 ^ sr_ln k := by
  unfold sr_ln
  (repeat' split) <;> simp only [sr_st0, sr_st1, sr_st2, sr_st3, sr_st4, sr_st5, sr_st6] <;> simp <;> omega
def sr_P (F : Nat → Nat → Bool) (k : Nat) : Bool := F (sr_ln k) (k - sr_st (sr_ln k))
theorem sr_P_at (F : Nat → Nat → Bool) {n c : Nat} (hn : n ≤ 6) (hc : c < 4 ^ n) : sr_P F (sr_st n + c) = F n c := by
  unfold sr_P
  rw [sr_ln_st n hn c hc, Nat.add_sub_cancel_left]
theorem sr_blk (F : Nat → Nat → Bool) {n a d : Nat} (hn : n ≤ 6) (h : a + d ≤ 4 ^ n) : sr_cn (sr_P F) (sr_st n + a) d = sr_cn (F n) a d := by
  apply sr_cn_sh
  intro j hj
  rw [Nat.add_assoc]
  exact sr_P_at F hn (by omega)
def sr_sh (F : Nat → Nat → Bool) : Nat → Nat
  | 0 => 0
  | n + 1 => sr_sh F n + sr_cn (F n) 0 (4 ^ n)
theorem sr_sh_cn (F : Nat → Nat → Bool) : ∀ b, b ≤ 7 → sr_sh F b = sr_cn (sr_P F) 0 (sr_st b) := by
  intro b
  induction b with
  | zero => intro _; rfl
  | succ b ih =>
    intro h
    simp only [sr_sh, sr_st]
    rw [ih (by omega), sr_cn_add, Nat.zero_add]
    have := sr_blk F (n := b) (a := 0) (d := 4 ^ b) (by omega) (by omega)
    rw [Nat.add_zero] at this
    rw [this]
/-- the number in the order of all failing lists of the one with n elements and the code c -/
theorem sr_rank (F : Nat → Nat → Bool) {n c : Nat} (hn : n ≤ 6) (hc : c ≤ 4 ^ n) : sr_cn (sr_P F) 0 (sr_st n + c) = sr_sh F n + sr_cn (F n) 0 c := by
  rw [sr_cn_add, sr_sh_cn F n (by omega), Nat.zero_add]
  have := sr_blk F (n := n) (a := 0) (d := c) hn (by omega)
  rw [Nat.add_zero] at this
  rw [this]
/-- of the lists with code c * w .. the ones that begin alike -/
theorem sr_ext (p : Nat → Bool) {N c w : Nat} (hw : 0 < w) (h : (c + 1) * w ≤ N) : sr_cn (fun j => p j && decide (j / w = c)) 0 N = sr_cn p (c * w) w := by
  have hm : (c + 1) * w = c * w + w := Nat.succ_mul c w
  obtain ⟨e, rfl⟩ : ∃ e, N = c * w + w + e := ⟨N - (c * w + w), by omega⟩
  rw [sr_cn_add, sr_cn_add, Nat.zero_add, Nat.zero_add]
  have h1 : sr_cn (fun j => p j && decide (j / w = c)) 0 (c * w) = 0 := sr_cn_z (by
    intro j hj
    have : j / w < c := (Nat.div_lt_iff_lt_mul hw).mpr hj
    have n1 : ¬ j / w = c := by omega
    rw [Nat.zero_add]
    simp [n1])
  have h2 : sr_cn (fun j => p j && decide (j / w = c)) (c * w) w = sr_cn p (c * w) w := sr_cn_sh (by
    intro j hj
    have : (c * w + j) / w = c := by
      rw [Nat.add_comm, Nat.add_mul_div_right _ _ hw, Nat.div_eq_of_lt hj, Nat.zero_add]
    simp [this])
  have h3 : sr_cn (fun j => p j && decide (j / w = c)) (c * w + w) e = 0 := sr_cn_z (by
    intro j hj
    have : c + 1 ≤ (c * w + w + j) / w := (Nat.le_div_iff_mul_le hw).mpr (by omega)
    have n1 : ¬ (c * w + w + j) / w = c := by omega
    simp [n1])
  rw [h1, h2, h3, Nat.zero_add, Nat.add_zero]
end
section
/-! the printed shifts and masks over numbers below 2^31; the marks -/
theorem sr_dig {c : Nat} (hc : c < 2 ^ 31) : nI c &&& 3 = nI (c % 4) := pk_andN (by omega) 2 (by decide)
theorem sr_shr2 {c : Nat} (hc : c < 2 ^ 31) : nI c >>> ((2 : Int32) &&& 31) = nI (c / 4) := pk_shrN hc _ 2 (by decide)
theorem sr_dv (c i : Nat) : c / 4 ^ i / 4 = c / 4 ^ (i + 1) := by rw [Nat.div_div_eq_div_mul, Nat.pow_succ]
theorem sr_dvlt {c : Nat} (i : Nat) (hc : c < 2 ^ 31) : c / 4 ^ i < 2 ^ 31 := Nat.lt_of_le_of_lt (Nat.div_le_self _ _) hc
theorem sr_digi {c : Nat} (i : Nat) (hc : c < 2 ^ 31) : nI (c / 4 ^ i) &&& 3 = nI (sr_d c i) := sr_dig (sr_dvlt i hc)
theorem sr_shri {c : Nat} (i : Nat) (hc : c < 2 ^ 31) : nI (c / 4 ^ i) >>> ((2 : Int32) &&& 31) = nI (c / 4 ^ (i + 1)) := by rw [sr_shr2 (sr_dvlt i hc), sr_dv]
theorem sr_c0 (c : Nat) : c / 4 ^ 0 = c := by rw [Nat.pow_zero, Nat.div_one]
theorem sr_mul2 (m : Nat) : (2 : Int32) * nI m = nI (2 * m) := pk_mul 2 m
theorem sr_pow : ∀ n, n < 8 → (1 : Int32) <<< ((2 * nI n) &&& 31) = nI (4 ^ n) := by decide +kernel
theorem sr_22 (m : Nat) : 2 ^ (2 * m) = 4 ^ m := by rw [Nat.pow_mul]
theorem sr_shrD {c m : Nat} (hc : c < 2 ^ 31) (hm : m < 8) : nI c >>> ((2 * nI m) &&& 31) = nI (c / 4 ^ m) := by
  rw [sr_mul2, pk_shrN hc _ (2 * m) (s_l (2 * m) (by omega)), sr_22]
theorem sr_shlD {c m : Nat} (hm : m < 8) (h : c * 4 ^ m < 2 ^ 31) : nI c <<< ((2 * nI m) &&& 31) = nI (c * 4 ^ m) := by
  rw [sr_mul2, pk_shlN _ (2 * m) (s_l (2 * m) (by omega)) (by rw [sr_22]; omega), sr_22]
theorem sr_sub1 {n : Nat} (h : 0 < n) : nI n - 1 = nI (n - 1) := pk_sub (b := 1) h
theorem sr_subi {n i : Nat} (h : i < n) : nI n - 1 - nI i = nI (n - 1 - i) := by
  rw [sr_sub1 (by omega), pk_sub (by omega)]
theorem sr_at {n c i : Nat} (hi : i < n) (hn : n ≤ 6) (hc : c < 2 ^ 31) : (nI c >>> ((2 * (nI n - 1 - nI i)) &&& 31)) &&& 3 = nI (sr_d c (n - 1 - i)) := by
  rw [sr_subi hi, sr_shrD hc (by omega), sr_digi _ hc]
theorem sr_or (a b : Nat) : nI a ||| nI b = nI (a ||| b) := by
  apply Int32.toBitVec_inj.1
  show BitVec.ofNat 32 a ||| BitVec.ofNat 32 b = BitVec.ofNat 32 (a ||| b)
  apply BitVec.eq_of_getLsbD_eq
  intro i hi
  simp [hi]
theorem sr_or4 {c x : Nat} (hc : c < 4096) (hx : x < 4) : (nI c <<< ((2 : Int32) &&& 31)) ||| nI x = nI (c * 4 + x) := by
  rw [pk_shlN _ 2 (by decide) (by omega), sr_or]
  have h := Nat.two_pow_add_eq_or_of_lt (i := 2) (b := x) (by omega) c
  rw [Nat.mul_comm c (2 ^ 2), ← h]
theorem sr_lin {c n : Nat} (h : c < 4 ^ n) {x : Nat} (hx : x < 4) : c * 4 + x < 4 ^ (n + 1) := by
  rw [Nat.pow_succ]
  omega
def sr_Mk (M : Nat → Int32) (P : Nat → Bool) (N : Nat) : Prop := ∀ k, k < 5472 → bt (M (k / 32)) (k % 32) = (decide (k < N) && P k)
theorem sr_Mk0 {M : Nat → Int32} {P : Nat → Bool} (h : ∀ j, j < 171 → M j = 0) : sr_Mk M P 0 := by
  intro k hk
  rw [h (k / 32) (by omega), b_0, decide_eq_false (by omega), Bool.false_and]
theorem sr_Mkf {M : Nat → Int32} {P : Nat → Bool} {k : Nat} (h : sr_Mk M P k) (z : P k = false) : sr_Mk M P (k + 1) := by
  intro j hj
  rw [h j hj]
  by_cases e : j = k
  · subst e; rw [z, Bool.and_false, Bool.and_false]
  · have i : (j < k) ↔ (j < k + 1) := by omega
    rw [decide_eq_decide.mpr i]
theorem sr_Mkt {M : Nat → Int32} {P : Nat → Bool} {k : Nat} (h : sr_Mk M P k) (z : P k = true) : sr_Mk (upd M (k / 32) (M (k / 32) ||| ((1 : Int32) <<< (nI (k % 32) &&& 31)))) P (k + 1) := by
  intro j hj
  have hk : k % 32 < 32 := Nat.mod_lt _ (by decide)
  by_cases e : j / 32 = k / 32
  · have t : bt ((1 : Int32) <<< (nI (k % 32) &&& 31)) (j % 32) = decide (k % 32 = j % 32) := by
      unfold bt
      rw [nf_sh (k % 32) hk, BitVec.getLsbD_twoPow, decide_eq_true hk, Bool.true_and]
    rw [e, pk_us, b_or, t, ← e, h j hj]
    by_cases f : k % 32 = j % 32
    · have q : j = k := by omega
      subst q
      rw [decide_eq_true (show j % 32 = j % 32 from rfl), decide_eq_true (show j < j + 1 by omega), z]
      simp
    · have i : (j < k) ↔ (j < k + 1) := by omega
      rw [decide_eq_false f, Bool.or_false, decide_eq_decide.mpr i]
  · have q : j ≠ k := fun q => e (by rw [q])
    have i : (j < k) ↔ (j < k + 1) := by omega
    rw [pk_un e, h j hj, decide_eq_decide.mpr i]
theorem sr_low (x : Int32) {b : Bool} (h : bt x 0 = b) : x &&& 1 = sr_bI b := by
  have h2 : decide (x.toBitVec.toNat % 2 = 1) = b := by rw [← Nat.testBit_zero]; exact h
  rw [pk_and x 1 (by decide)]
  show nI (x.toBitVec.toNat % 2) = _
  cases b
  · have n1 : ¬ x.toBitVec.toNat % 2 = 1 := of_decide_eq_false h2
    have n0 : x.toBitVec.toNat % 2 = 0 := by omega
    rw [n0]; rfl
  · rw [of_decide_eq_true h2]; rfl
theorem sr_Mkr {M : Nat → Int32} {P : Nat → Bool} {k : Nat} (h : sr_Mk M P 5461) (hk : k < 5461) : (M (k / 32) >>> (nI (k % 32) &&& 31)) &&& 1 = sr_bI (P k) := by
  have hm : k % 32 < 32 := Nat.mod_lt _ (by decide)
  apply sr_low
  rw [b_sshr (k % 32) hm _ (by decide), Nat.add_zero, if_pos hm, h k (by omega), decide_eq_true hk, Bool.true_and]
theorem sr_k32 {k : Nat} (h : k < 2 ^ 31) : nI k / 32 = nI (k / 32) := pk_div (d := 32) h (by decide) (by decide)
theorem sr_r32 {k : Nat} (h : k < 2 ^ 31) : nI k - nI k / 32 * 32 = nI (k % 32) := pk_rem (d := 32) h (by decide) (by decide)
end
section
/-! the component's private methods, each with a general post -/
theorem sr_bf : sr_bI false = 0 := rfl
theorem sr_bt : sr_bI true = 1 := rfl
theorem sr_1n0 : ¬ (1 : Int32) = 0 := by decide
theorem sr_c31 {n c : Nat} (hn : n ≤ 6) (hc : c < 4 ^ n) : c < 2 ^ 31 := by
  have := (sr_st_le n hn).2.1
  omega
theorem sr_xsum7 (post : Int32 → Prop) {n c : Nat} (hn : n ≤ 6) (hc : c < 2 ^ 31) (hp : post (nI (sr_S (sr_d c) n))) : ∀ d i, i + d = n → wX_sumOf_7 post (nI n) (d + 1) (nI (sr_S (sr_d c) i)) (nI (c / 4 ^ i)) (nI i) := by
  intro d
  induction d with
  | zero =>
    intro i hi
    have e : i = n := by omega
    rw [e]
    exact br_t (nI_le (Nat.le_refl _) (by omega)) hp
  | succ d ih =>
    intro i hi
    refine br_f (nI_ge (by omega) (by omega)) (nm_r (e' := nI (sr_S (sr_d c) (i + 1))) ?_ (nm_r (sr_shri i hc) (nm_r (nI_1 i) (ih (i + 1) (by omega)))))
    rw [sr_digi i hc, nI_add]
    rfl
theorem sr_xsum (post : Int32 → Prop) {n c : Nat} (hn : n ≤ 6) (hc : c < 2 ^ 31) (hp : post (nI (sr_S (sr_d c) n))) : wpX_sumOf post (nI n) (nI c) := by
  have h := sr_xsum7 post hn hc hp n 0 (by omega)
  rw [sr_c0] at h
  exact ⟨_, h⟩
theorem sr_occ_t {i c : Nat} {a : Int32} (z : nI (sr_d c i) = a) : sr_occ (i + 1) c a = sr_occ i c a + 1 := by
  unfold sr_occ
  simp only [sr_S, z, if_true]
theorem sr_occ_f {i c : Nat} {a : Int32} (z : ¬ nI (sr_d c i) = a) : sr_occ (i + 1) c a = sr_occ i c a := by
  unfold sr_occ
  simp only [sr_S, z, if_false, Nat.add_zero]
theorem sr_xocc8 (post : Int32 → Prop) {n c : Nat} (a : Int32) (hn : n ≤ 6) (hc : c < 2 ^ 31) (hp : post (nI (sr_occ n c a))) : ∀ d i, i + d = n → wX_timesIn_8 post (nI n) a (d + 1) (nI (sr_occ i c a)) (nI (c / 4 ^ i)) (nI i) := by
  intro d
  induction d with
  | zero =>
    intro i hi
    have e : i = n := by omega
    rw [e]
    exact br_t (nI_le (Nat.le_refl _) (by omega)) hp
  | succ d ih =>
    intro i hi
    refine br_f (nI_ge (by omega) (by omega)) ?_
    by_cases z : nI (sr_d c i) = a
    · refine br_t (by rw [sr_digi i hc]; exact z) (nm_r (e' := nI (sr_occ (i + 1) c a)) ?_ (nm_r (sr_shri i hc) (nm_r (nI_1 i) (ih (i + 1) (by omega)))))
      rw [sr_occ_t z, nI_1]
    · refine br_f (by rw [sr_digi i hc]; exact z) (nm_r (sr_shri i hc) (nm_r (nI_1 i) ?_))
      have h := ih (i + 1) (by omega)
      rw [sr_occ_f z] at h
      exact h
theorem sr_xocc (post : Int32 → Prop) {n c : Nat} (a : Int32) (hn : n ≤ 6) (hc : c < 2 ^ 31) (hp : post (nI (sr_occ n c a))) : wpX_timesIn post (nI n) (nI c) a := by
  have h := sr_xocc8 post a hn hc hp n 0 (by omega)
  rw [sr_c0] at h
  exact ⟨_, h⟩
theorem sr_xpair6 (post : Int32 → Prop) {n c : Nat} (a b : Int32) (hn : n ≤ 6) (hc : c < 2 ^ 31) (hp : post (sr_bI (sr_pair n c a b))) : ∀ d j, j + d = n - 1 → (∀ i, i < j → (decide (nI (sr_d c (i + 1)) = a) && decide (nI (sr_d c i) = b)) = false) → wX_hasPair_6 post (nI n) a b (d + 1) (nI (c / 4 ^ j)) (nI (j + 1)) := by
  intro d
  induction d with
  | zero =>
    intro j hj hf
    have e : j = n - 1 := by omega
    rw [e] at hf
    have z : sr_pair n c a b = false := sr_E_f hf
    rw [z] at hp
    exact br_t (nI_le (by omega) (by omega)) hp
  | succ d ih =>
    intro j hj hf
    refine br_f (nI_ge (by omega) (by omega)) (nm_r (sr_digi j hc) (nm_r (sr_shri j hc) (nm_r (sr_digi (j + 1) hc) ?_)))
    by_cases z1 : nI (sr_d c (j + 1)) = a
    · by_cases z2 : nI (sr_d c j) = b
      · have z : sr_pair n c a b = true := sr_E_t (i := j) (by omega) (by rw [decide_eq_true z1, decide_eq_true z2]; rfl)
        rw [z] at hp
        exact br_t z1 (br_t z2 hp)
      · refine br_t z1 (br_f z2 (nm_r (nI_1 (j + 1)) (ih (j + 1) (by omega) ?_)))
        exact lt_s hf (by rw [decide_eq_false z2, Bool.and_false])
    · refine br_f z1 (nm_r (nI_1 (j + 1)) (ih (j + 1) (by omega) ?_))
      exact lt_s hf (by rw [decide_eq_false z1, Bool.false_and])
theorem sr_xpair (post : Int32 → Prop) {n c : Nat} (a b : Int32) (hn : n ≤ 6) (hc : c < 2 ^ 31) (hp : post (sr_bI (sr_pair n c a b))) : wpX_hasPair post (nI n) (nI c) a b := by
  have h := sr_xpair6 post a b hn hc hp (n - 1) 0 (by omega) (fun i hi => absurd hi (Nat.not_lt_zero i))
  rw [sr_c0] at h
  exact ⟨_, h⟩
theorem sr_xrises4 (post : Int32 → Prop) {n c : Nat} (hn : n ≤ 6) (hc : c < 2 ^ 31) (hp : post (sr_bI (sr_rises n c))) : ∀ d j, j + d = n - 1 → (∀ i, i < j → decide (sr_d c (i + 1) < sr_d c i) = false) → wX_rises_4 post (nI n) (d + 1) (nI (c / 4 ^ j)) (nI (j + 1)) := by
  intro d
  induction d with
  | zero =>
    intro j hj hf
    have e : j = n - 1 := by omega
    rw [e] at hf
    have z : sr_rises n c = false := sr_E_f hf
    rw [z] at hp
    exact br_t (nI_le (by omega) (by omega)) hp
  | succ d ih =>
    intro j hj hf
    have b1 := sr_d_lt c j
    have b2 := sr_d_lt c (j + 1)
    refine br_f (nI_ge (by omega) (by omega)) (nm_r (sr_digi j hc) (nm_r (sr_shri j hc) (nm_r (sr_digi (j + 1) hc) ?_)))
    refine pk_le (sr_d c j) (sr_d c (j + 1)) (fun z => nm_r (nI_1 (j + 1)) (ih (j + 1) (by omega) ?_)) (fun z => ?_)
    · exact lt_s hf (decide_eq_false (by omega))
    · have z : sr_rises n c = true := sr_E_t (i := j) (by omega) (decide_eq_true z)
      rw [z] at hp
      exact hp
theorem sr_xrises (post : Int32 → Prop) {n c : Nat} (hn : n ≤ 6) (hc : c < 2 ^ 31) (hp : post (sr_bI (sr_rises n c))) : wpX_rises post (nI n) (nI c) := by
  have h := sr_xrises4 post hn hc hp (n - 1) 0 (by omega) (fun i hi => absurd hi (Nat.not_lt_zero i))
  rw [sr_c0] at h
  exact ⟨_, h⟩
theorem sr_xat (post : Int32 → Prop) {n c i : Nat} (hn : n ≤ 6) (hc : c < 2 ^ 31) (hi : i < n) (hp : post (nI (sr_d c (n - 1 - i)))) : wpX_elementAt post (nI n) (nI c) (nI i) := by
  unfold wpX_elementAt
  rw [sr_at hi hn hc]
  exact hp
theorem sr_out {k : Int32} (h : k < 0 ∨ 8 < k) : ¬ k = 0 ∧ ¬ k = 1 ∧ ¬ k = 2 ∧ ¬ k = 3 ∧ ¬ k = 4 ∧ ¬ k = 5 ∧ ¬ k = 6 ∧ ¬ k = 7 ∧ ¬ k = 8 := by
  refine ⟨?_, ?_, ?_, ?_, ?_, ?_, ?_, ?_, ?_⟩ <;> (intro e; subst e; revert h; decide)
/-- decisions into branches -/
theorem sr_dec {post : Int32 → Prop} {p : Prop} {i : Decidable p} (h : post (sr_bI (@decide p i))) : (p → post 1) ∧ (¬ p → post 0) :=
  ⟨fun z => by rw [decide_eq_true z] at h; exact h, fun z => by rw [decide_eq_false z] at h; exact h⟩
theorem sr_dle {post : Int32 → Prop} {x y : Int32} (h : post (sr_bI (decide (x ≤ y)))) : (y < x → post 0) ∧ (¬ y < x → post 1) :=
  ⟨fun z => (sr_dec h).2 (Int32.not_le.mpr z), fun z => (sr_dec h).1 (Int32.not_lt.mp z)⟩
theorem sr_dpar {post : Int32 → Prop} {x b : Int32} (h : post (sr_bI (decide (x - x / 2 * 2 = b)))) : ¬ (2 : Int32) = 0 ∧ ((x - x / 2 * 2 = b → post 1) ∧ (¬ x - x / 2 * 2 = b → post 0)) := ⟨by decide, sr_dec h⟩
theorem sr_dn {post : Int32 → Prop} {g : Bool} (h : post (sr_bI (!g))) : (sr_bI g = 0 → post 1) ∧ (¬ sr_bI g = 0 → post 0) := by
  cases g
  · exact br_t rfl h
  · exact br_f sr_1n0 h
theorem sr_dsum {post : Int32 → Prop} {x a b : Int32} (hp : post (sr_bI (decide (0 < a) && decide (x - x / a * a = b)))) (W : (Int32 → Prop) → Prop) (hW : ∀ Q : Int32 → Prop, Q x → W Q) : (a ≤ 0 → post 0) ∧ (¬ a ≤ 0 → W (fun r => ¬ a = 0 ∧ ((r - r / a * a = b → post 1) ∧ (¬ r - r / a * a = b → post 0)))) := by
  refine br_c (fun z => ?_) (fun z => hW _ ⟨?_, ?_⟩)
  · rw [decide_eq_false (Int32.not_lt.mpr z), Bool.false_and] at hp
    exact hp
  · intro e
    exact z (by rw [e]; decide)
  · rw [decide_eq_true (Int32.not_le.mp z), Bool.true_and] at hp
    exact sr_dec hp
theorem sr_dpos {post : Int32 → Prop} {n : Nat} {g : Bool} {Q : Prop} (hn : n ≤ 6) (hp : post (sr_bI (decide (0 < n) && g))) (hq : 0 < n → post (sr_bI g) → Q) : (nI n ≤ 0 → post 0) ∧ (¬ nI n ≤ 0 → Q) := by
  refine pk_le n 0 (fun z => ?_) (fun z => hq z ?_)
  · rw [decide_eq_false (show ¬ 0 < n by omega), Bool.false_and] at hp
    exact hp
  · rw [decide_eq_true z, Bool.true_and] at hp
    exact hp
theorem sr_xmeets (post : Int32 → Prop) (k a b : Int32) {n c : Nat} (hn : n ≤ 6) (hcn : c < 4 ^ n) (hp : post (sr_bI (sr_mt k a b n c))) : wpX_meets post k a b (nI n) (nI c) := by
  have hc : c < 2 ^ 31 := sr_c31 hn hcn
  unfold sr_mt at hp
  refine br_c (fun z => ?_) (fun z0 => br_c (fun z => ?_) (fun z8 => br_c (fun e => ?_) (fun n0 => br_c (fun e => ?_) (fun n1 => br_c (fun e => ?_) (fun n2 => br_c (fun e => ?_) (fun n3 => br_c (fun e => ?_) (fun n4 => br_c (fun e => ?_) (fun n5 => br_c (fun e => ?_) (fun n6 => br_c (fun e => ?_) (fun n7 => br_c (fun e => ?_) (fun n8 => trivial)))))))))))
  · obtain ⟨n0, n1, n2, n3, n4, n5, n6, n7, n8⟩ := sr_out (Or.inl z)
    rw [if_neg n0, if_neg n1, if_neg n2, if_neg n3, if_neg n4, if_neg n5, if_neg n6, if_neg n7, if_neg n8] at hp
    exact sr_xocc _ a hn hc (sr_dpar hp)
  · obtain ⟨n0, n1, n2, n3, n4, n5, n6, n7, n8⟩ := sr_out (Or.inr z)
    rw [if_neg n0, if_neg n1, if_neg n2, if_neg n3, if_neg n4, if_neg n5, if_neg n6, if_neg n7, if_neg n8] at hp
    exact sr_xocc _ a hn hc (sr_dpar hp)
  · rw [if_pos e] at hp
    exact sr_dsum hp (fun Q => wpX_sumOf Q (nI n) (nI c)) (fun Q hQ => sr_xsum Q hn hc hQ)
  · rw [if_neg n0, if_pos e] at hp
    exact sr_xocc _ a hn hc (sr_dle hp)
  · rw [if_neg n0, if_neg n1, if_pos e] at hp
    exact sr_xocc _ a hn hc (sr_dle hp)
  · rw [if_neg n0, if_neg n1, if_neg n2, if_pos e] at hp
    exact sr_xpair _ a b hn hc ⟨sr_bI_n _, hp⟩
  · rw [if_neg n0, if_neg n1, if_neg n2, if_neg n3, if_pos e] at hp
    exact sr_xpair _ a b hn hc (sr_dn hp)
  · rw [if_neg n0, if_neg n1, if_neg n2, if_neg n3, if_neg n4, if_pos e] at hp
    exact sr_dpos hn hp (fun h0 h1 => sr_xat _ (i := 0) hn hc h0 (sr_dle h1))
  · rw [if_neg n0, if_neg n1, if_neg n2, if_neg n3, if_neg n4, if_neg n5, if_pos e] at hp
    refine sr_dpos hn hp (fun h0 h1 => ?_)
    rw [sr_sub1 h0]
    refine sr_xat _ hn hc (by omega) ?_
    rw [Nat.sub_self]
    exact sr_dle h1
  · rw [if_neg n0, if_neg n1, if_neg n2, if_neg n3, if_neg n4, if_neg n5, if_neg n6, if_pos e] at hp
    exact sr_dle hp
  · rw [if_neg n0, if_neg n1, if_neg n2, if_neg n3, if_neg n4, if_neg n5, if_neg n6, if_neg n7, if_pos e] at hp
    exact sr_xrises _ hn hc ⟨sr_bI_n _, hp⟩
theorem sr_F_t {K A B : Nat → Int32} {q n c : Nat} (h : sr_F K A B q n c = true) (z : sr_mt (K q) (A q) (B q) n c = true) : sr_F K A B (q + 1) n c = true := by
  simp only [sr_F, h, z, Bool.and_self]
theorem sr_xall2 (post : Int32 → Prop) {q n c : Nat} (fl fc : Int32) (K A B : Nat → Int32) (hq : q ≤ 3) (hn : n ≤ 6) (hc : c < 4 ^ n) (hp : post (sr_bI (sr_F K A B q n c))) : ∀ d i, i + d = q → sr_F K A B i n c = true → wX_meetsAll_2 post (nI n) (nI c) (nI q) fl fc K A B (d + 1) (nI i) := by
  intro d
  induction d with
  | zero =>
    intro i hi hf
    have e : i = q := by omega
    rw [e] at hf
    rw [hf] at hp
    exact br_t (nI_le (by omega) (by omega)) hp
  | succ d ih =>
    intro i hi hf
    have hin : vp_in (nI i) 3 := vp_in_nI (by omega) (by omega)
    refine br_f (nI_ge (by omega) (by omega)) ⟨hin, hin, hin, ?_⟩
    rw [nI_clamp (n := i) (by omega)]
    refine sr_xmeets _ _ _ _ hn hc ?_
    cases z : sr_mt (K i) (A i) (B i) n c
    · rw [sr_F_f (show i < q by omega) z] at hp
      exact br_t rfl hp
    · exact br_f sr_1n0 (nm_r (nI_1 i) (ih (i + 1) (by omega) (sr_F_t hf z)))
theorem sr_xall (post : Int32 → Prop) {q n c : Nat} (fl fc : Int32) (K A B : Nat → Int32) (hq : q ≤ 3) (hn : n ≤ 6) (hc : c < 4 ^ n) (hp : post (sr_bI (sr_F K A B q n c))) : wpX_meetsAll post (nI q, fl, fc, K, A, B) (nI n) (nI c) :=
  ⟨_, sr_xall2 post fl fc K A B hq hn hc hp q 0 (by omega) rfl⟩
end
section
/-! the component's counting methods -/
theorem sr_xbtw6 (post : Int32 → Prop) {q n f t : Nat} (fl fc : Int32) (K A B : Nat → Int32) (hq : q ≤ 3) (hn : n ≤ 6) (ht : f + t ≤ 4 ^ n) (hp : post (nI (sr_cn (sr_F K A B q n) f t))) : ∀ d i, i + d = t → wX_failingBetween_6 post (nI n) (nI (f + t)) (nI q) fl fc K A B (d + 1) (nI (sr_cn (sr_F K A B q n) f i)) (nI (f + i)) := by
  have h4 := (sr_st_le n hn).2.1
  intro d
  induction d with
  | zero =>
    intro i hi
    have e : i = t := by omega
    rw [e]
    exact br_t (nI_le (Nat.le_refl _) (by omega)) hp
  | succ d ih =>
    intro i hi
    refine br_f (nI_ge (by omega) (by omega)) (sr_xall _ fl fc K A B hq hn (by omega) ?_)
    have h := ih (i + 1) (by omega)
    cases z : sr_F K A B q n (f + i)
    · rw [sr_cn_f z] at h
      exact br_t rfl (nm_r (nI_1 (f + i)) h)
    · rw [sr_cn_t z] at h
      exact br_f sr_1n0 (nm_r (nI_1 _) (nm_r (nI_1 (f + i)) h))
theorem sr_xbtw (post : Int32 → Prop) {q n : Nat} (f t : Nat) (fl fc : Int32) (K A B : Nat → Int32) (hq : q ≤ 3) (hn : n ≤ 6) (ht : f + t ≤ 4 ^ n) (hp : post (nI (sr_cn (sr_F K A B q n) f t))) : wpX_failingBetween post (nI q, fl, fc, K, A, B) (nI n) (nI f) (nI (f + t)) :=
  ⟨_, sr_xbtw6 post fl fc K A B hq hn ht hp t 0 (by omega)⟩
theorem sr_xlists (post : Int32 → Prop) {n : Nat} (hn : n ≤ 6) (hp : post (nI (4 ^ n))) : wpX_listsOf post (nI n) := by
  unfold wpX_listsOf
  rw [sr_pow n (by omega)]
  exact hp
/-- all of one length -/
theorem sr_xone (post : Int32 → Prop) {q n : Nat} (fl fc : Int32) (K A B : Nat → Int32) (hq : q ≤ 3) (hn : n ≤ 6) (hp : post (nI (sr_cn (sr_F K A B q n) 0 (4 ^ n)))) : wpX_failingBetween post (nI q, fl, fc, K, A, B) (nI n) 0 (nI (4 ^ n)) := by
  have h := sr_xbtw post 0 (4 ^ n) fl fc K A B hq hn (by omega) hp
  rw [Nat.zero_add] at h
  exact h
theorem sr_xof (post : Int32 → Prop) {q n : Nat} (fl fc : Int32) (K A B : Nat → Int32) (hq : q ≤ 3) (hn : n ≤ 6) (hp : post (nI (sr_cn (sr_F K A B q n) 0 (4 ^ n)))) : wpX_failingOf post (nI q, fl, fc, K, A, B) (nI n) :=
  br_f (nI_pos (by omega)) (br_t (nI_le (b := 6) hn (by decide)) (sr_xlists _ hn (sr_xone _ fl fc K A B hq hn hp)))
theorem sr_xcode11 (post : Int32 → Prop) {q n l : Nat} (fl fc : Int32) (K A B : Nat → Int32) (hq : q ≤ 3) (hn : n ≤ 6) (hl : l < 2 ^ 31) (h1 : ∀ c, c < 4 ^ n → sr_F K A B q n c = true → sr_cn (sr_F K A B q n) 0 c = l → post (nI c)) (h2 : sr_cn (sr_F K A B q n) 0 (4 ^ n) ≤ l → post (-4)) : ∀ d i, i + d = 4 ^ n → sr_cn (sr_F K A B q n) 0 i ≤ l → wX_codeOfFailing_11 post (nI n) (nI (4 ^ n)) (nI q) fl fc K A B (d + 1) (nI (l - sr_cn (sr_F K A B q n) 0 i)) (nI i) := by
  have h4 := (sr_st_le n hn).2.1
  intro d
  induction d with
  | zero =>
    intro i hi hc
    have e : i = 4 ^ n := by omega
    rw [e] at hc
    rw [e]
    exact br_t (nI_le (Nat.le_refl _) (by omega)) (h2 hc)
  | succ d ih =>
    intro i hi hc
    refine br_f (nI_ge (by omega) (by omega)) (sr_xall _ fl fc K A B hq hn (by omega) ?_)
    have h := ih (i + 1) (by omega)
    cases z : sr_F K A B q n i
    · rw [sr_cn_f (by rw [Nat.zero_add]; exact z)] at h
      exact br_t rfl (nm_r (nI_1 i) (h hc))
    · rw [sr_cn_t (by rw [Nat.zero_add]; exact z)] at h
      refine br_f sr_1n0 (pk_eq (l - sr_cn (sr_F K A B q n) 0 i) 0 (fun e => h1 i (by omega) z (by omega)) (fun e => ?_))
      have h' := h (by omega)
      refine nm_r (e' := nI (l - (sr_cn (sr_F K A B q n) 0 i + 1))) ?_ (nm_r (nI_1 i) h')
      have e2 : l - sr_cn (sr_F K A B q n) 0 i = l - (sr_cn (sr_F K A B q n) 0 i + 1) + 1 := by omega
      rw [e2]
      exact pk_m1 _
theorem sr_xcode (post : Int32 → Prop) {q n l : Nat} (fl fc : Int32) (K A B : Nat → Int32) (hq : q ≤ 3) (hn : n ≤ 6) (hl : l < 2 ^ 31) (h1 : ∀ c, c < 4 ^ n → sr_F K A B q n c = true → sr_cn (sr_F K A B q n) 0 c = l → post (nI c)) (h2 : sr_cn (sr_F K A B q n) 0 (4 ^ n) ≤ l → post (-4)) : wpX_codeOfFailing post (nI q, fl, fc, K, A, B) (nI n) (nI l) := by
  unfold wpX_codeOfFailing
  dsimp only
  exact sr_xlists _ hn ⟨_, sr_xcode11 post fl fc K A B hq hn hl h1 h2 (4 ^ n) 0 (by omega) (Nat.zero_le _)⟩
theorem sr_sh_s (F : Nat → Nat → Bool) (n : Nat) : sr_sh F (n + 1) = sr_sh F n + sr_cn (F n) 0 (4 ^ n) := rfl
theorem sr_xload11 (post : Int32 → SX → Prop) {q v : Nat} (fl fc : Int32) (K A B : Nat → Int32) (hq : q ≤ 3) (hv : v < 2 ^ 31) (h1 : ∀ l c, l ≤ 6 → c < 4 ^ l → sr_F K A B q l c = true → sr_sh (sr_F K A B q) l + sr_cn (sr_F K A B q l) 0 c = v → post (nI l) (nI q, nI l, nI c, K, A, B)) (h2 : sr_sh (sr_F K A B q) 7 ≤ v → post (-4) (nI q, fl, fc, K, A, B)) : ∀ d l, l + d = 7 → sr_sh (sr_F K A B q) l ≤ v → wX_load_11 post (nI q) fl fc K A B (d + 1) (nI (v - sr_sh (sr_F K A B q) l)) (nI l) := by
  intro d
  induction d with
  | zero =>
    intro l hl hs
    have e : l = 7 := by omega
    subst e
    exact br_t (by decide) (h2 hs)
  | succ d ih =>
    intro l hl hs
    have hn : l ≤ 6 := by omega
    have hcn := sr_cn_le (sr_F K A B q l) 0 (4 ^ l)
    have h4 := (sr_st_le l hn).2.1
    refine br_f (nI_nlt (a := 6) hn (by decide)) (sr_xof _ fl fc K A B hq hn ?_)
    refine pk_le _ _ (fun z => ?_) (fun z => ?_)
    · refine nm_r (pk_sub z) (nm_r (nI_1 l) ?_)
      have h := ih (l + 1) (by omega) (by rw [sr_sh_s]; omega)
      rw [sr_sh_s, Nat.sub_add_eq] at h
      exact h
    · refine sr_xcode _ fl fc K A B hq hn (by omega) (fun c hc hF he => ?_) (fun z2 => ?_)
      · exact h1 l c hn hc hF (by omega)
      · omega
theorem sr_xload (post : Int32 → SX → Prop) {q v : Nat} (fl fc : Int32) (K A B : Nat → Int32) (hq : q ≤ 3) (hv : v < 2 ^ 31) (h1 : ∀ l c, l ≤ 6 → c < 4 ^ l → sr_F K A B q l c = true → sr_sh (sr_F K A B q) l + sr_cn (sr_F K A B q l) 0 c = v → post (nI l) (nI q, nI l, nI c, K, A, B)) (h2 : sr_sh (sr_F K A B q) 7 ≤ v → post (-4) (nI q, fl, fc, K, A, B)) : wpX_load post (nI q, fl, fc, K, A, B) (nI v) :=
  br_t (nI_pos' hv) ⟨_, sr_xload11 post fl fc K A B hq hv h1 h2 7 0 (by omega) (Nat.zero_le _)⟩
theorem sr_xsh4 (post : Int32 → Prop) {q b : Nat} (fl fc : Int32) (K A B : Nat → Int32) (hq : q ≤ 3) (hb : b ≤ 7) (hp : post (nI (sr_sh (sr_F K A B q) b))) : ∀ d i, i + d = b → wX_failingShorterThan_4 post (nI b) (nI q) fl fc K A B (d + 1) (nI (sr_sh (sr_F K A B q) i)) (nI i) := by
  intro d
  induction d with
  | zero =>
    intro i hi
    have e : i = b := by omega
    rw [e]
    exact br_t (nI_le (Nat.le_refl _) (by omega)) hp
  | succ d ih =>
    intro i hi
    have hn : i ≤ 6 := by omega
    exact br_f (nI_ge (by omega) (by omega)) (sr_xlists _ hn (sr_xone _ fl fc K A B hq hn (nm_r (nI_add _ _) (nm_r (nI_1 i) (ih (i + 1) (by omega))))))
theorem sr_xsh (post : Int32 → Prop) {q b : Nat} (fl fc : Int32) (K A B : Nat → Int32) (hq : q ≤ 3) (hb : b ≤ 7) (hp : post (nI (sr_sh (sr_F K A B q) b))) : wpX_failingShorterThan post (nI q, fl, fc, K, A, B) (nI b) :=
  ⟨_, sr_xsh4 post fl fc K A B hq hb hp b 0 (by omega)⟩
/-- how many fail among the lists with m elements more, and less than M, that begin with the code c of length n -/
def sr_ex (F : Nat → Nat → Bool) (n c : Nat) : Nat → Nat
  | 0 => 0
  | m + 1 => sr_ex F n c m + sr_cn (F (n + m)) (c * 4 ^ m) (4 ^ m)
theorem sr_cm {n c m : Nat} (hc : c < 4 ^ n) : c * 4 ^ m + 4 ^ m ≤ 4 ^ (n + m) := by
  rw [Nat.pow_add, ← Nat.succ_mul]
  exact Nat.mul_le_mul_right _ hc
theorem sr_xext7 (post : Int32 → Prop) {q n c : Nat} (K A B : Nat → Int32) (hq : q ≤ 3) (hn : n ≤ 6) (hc : c < 4 ^ n) (hp : post (nI (sr_ex (sr_F K A B q) n c (7 - n)))) : ∀ d m, n + m + d = 7 → wX_extending_7 post (nI q) (nI n) (nI c) K A B (d + 1) (nI (sr_ex (sr_F K A B q) n c m)) (nI (n + m)) := by
  intro d
  induction d with
  | zero =>
    intro m hm
    have e : m = 7 - n := by omega
    rw [e]
    have e2 : n + (7 - n) = 7 := by omega
    rw [e2]
    exact br_t (by decide) hp
  | succ d ih =>
    intro m hm
    have hl : n + m ≤ 6 := by omega
    have h4 := (sr_st_le (n + m) hl).2.1
    have h5 := sr_cm (m := m) hc
    have h6 : c * 4 ^ m < 2 ^ 31 := Nat.lt_of_le_of_lt (Nat.le_trans (Nat.le_add_right _ _) h5) (by omega)
    have e1 : nI (n + m) - nI n = nI m := by rw [pk_sub (by omega), Nat.add_sub_cancel_left]
    refine br_f (nI_nlt (a := 6) hl (by decide)) (nm_r e1 (nm_r (sr_shlD (by omega) h6) (sr_xlists _ (by omega) ?_)))
    rw [nI_add (c * 4 ^ m) (4 ^ m)]
    exact sr_xbtw _ _ _ _ _ K A B hq hl (by omega) (nm_r (nI_add _ _) (nm_r (nI_1 (n + m)) (ih (m + 1) (by omega))))
theorem sr_xext (post : Int32 → Prop) {q n c : Nat} (K A B : Nat → Int32) (hq : q ≤ 3) (hn : n ≤ 6) (hc : c < 4 ^ n) (hp : post (nI (sr_ex (sr_F K A B q) n c (7 - n)))) : wpX_extending post (nI q, nI n, nI c, K, A, B) :=
  ⟨_, sr_xext7 post K A B hq hn hc hp (7 - n) 0 (by omega)⟩
theorem sr_not4 {c : Nat} (h : c < 2 ^ 31) : ¬ nI c = -4 := by
  intro e
  have := nI_toInt h
  rw [e] at this
  have h4 : (-4 : Int32).toInt = -4 := by decide
  omega
theorem sr_xll2 (post : Int32 → Prop) {q : Nat} (fl fc : Int32) (K A B : Nat → Int32) (hq : q ≤ 3) (h1 : ∀ l c, l ≤ 6 → c < 4 ^ l → sr_F K A B q l c = true → sr_sh (sr_F K A B q) l + sr_cn (sr_F K A B q l) 0 c = 0 → post (nI l)) (h2 : sr_sh (sr_F K A B q) 7 = 0 → post (-4)) : ∀ d l, l + d = 7 → sr_sh (sr_F K A B q) l = 0 → wX_leastLength_2 post (nI q) fl fc K A B (d + 1) (nI l) := by
  intro d
  induction d with
  | zero =>
    intro l hl hs
    have e : l = 7 := by omega
    subst e
    exact br_t (by decide) (h2 hs)
  | succ d ih =>
    intro l hl hs
    have hn : l ≤ 6 := by omega
    refine br_f (nI_nlt (a := 6) hn (by decide)) (sr_xcode _ (l := 0) fl fc K A B hq hn (by omega) (fun c hc hF he => ?_) (fun z => ?_))
    · exact br_f (sr_not4 (sr_c31 hn hc)) (h1 l c hn hc hF (by omega))
    · exact br_t rfl (nm_r (nI_1 l) (ih (l + 1) (by omega) (by rw [sr_sh_s]; omega)))
theorem sr_xll (post : Int32 → Prop) {q : Nat} (fl fc : Int32) (K A B : Nat → Int32) (hq : q ≤ 3) (h1 : ∀ l c, l ≤ 6 → c < 4 ^ l → sr_F K A B q l c = true → sr_sh (sr_F K A B q) l + sr_cn (sr_F K A B q l) 0 c = 0 → post (nI l)) (h2 : sr_sh (sr_F K A B q) 7 = 0 → post (-4)) : wpX_leastLength post (nI q, fl, fc, K, A, B) :=
  ⟨_, sr_xll2 post fl fc K A B hq h1 h2 7 0 (by omega) rfl⟩
/-- the element with the index v of a list, as both sides reckon it -/
def sr_lv (l c : Nat) (v : Int32) : Int32 := if v < 0 then -4 else if v < nI l then (nI c >>> ((2 * ((nI l - 1) - v)) &&& 31)) &&& 3 else -4
theorem sr_lv_br {post : Int32 → Prop} {l c : Nat} {v : Int32} {Q : Prop} (hp : post (sr_lv l c v)) (hQ : post ((nI c >>> ((2 * ((nI l - 1) - v)) &&& 31)) &&& 3) → Q) : (v < 0 → post (-4)) ∧ (¬ v < 0 → ((v < nI l → Q) ∧ (¬ v < nI l → post (-4)))) := by
  unfold sr_lv at hp
  refine br_c (fun z => ?_) (fun z => br_c (fun y => ?_) (fun y => ?_))
  · rw [if_pos z] at hp
    exact hp
  · rw [if_neg z, if_pos y] at hp
    exact hQ hp
  · rw [if_neg z, if_neg y] at hp
    exact hp
theorem sr_nlt4 {v : Int32} (h : ¬ v < 0) : ¬ v < -4 := fun z => h (Int32.lt_trans z (by decide))
/-- the first failing list is one: its code -/
theorem sr_first {F : Nat → Nat → Bool} {l c c' : Nat} (h1 : F l c = true) (h2 : sr_cn (F l) 0 c = 0) (h3 : F l c' = true) (h4 : sr_cn (F l) 0 c' = 0) : c' = c := sr_cn_inj h3 h1 (by rw [h2, h4])
theorem sr_xleast (post : Int32 → Prop) {q : Nat} (v fl fc : Int32) (K A B : Nat → Int32) (hq : q ≤ 3) (h1 : ∀ l c, l ≤ 6 → c < 4 ^ l → sr_F K A B q l c = true → sr_sh (sr_F K A B q) l + sr_cn (sr_F K A B q l) 0 c = 0 → post (sr_lv l c v)) (h2 : sr_sh (sr_F K A B q) 7 = 0 → post (-4)) : wpX_least post (nI q, fl, fc, K, A, B) v := by
  refine sr_xll _ fl fc K A B hq (fun l c hl hc hF he => ?_) (fun z => ?_)
  · refine sr_lv_br (h1 l c hl hc hF he) (fun hp => ?_)
    refine sr_xcode _ (l := 0) fl fc K A B hq hl (by omega) (fun c' hc' hF' he' => ?_) (fun z => ?_)
    · have e := sr_first hF (by omega) hF' he'
      rw [e]
      exact hp
    · exact absurd z (fun z => sr_cn_none z c hc hF (by omega))
  · exact br_c (fun _ => h2 z) (fun y => br_f (sr_nlt4 y) (h2 z))
end
section
/-! the reference's private methods, each with a general post -/
theorem sr_yat (post : Int32 → Prop) {n c i : Nat} (fq fl fd kn : Int32) (K A B M : Nat → Int32) (hn : n ≤ 6) (hc : c < 2 ^ 31) (hi : i < n) (hp : post (nI (sr_d c (n - 1 - i)))) : wpY_at post (fq, fl, fd, kn, K, A, B, M) (nI n) (nI c) (nI i) := by
  unfold wpY_at
  dsimp only
  rw [sr_at hi hn hc]
  exact hp
theorem sr_ysum5 (post : Int32 → Prop) {n c : Nat} (fq fl fd kn : Int32) (K A B M : Nat → Int32) (hn : n ≤ 6) (hc : c < 2 ^ 31) (hp : post (nI (sr_S (sr_d c) n))) : ∀ d i, i + d = n → wY_sum_5 post (nI n) (nI c) fq fl fd kn K A B M (d + 1) (nI (sr_S (fun j => sr_d c (n - 1 - j)) i)) (nI i) := by
  intro d
  induction d with
  | zero =>
    intro i hi
    have e : i = n := by omega
    rw [e, sr_Srev]
    exact br_t (nI_le (Nat.le_refl _) (by omega)) hp
  | succ d ih =>
    intro i hi
    exact br_f (nI_ge (by omega) (by omega)) (sr_yat _ fq fl fd kn K A B M hn hc (by omega) (nm_r (nI_add _ _) (nm_r (nI_1 i) (ih (i + 1) (by omega)))))
theorem sr_ysum (post : Int32 → Prop) {n c : Nat} (fq fl fd kn : Int32) (K A B M : Nat → Int32) (hn : n ≤ 6) (hc : c < 2 ^ 31) (hp : post (nI (sr_S (sr_d c) n))) : wpY_sum post (fq, fl, fd, kn, K, A, B, M) (nI n) (nI c) :=
  ⟨_, sr_ysum5 post fq fl fd kn K A B M hn hc hp n 0 (by omega)⟩
def sr_oc (n c : Nat) (a : Int32) (i : Nat) : Nat := sr_S (fun j => if nI (sr_d c (n - 1 - j)) = a then 1 else 0) i
theorem sr_oc_t {n i c : Nat} {a : Int32} (z : nI (sr_d c (n - 1 - i)) = a) : sr_oc n c a (i + 1) = sr_oc n c a i + 1 := by
  unfold sr_oc
  simp only [sr_S, z, if_true]
theorem sr_oc_f {n i c : Nat} {a : Int32} (z : ¬ nI (sr_d c (n - 1 - i)) = a) : sr_oc n c a (i + 1) = sr_oc n c a i := by
  unfold sr_oc
  simp only [sr_S, z, if_false, Nat.add_zero]
theorem sr_oc_n (n c : Nat) (a : Int32) : sr_oc n c a n = sr_occ n c a := sr_Srev (fun j => if nI (sr_d c j) = a then 1 else 0) n
theorem sr_yocc6 (post : Int32 → Prop) {n c : Nat} (a fq fl fd kn : Int32) (K A B M : Nat → Int32) (hn : n ≤ 6) (hc : c < 2 ^ 31) (hp : post (nI (sr_occ n c a))) : ∀ d i, i + d = n → wY_occurs_6 post (nI n) (nI c) a fq fl fd kn K A B M (d + 1) (nI (sr_oc n c a i)) (nI i) := by
  intro d
  induction d with
  | zero =>
    intro i hi
    have e : i = n := by omega
    rw [e, sr_oc_n]
    exact br_t (nI_le (Nat.le_refl _) (by omega)) hp
  | succ d ih =>
    intro i hi
    refine br_f (nI_ge (by omega) (by omega)) (sr_yat _ fq fl fd kn K A B M hn hc (by omega) ?_)
    have h := ih (i + 1) (by omega)
    by_cases z : nI (sr_d c (n - 1 - i)) = a
    · rw [sr_oc_t z] at h
      exact br_t z (nm_r (nI_1 _) (nm_r (nI_1 i) h))
    · rw [sr_oc_f z] at h
      exact br_f z (nm_r (nI_1 i) h)
theorem sr_yocc (post : Int32 → Prop) {n c : Nat} (a fq fl fd kn : Int32) (K A B M : Nat → Int32) (hn : n ≤ 6) (hc : c < 2 ^ 31) (hp : post (nI (sr_occ n c a))) : wpY_occurs post (fq, fl, fd, kn, K, A, B, M) (nI n) (nI c) a :=
  ⟨_, sr_yocc6 post a fq fl fd kn K A B M hn hc hp n 0 (by omega)⟩
theorem sr_E_rev {p : Nat → Bool} {m : Nat} (h : ∀ i, i < m → p (m - 1 - i) = false) : sr_E p m = false := by
  apply sr_E_f
  intro i hi
  have := h (m - 1 - i) (by omega)
  rw [show m - 1 - (m - 1 - i) = i by omega] at this
  exact this
theorem sr_ypair3 (post : Int32 → Prop) {n c : Nat} (a b fq fl fd kn : Int32) (K A B M : Nat → Int32) (hn : n ≤ 6) (hc : c < 2 ^ 31) (hp : post (sr_bI (sr_pair n c a b))) : ∀ d j, j + d = n - 1 → (∀ i, i < j → (decide (nI (sr_d c (n - 1 - 1 - i + 1)) = a) && decide (nI (sr_d c (n - 1 - 1 - i)) = b)) = false) → wY_pair_3 post (nI n) (nI c) a b fq fl fd kn K A B M (d + 1) (nI j) := by
  intro d
  induction d with
  | zero =>
    intro j hj hf
    have e : j = n - 1 := by omega
    rw [e] at hf
    have z : sr_pair n c a b = false := sr_E_rev hf
    rw [z] at hp
    exact br_t (by rw [nI_1]; exact nI_le (by omega) (by omega)) hp
  | succ d ih =>
    intro j hj hf
    have e1 : n - 1 - j = n - 1 - 1 - j + 1 := by omega
    have e2 : n - 1 - (j + 1) = n - 1 - 1 - j := by omega
    refine br_f (by rw [nI_1]; exact nI_ge (by omega) (by omega)) (sr_yat _ fq fl fd kn K A B M hn hc (by omega) ?_)
    rw [e1]
    by_cases z1 : nI (sr_d c (n - 1 - 1 - j + 1)) = a
    · refine br_t z1 ?_
      rw [nI_1]
      refine sr_yat _ fq fl fd kn K A B M hn hc (by omega) ?_
      rw [e2]
      by_cases z2 : nI (sr_d c (n - 1 - 1 - j)) = b
      · have z : sr_pair n c a b = true := sr_E_t (i := n - 1 - 1 - j) (by omega) (by rw [decide_eq_true z1, decide_eq_true z2]; rfl)
        rw [z] at hp
        exact br_t z2 hp
      · refine br_f z2 (nm_e (ih (j + 1) (by omega) ?_))
        exact lt_s hf (by rw [decide_eq_false z2, Bool.and_false])
    · refine br_f z1 (nm_r (nI_1 j) (ih (j + 1) (by omega) ?_))
      exact lt_s hf (by rw [decide_eq_false z1, Bool.false_and])
theorem sr_ypair (post : Int32 → Prop) {n c : Nat} (a b fq fl fd kn : Int32) (K A B M : Nat → Int32) (hn : n ≤ 6) (hc : c < 2 ^ 31) (hp : post (sr_bI (sr_pair n c a b))) : wpY_pair post (fq, fl, fd, kn, K, A, B, M) (nI n) (nI c) a b :=
  ⟨_, sr_ypair3 post a b fq fl fd kn K A B M hn hc hp (n - 1) 0 (by omega) (fun i hi => absurd hi (Nat.not_lt_zero i))⟩
theorem sr_yrises2 (post : Int32 → Prop) {n c : Nat} (fq fl fd kn : Int32) (K A B M : Nat → Int32) (hn : n ≤ 6) (hc : c < 2 ^ 31) (hp : post (sr_bI (sr_rises n c))) : ∀ d j, j + d = n - 1 → (∀ i, i < j → decide (sr_d c (n - 1 - 1 - i + 1) < sr_d c (n - 1 - 1 - i)) = false) → wY_rises_2 post (nI n) (nI c) fq fl fd kn K A B M (d + 1) (nI j) := by
  intro d
  induction d with
  | zero =>
    intro j hj hf
    have e : j = n - 1 := by omega
    rw [e] at hf
    have z : sr_rises n c = false := sr_E_rev hf
    rw [z] at hp
    exact br_t (by rw [nI_1]; exact nI_le (by omega) (by omega)) hp
  | succ d ih =>
    intro j hj hf
    have e1 : n - 1 - j = n - 1 - 1 - j + 1 := by omega
    have e2 : n - 1 - (j + 1) = n - 1 - 1 - j := by omega
    have b1 := sr_d_lt c (n - 1 - 1 - j)
    have b2 := sr_d_lt c (n - 1 - 1 - j + 1)
    refine br_f (by rw [nI_1]; exact nI_ge (by omega) (by omega)) (sr_yat _ fq fl fd kn K A B M hn hc (by omega) ?_)
    rw [e1, nI_1]
    refine sr_yat _ fq fl fd kn K A B M hn hc (by omega) ?_
    rw [e2]
    refine pk_le (sr_d c (n - 1 - 1 - j)) (sr_d c (n - 1 - 1 - j + 1)) (fun z => nm_e (ih (j + 1) (by omega) ?_)) (fun z => ?_)
    · exact lt_s hf (decide_eq_false (by omega))
    · have y : sr_rises n c = true := sr_E_t (i := n - 1 - 1 - j) (by omega) (decide_eq_true z)
      rw [y] at hp
      exact hp
theorem sr_yrises (post : Int32 → Prop) {n c : Nat} (fq fl fd kn : Int32) (K A B M : Nat → Int32) (hn : n ≤ 6) (hc : c < 2 ^ 31) (hp : post (sr_bI (sr_rises n c))) : wpY_rises post (fq, fl, fd, kn, K, A, B, M) (nI n) (nI c) :=
  ⟨_, sr_yrises2 post fq fl fd kn K A B M hn hc hp (n - 1) 0 (by omega) (fun i hi => absurd hi (Nat.not_lt_zero i))⟩
theorem sr_ymeets (post : Int32 → Prop) (k a b fq fl fd kn : Int32) (K A B M : Nat → Int32) {n c : Nat} (hn : n ≤ 6) (hcn : c < 4 ^ n) (hp : post (sr_bI (sr_mt k a b n c))) : wpY_meets post (fq, fl, fd, kn, K, A, B, M) (nI n) (nI c) k a b := by
  have hc : c < 2 ^ 31 := sr_c31 hn hcn
  unfold sr_mt at hp
  refine br_c (fun e => ?_) (fun n0 => br_c (fun e => ?_) (fun n1 => br_c (fun e => ?_) (fun n2 => br_c (fun e => ?_) (fun n3 => br_c (fun e => ?_) (fun n4 => br_c (fun e => ?_) (fun n5 => br_c (fun e => ?_) (fun n6 => br_c (fun e => ?_) (fun n7 => br_c (fun e => ?_) (fun n8 => ?_)))))))))
  · rw [if_pos e] at hp
    exact sr_dsum hp (fun Q => wpY_sum Q (fq, fl, fd, kn, K, A, B, M) (nI n) (nI c)) (fun Q hQ => sr_ysum Q fq fl fd kn K A B M hn hc hQ)
  · rw [if_neg n0, if_pos e] at hp
    exact sr_yocc _ a fq fl fd kn K A B M hn hc (sr_dle hp)
  · rw [if_neg n0, if_neg n1, if_pos e] at hp
    exact sr_yocc _ a fq fl fd kn K A B M hn hc (sr_dle hp)
  · rw [if_neg n0, if_neg n1, if_neg n2, if_pos e] at hp
    exact sr_ypair _ a b fq fl fd kn K A B M hn hc ⟨sr_bI_n _, hp⟩
  · rw [if_neg n0, if_neg n1, if_neg n2, if_neg n3, if_pos e] at hp
    exact sr_ypair _ a b fq fl fd kn K A B M hn hc (sr_dn hp)
  · rw [if_neg n0, if_neg n1, if_neg n2, if_neg n3, if_neg n4, if_pos e] at hp
    exact sr_dpos hn hp (fun h0 h1 => sr_yat _ (i := 0) fq fl fd kn K A B M hn hc h0 (sr_dle h1))
  · rw [if_neg n0, if_neg n1, if_neg n2, if_neg n3, if_neg n4, if_neg n5, if_pos e] at hp
    refine sr_dpos hn hp (fun h0 h1 => ?_)
    rw [sr_sub1 h0]
    refine sr_yat _ fq fl fd kn K A B M hn hc (by omega) ?_
    rw [Nat.sub_self]
    exact sr_dle h1
  · rw [if_neg n0, if_neg n1, if_neg n2, if_neg n3, if_neg n4, if_neg n5, if_neg n6, if_pos e] at hp
    exact sr_dle hp
  · rw [if_neg n0, if_neg n1, if_neg n2, if_neg n3, if_neg n4, if_neg n5, if_neg n6, if_neg n7, if_pos e] at hp
    exact sr_yrises _ fq fl fd kn K A B M hn hc ⟨sr_bI_n _, hp⟩
  · rw [if_neg n0, if_neg n1, if_neg n2, if_neg n3, if_neg n4, if_neg n5, if_neg n6, if_neg n7, if_neg n8] at hp
    exact sr_yocc _ a fq fl fd kn K A B M hn hc (sr_dpar hp)
theorem sr_yall2 (post : Int32 → Prop) {q n c : Nat} (fl fd kn : Int32) (K A B M : Nat → Int32) (hq : q ≤ 3) (hn : n ≤ 6) (hc : c < 4 ^ n) (hp : post (sr_bI (sr_F K A B q n c))) : ∀ d i, i + d = q → sr_F K A B i n c = true → wY_failsList_2 post (nI n) (nI c) (nI q) fl fd kn K A B M (d + 1) (nI i) := by
  intro d
  induction d with
  | zero =>
    intro i hi hf
    have e : i = q := by omega
    rw [e] at hf
    rw [hf] at hp
    exact br_t (nI_le (by omega) (by omega)) hp
  | succ d ih =>
    intro i hi hf
    have hin : vp_in (nI i) 3 := vp_in_nI (by omega) (by omega)
    refine br_f (nI_ge (by omega) (by omega)) ⟨hin, hin, hin, ?_⟩
    rw [nI_clamp (n := i) (by omega)]
    refine sr_ymeets _ _ _ _ _ _ _ _ _ _ _ _ hn hc ?_
    cases z : sr_mt (K i) (A i) (B i) n c
    · rw [sr_F_f (show i < q by omega) z] at hp
      exact br_t rfl hp
    · exact br_f sr_1n0 (nm_r (nI_1 i) (ih (i + 1) (by omega) (sr_F_t hf z)))
theorem sr_yall (post : Int32 → Prop) {q n c : Nat} (fl fd kn : Int32) (K A B M : Nat → Int32) (hq : q ≤ 3) (hn : n ≤ 6) (hc : c < 4 ^ n) (hp : post (sr_bI (sr_F K A B q n c))) : wpY_failsList post (nI q, fl, fd, kn, K, A, B, M) (nI n) (nI c) :=
  ⟨_, sr_yall2 post fl fd kn K A B M hq hn hc hp q 0 (by omega) rfl⟩
theorem sr_ystart4 (post : Int32 → Prop) {n : Nat} (fq fl fd kn : Int32) (K A B M : Nat → Int32) (hn : n ≤ 7) (hp : post (nI (sr_st n))) : ∀ d i, i + d = n → wY_start_4 post (nI n) fq fl fd kn K A B M (d + 1) (nI (sr_st i)) (nI i) := by
  intro d
  induction d with
  | zero =>
    intro i hi
    have e : i = n := by omega
    rw [e]
    exact br_t (nI_le (Nat.le_refl _) (by omega)) hp
  | succ d ih =>
    intro i hi
    refine br_f (nI_ge (by omega) (by omega)) (nm_r (e' := nI (sr_st (i + 1))) ?_ (nm_r (nI_1 i) (ih (i + 1) (by omega))))
    rw [sr_pow i (by omega), nI_add]
    rfl
theorem sr_ystart (post : Int32 → Prop) {n : Nat} (fq fl fd kn : Int32) (K A B M : Nat → Int32) (hn : n ≤ 7) (hp : post (nI (sr_st n))) : wpY_start post (fq, fl, fd, kn, K, A, B, M) (nI n) :=
  ⟨_, sr_ystart4 post fq fl fd kn K A B M hn hp n 0 (by omega)⟩
def sr_lq (k : Nat) : Nat → Nat
  | 0 => 0
  | i + 1 => if sr_st (i + 1) ≤ k then i + 1 else sr_lq k i
theorem sr_lq6 (k : Nat) : sr_lq k 6 = sr_ln k := rfl
theorem sr_st_7 : ∀ n, n ≤ 6 → sr_st (n + 1) ≤ 5461 := sr_7 (by decide) (by decide) (by decide) (by decide) (by decide) (by decide) (by decide)
theorem sr_ylen4 (post : Int32 → Prop) {k : Nat} (fq fl fd kn : Int32) (K A B M : Nat → Int32) (hk : k < 5461) (hp : post (nI (sr_ln k))) : ∀ d i, i + d = 6 → wY_lengthOf_4 post (nI k) fq fl fd kn K A B M (d + 1) (nI (sr_lq k i)) (nI (i + 1)) := by
  intro d
  induction d with
  | zero =>
    intro i hi
    have e : i = 6 := by omega
    rw [e, sr_lq6]
    exact br_t (by decide) hp
  | succ d ih =>
    intro i hi
    have hs := sr_st_7 i (by omega)
    refine br_f (nI_ge (b := 7) (by omega) (by decide)) (sr_ystart _ fq fl fd kn K A B M (by omega) ?_)
    have h := ih (i + 1) (by omega)
    refine pk_lt k (sr_st (i + 1)) (fun z => ?_) (fun z => ?_)
    · rw [sr_lq, if_neg (by omega)] at h
      exact nm_r (nI_1 (i + 1)) h
    · rw [sr_lq, if_pos z] at h
      exact nm_r (nI_1 (i + 1)) h
theorem sr_ylen (post : Int32 → Prop) {k : Nat} (fq fl fd kn : Int32) (K A B M : Nat → Int32) (hk : k < 5461) (hp : post (nI (sr_ln k))) : wpY_lengthOf post (fq, fl, fd, kn, K, A, B, M) (nI k) :=
  ⟨_, sr_ylen4 post fq fl fd kn K A B M hk hp 6 0 (by omega)⟩
end
section
/-! the reference's marks and what it counts on them -/
theorem sr_32 : ¬ (32 : Int32) = 0 := by decide
theorem sr_in171 {k : Nat} (h : k < 5461) : vp_in (nI k / 32) 171 := by
  rw [sr_k32 (by omega)]
  exact vp_in_nI (by omega) (by decide)
theorem sr_ym51 (post : SY → Prop) (J : Int32 → (Nat → Int32) → (Nat → Int32) → (Nat → Int32) → (Nat → Int32) → Prop) {q n : Nat} (fl fd kn : Int32) (K A B : Nat → Int32) (hq : q ≤ 3) (hn : n ≤ 6) (hJ : ∀ M', sr_Mk M' (sr_P (sr_F K A B q)) (sr_st (n + 1)) → J (nI (n + 1)) K A B M') : ∀ d c M, c + d = 4 ^ n → sr_Mk M (sr_P (sr_F K A B q)) (sr_st n + c) → wY_markAll_51 post J (nI n) (nI (sr_st n)) (nI q) fl fd kn (d + 1) (nI c) K A B M := by
  obtain ⟨h5, h4, h0⟩ := sr_st_le n hn
  intro d
  induction d with
  | zero =>
    intro c M hc hM
    have e : c = 4 ^ n := by omega
    rw [e] at hM
    refine br_t ?_ (nm_r (nI_1 n) (hJ M hM))
    rw [sr_pow n (by omega), e]
    exact nI_le (Nat.le_refl _) (by omega)
  | succ d ih =>
    intro c M hc hM
    have hc4 : c < 4 ^ n := by omega
    have hPc := sr_P_at (sr_F K A B q) hn hc4
    refine br_f ?_ (nm_r (nI_add (sr_st n) c) (sr_yall _ fl fd kn K A B M hq hn hc4 ?_))
    · rw [sr_pow n (by omega)]
      exact nI_ge hc4 (by omega)
    · cases z : sr_F K A B q n c
      · rw [z] at hPc
        exact br_t rfl (nm_r (nI_1 c) (ih (c + 1) M (by omega) (sr_Mkf hM hPc)))
      · rw [z] at hPc
        have hk : sr_st n + c < 5461 := by omega
        refine br_f sr_1n0 ⟨sr_32, sr_32, sr_in171 hk, sr_32, sr_in171 hk, nm_r ?_ (nm_r (nI_1 c) (ih (c + 1) _ (by omega) (sr_Mkt hM hPc)))⟩
        rw [sr_r32 (by omega), sr_k32 (by omega), nI_clamp (by omega)]
        rfl
theorem sr_ym37 (post : SY → Prop) {q : Nat} (fl fd kn : Int32) (K A B : Nat → Int32) (hq : q ≤ 3) (h : ∀ M', sr_Mk M' (sr_P (sr_F K A B q)) 5461 → post (nI q, fl, fd, kn, K, A, B, M')) : ∀ d n M, n + d = 7 → sr_Mk M (sr_P (sr_F K A B q)) (sr_st n) → wY_markAll_37 post (nI q) fl fd kn (d + 1) (nI n) K A B M := by
  intro d
  induction d with
  | zero =>
    intro n M hn hM
    have e : n = 7 := by omega
    subst e
    exact br_t (by decide) (h M hM)
  | succ d ih =>
    intro n M hn hM
    refine br_f (nI_ge (b := 7) (by omega) (by decide)) (sr_ystart _ _ _ _ _ _ _ _ _ (by omega) ⟨4 ^ n + 1, ?_⟩)
    exact sr_ym51 post _ fl fd kn K A B hq (by omega) (fun M' hM' => ih (n + 1) M' (by omega) hM') (4 ^ n) 0 M (by omega) hM
theorem sr_ym15 (post : SY → Prop) {q : Nat} (fl fd kn : Int32) (K A B : Nat → Int32) (hq : q ≤ 3) (h : ∀ M', sr_Mk M' (sr_P (sr_F K A B q)) 5461 → post (nI q, fl, fd, kn, K, A, B, M')) : ∀ d i M, i + d = 171 → (∀ j, j < i → M j = 0) → wY_markAll_15 post (nI q) fl fd kn (d + 1) (nI i) K A B M := by
  intro d
  induction d with
  | zero =>
    intro i M hi hM
    have e : i = 171 := by omega
    subst e
    exact br_t (by decide) ⟨8, sr_ym37 post fl fd kn K A B hq h 7 0 M (by omega) (sr_Mk0 hM)⟩
  | succ d ih =>
    intro i M hi hM
    refine br_f (nI_ge (b := 171) (by omega) (by decide)) ⟨vp_in_nI (by omega) (by decide), nm_r (e' := upd M i 0) (by rw [nI_clamp (by omega)]) (nm_r (nI_1 i) (ih (i + 1) _ (by omega) (fun j hj => ?_)))⟩
    by_cases e : j = i
    · rw [e]
      exact pk_us
    · rw [pk_un e]
      exact hM j (by omega)
/-- what holds of the marks at every call -/
def sr_Kn (kn : Int32) (M : Nat → Int32) (P : Nat → Bool) : Prop := kn = 0 ∨ (kn = 1 ∧ sr_Mk M P 5461)
theorem sr_Kn1 {M : Nat → Int32} {P : Nat → Bool} (h : sr_Mk M P 5461) : sr_Kn 1 M P := Or.inr ⟨rfl, h⟩
theorem sr_Kn0 {M : Nat → Int32} {P : Nat → Bool} : sr_Kn 0 M P := Or.inl rfl
theorem sr_ymark (post : SY → Prop) {q : Nat} (fl fd kn : Int32) (K A B M : Nat → Int32) (hq : q ≤ 3) (hv : sr_Kn kn M (sr_P (sr_F K A B q))) (h : ∀ M', sr_Mk M' (sr_P (sr_F K A B q)) 5461 → post (nI q, fl, fd, 1, K, A, B, M')) : wpY_markAll post (nI q, fl, fd, kn, K, A, B, M) := by
  rcases hv with e | ⟨e, hM⟩
  · exact br_t e ⟨172, sr_ym15 post fl fd 1 K A B hq h 171 0 M (by omega) (fun j hj => absurd hj (Nat.not_lt_zero j))⟩
  · subst e
    exact br_f sr_1n0 (h M hM)
theorem sr_eq1 {post : Int32 → Prop} {g : Bool} (hp : post (sr_bI g)) : (sr_bI g = 1 → post 1) ∧ (¬ sr_bI g = 1 → post 0) := by
  cases g
  · exact br_f (by decide) hp
  · exact br_t rfl hp
theorem sr_ymarked (post : Int32 → Prop) {k : Nat} {P : Nat → Bool} (fq fl fd kn : Int32) (K A B M : Nat → Int32) (hM : sr_Mk M P 5461) (hk : k < 5461) (hp : post (sr_bI (P k))) : wpY_marked post (fq, fl, fd, kn, K, A, B, M) (nI k) := by
  refine ⟨sr_32, sr_in171 hk, sr_32, ?_⟩
  rw [sr_r32 (by omega), sr_k32 (by omega), nI_clamp (by omega), sr_Mkr hM hk]
  exact sr_eq1 hp
theorem sr_ybtw9 (post : Int32 → SY → Prop) {f t : Nat} {P : Nat → Bool} (fq fl fd kn : Int32) (K A B M : Nat → Int32) (hM : sr_Mk M P 5461) (ht : f + t ≤ 5461) (hp : post (nI (sr_cn P f t)) (fq, fl, fd, kn, K, A, B, M)) : ∀ d i, i + d = t → wY_between_9 post (nI (f + t)) fq fl fd kn K A B M (d + 1) (nI (sr_cn P f i)) (nI (f + i)) := by
  intro d
  induction d with
  | zero =>
    intro i hi
    have e : i = t := by omega
    rw [e]
    exact br_t (nI_le (Nat.le_refl _) (by omega)) hp
  | succ d ih =>
    intro i hi
    refine br_f (nI_ge (by omega) (by omega)) (sr_ymarked _ fq fl fd kn K A B M hM (by omega) ?_)
    have h := ih (i + 1) (by omega)
    cases z : P (f + i)
    · rw [sr_cn_f z] at h
      exact br_t rfl (nm_r (nI_1 (f + i)) h)
    · rw [sr_cn_t z] at h
      exact br_f sr_1n0 (nm_r (nI_1 _) (nm_r (nI_1 (f + i)) h))
theorem sr_ybtw (post : Int32 → SY → Prop) {q : Nat} (f t : Nat) (fl fd kn : Int32) (K A B M : Nat → Int32) (hq : q ≤ 3) (hv : sr_Kn kn M (sr_P (sr_F K A B q))) (ht : f + t ≤ 5461) (hp : ∀ M', sr_Mk M' (sr_P (sr_F K A B q)) 5461 → post (nI (sr_cn (sr_P (sr_F K A B q)) f t)) (nI q, fl, fd, 1, K, A, B, M')) : wpY_between post (nI q, fl, fd, kn, K, A, B, M) (nI f) (nI (f + t)) := by
  unfold wpY_between
  dsimp only
  exact sr_ymark _ fl fd kn K A B M hq hv (fun M' hM' => ⟨t + 1, sr_ybtw9 post (nI q) fl fd 1 K A B M' hM' ht (hp M' hM') t 0 (by omega)⟩)
theorem sr_yfind8 (post : Int32 → SY → Prop) {P : Nat → Bool} (v fq fl fd kn : Int32) (K A B M : Nat → Int32) (hM : sr_Mk M P 5461) (h1 : ∀ k, k < 5461 → P k = true → nI (sr_cn P 0 k) = v → post (nI k) (fq, fl, fd, kn, K, A, B, M)) (h2 : (∀ k, k < 5461 → P k = true → ¬ nI (sr_cn P 0 k) = v) → post (-1) (fq, fl, fd, kn, K, A, B, M)) : ∀ d i, i + d = 5461 → (∀ k, k < i → P k = true → ¬ nI (sr_cn P 0 k) = v) → wY_find_8 post v fq fl fd kn K A B M (d + 1) (nI (sr_cn P 0 i)) (nI i) := by
  intro d
  induction d with
  | zero =>
    intro i hi hf
    have e : i = 5461 := by omega
    subst e
    exact br_t (by decide) (h2 hf)
  | succ d ih =>
    intro i hi hf
    refine br_f (nI_ge (b := 5461) (by omega) (by decide)) (sr_ymarked _ fq fl fd kn K A B M hM (by omega) ?_)
    have h := ih (i + 1) (by omega)
    cases z : P i
    · rw [sr_cn_f (by rw [Nat.zero_add]; exact z)] at h
      exact br_t rfl (nm_r (nI_1 i) (h (lt_s hf (fun y => by rw [z] at y; exact absurd y (by decide)))))
    · rw [sr_cn_t (by rw [Nat.zero_add]; exact z)] at h
      by_cases e : nI (sr_cn P 0 i) = v
      · exact br_f sr_1n0 (br_t e (h1 i (by omega) z e))
      · exact br_f sr_1n0 (br_f e (nm_r (nI_1 _) (nm_r (nI_1 i) (h (lt_s hf (fun _ => e))))))
theorem sr_yfind (post : Int32 → SY → Prop) {q : Nat} (v fl fd kn : Int32) (K A B M : Nat → Int32) (hq : q ≤ 3) (hv : sr_Kn kn M (sr_P (sr_F K A B q))) (h1 : ∀ M' k, sr_Mk M' (sr_P (sr_F K A B q)) 5461 → k < 5461 → sr_P (sr_F K A B q) k = true → nI (sr_cn (sr_P (sr_F K A B q)) 0 k) = v → post (nI k) (nI q, fl, fd, 1, K, A, B, M')) (h2 : ∀ M', sr_Mk M' (sr_P (sr_F K A B q)) 5461 → (∀ k, k < 5461 → sr_P (sr_F K A B q) k = true → ¬ nI (sr_cn (sr_P (sr_F K A B q)) 0 k) = v) → post (-1) (nI q, fl, fd, 1, K, A, B, M')) : wpY_find post (nI q, fl, fd, kn, K, A, B, M) v := by
  unfold wpY_find
  dsimp only
  exact sr_ymark _ fl fd kn K A B M hq hv (fun M' hM' => ⟨5462, sr_yfind8 post v (nI q) fl fd 1 K A B M' hM' (fun k => h1 M' k hM') (h2 M' hM') 5461 0 (by omega) (fun k hk => absurd hk (Nat.not_lt_zero k))⟩)
/-- a number of the order back into length and code -/
theorem sr_split {F : Nat → Nat → Bool} {k : Nat} (hk : k < 5461) (hP : sr_P F k = true) : ∃ l c, l ≤ 6 ∧ c < 4 ^ l ∧ k = sr_st l + c ∧ sr_ln k = l ∧ F l c = true ∧ sr_cn (sr_P F) 0 k = sr_sh F l + sr_cn (F l) 0 c := by
  obtain ⟨a, b, c⟩ := sr_ln_in k hk
  have e : k = sr_st (sr_ln k) + (k - sr_st (sr_ln k)) := by omega
  refine ⟨sr_ln k, k - sr_st (sr_ln k), a, c, e, rfl, hP, ?_⟩
  have h := sr_rank F a (Nat.le_of_lt c)
  rw [← e] at h
  exact h
theorem sr_nk1 : ¬ (0 : Int32) ≤ -1 := by decide
theorem sr_ksub (l c : Nat) : nI (sr_st l + c) - nI (sr_st l) = nI c := by rw [pk_sub (Nat.le_add_right _ _), Nat.add_sub_cancel_left]
theorem sr_yload (post : Int32 → SY → Prop) {q : Nat} (v fl fd kn : Int32) (K A B M : Nat → Int32) (hq : q ≤ 3) (hv : sr_Kn kn M (sr_P (sr_F K A B q))) (h1 : ∀ M' l c, sr_Mk M' (sr_P (sr_F K A B q)) 5461 → l ≤ 6 → c < 4 ^ l → sr_F K A B q l c = true → nI (sr_sh (sr_F K A B q) l + sr_cn (sr_F K A B q l) 0 c) = v → post (nI l) (nI q, nI l, nI c, 1, K, A, B, M')) (h2 : ∀ M', sr_Mk M' (sr_P (sr_F K A B q)) 5461 → (∀ k, k < 5461 → sr_P (sr_F K A B q) k = true → ¬ nI (sr_cn (sr_P (sr_F K A B q)) 0 k) = v) → post (-4) (nI q, fl, fd, 1, K, A, B, M')) : wpY_load post (nI q, fl, fd, kn, K, A, B, M) v := by
  unfold wpY_load
  dsimp only
  refine sr_yfind _ v fl fd kn K A B M hq hv (fun M' k hM' hk hP he => ?_) (fun M' hM' hn => ?_)
  · obtain ⟨l, c, hl, hc, ek, eln, hF, ecn⟩ := sr_split hk hP
    refine br_t (nI_pos' (by omega)) (sr_ylen _ _ _ _ _ _ _ _ _ hk ?_)
    rw [eln]
    refine sr_ystart _ _ _ _ _ _ _ _ _ (by omega) (nm_r (e' := nI c) ?_ ?_)
    · rw [ek, sr_ksub]
    · rw [ecn] at he
      exact h1 M' l c hM' hl hc hF he
  · exact br_f sr_nk1 (h2 M' hM' hn)
theorem sr_yll (post : Int32 → SY → Prop) {q : Nat} (fl fd kn : Int32) (K A B M : Nat → Int32) (hq : q ≤ 3) (hv : sr_Kn kn M (sr_P (sr_F K A B q))) (h1 : ∀ M' l c, sr_Mk M' (sr_P (sr_F K A B q)) 5461 → l ≤ 6 → c < 4 ^ l → sr_F K A B q l c = true → nI (sr_sh (sr_F K A B q) l + sr_cn (sr_F K A B q l) 0 c) = 0 → post (nI l) (nI q, fl, fd, 1, K, A, B, M')) (h2 : ∀ M', sr_Mk M' (sr_P (sr_F K A B q)) 5461 → (∀ k, k < 5461 → sr_P (sr_F K A B q) k = true → ¬ nI (sr_cn (sr_P (sr_F K A B q)) 0 k) = 0) → post (-4) (nI q, fl, fd, 1, K, A, B, M')) : wpY_leastLength post (nI q, fl, fd, kn, K, A, B, M) := by
  unfold wpY_leastLength
  dsimp only
  refine sr_yfind _ 0 fl fd kn K A B M hq hv (fun M' k hM' hk hP he => ?_) (fun M' hM' hn => ?_)
  · obtain ⟨l, c, hl, hc, ek, eln, hF, ecn⟩ := sr_split hk hP
    refine br_t (nI_pos' (by omega)) (sr_ylen _ _ _ _ _ _ _ _ _ hk ?_)
    rw [eln]
    rw [ecn] at he
    exact h1 M' l c hM' hl hc hF he
  · exact br_f sr_nk1 (h2 M' hM' hn)
theorem sr_yleast (post : Int32 → SY → Prop) {q : Nat} (v fl fd kn : Int32) (K A B M : Nat → Int32) (hq : q ≤ 3) (hv : sr_Kn kn M (sr_P (sr_F K A B q))) (h1 : ∀ M' l c, sr_Mk M' (sr_P (sr_F K A B q)) 5461 → l ≤ 6 → c < 4 ^ l → sr_F K A B q l c = true → nI (sr_sh (sr_F K A B q) l + sr_cn (sr_F K A B q l) 0 c) = 0 → post (sr_lv l c v) (nI q, fl, fd, 1, K, A, B, M')) (h2 : ∀ M', sr_Mk M' (sr_P (sr_F K A B q)) 5461 → (∀ k, k < 5461 → sr_P (sr_F K A B q) k = true → ¬ nI (sr_cn (sr_P (sr_F K A B q)) 0 k) = 0) → post (-4) (nI q, fl, fd, 1, K, A, B, M')) : wpY_least post (nI q, fl, fd, kn, K, A, B, M) v := by
  unfold wpY_least
  dsimp only
  refine sr_yfind _ 0 fl fd kn K A B M hq hv (fun M' k hM' hk hP he => ?_) (fun M' hM' hn => ?_)
  · obtain ⟨l, c, hl, hc, ek, eln, hF, ecn⟩ := sr_split hk hP
    refine br_t (nI_pos' (by omega)) (sr_ylen _ _ _ _ _ _ _ _ _ hk ?_)
    rw [eln]
    rw [ecn] at he
    refine sr_lv_br (post := fun r => post r (nI q, fl, fd, 1, K, A, B, M')) (h1 M' l c hM' hl hc hF he) (fun hp => ?_)
    refine sr_ystart _ _ _ _ _ _ _ _ _ (by omega) ?_
    rw [ek, sr_ksub]
    exact hp
  · exact br_f sr_nk1 (h2 M' hM' hn)
theorem sr_yext26 (post : Int32 → SY → Prop) (J : Int32 → Int32 → Prop) {q n m c s : Nat} (kn : Int32) (K A B M : Nat → Int32) (hl : n + m ≤ 6) (hc : c < 4 ^ n) (hM : sr_Mk M (sr_P (sr_F K A B q)) 5461) (hJ : J (nI (s + sr_cn (fun j => sr_F K A B q (n + m) j && decide (j / 4 ^ m = c)) 0 (4 ^ (n + m)))) (nI (n + m + 1))) : ∀ d i, i + d = 4 ^ (n + m) → wY_extending_26 post J (nI (n + m)) (nI (sr_st (n + m))) (nI q) (nI n) (nI c) kn K A B M (d + 1) (nI (s + sr_cn (fun j => sr_F K A B q (n + m) j && decide (j / 4 ^ m = c)) 0 i)) (nI i) := by
  obtain ⟨h5, h4, h0⟩ := sr_st_le (n + m) hl
  have hcn : c < 2 ^ 31 := sr_c31 (by omega) hc
  have e1 : nI (n + m) - nI n = nI m := by rw [pk_sub (by omega), Nat.add_sub_cancel_left]
  intro d
  induction d with
  | zero =>
    intro i hi
    have e : i = 4 ^ (n + m) := by omega
    refine br_t ?_ ?_
    · rw [sr_pow (n + m) (by omega), e]
      exact nI_le (Nat.le_refl _) (by omega)
    · rw [e]
      exact nm_r (nI_1 (n + m)) hJ
  | succ d ih =>
    intro i hi
    have hi4 : i < 4 ^ (n + m) := by omega
    have hP := sr_P_at (sr_F K A B q) hl hi4
    refine br_f ?_ ?_
    · rw [sr_pow (n + m) (by omega)]
      exact nI_ge hi4 (by omega)
    · rw [nI_add (sr_st (n + m)) i]
      refine sr_ymarked _ _ _ _ _ _ _ _ _ hM (by omega) ?_
      rw [hP]
      have h := ih (i + 1) (by omega)
      have e2 : nI i >>> ((2 * (nI (n + m) - nI n)) &&& 31) = nI (i / 4 ^ m) := by rw [e1, sr_shrD (by omega) (by omega)]
      have hdl : i / 4 ^ m < 2 ^ 31 := sr_dvlt m (by omega)
      cases z : sr_F K A B q (n + m) i
      · rw [sr_cn_f (by rw [Nat.zero_add, z]; rfl)] at h
        exact br_t rfl (nm_r (nI_1 i) h)
      · refine br_f sr_1n0 ?_
        rw [e2]
        refine pk_eq (i / 4 ^ m) c (fun y => ?_) (fun y => ?_)
        · rw [sr_cn_t (by rw [Nat.zero_add, z, decide_eq_true y]; rfl)] at h
          exact nm_r (nI_1 _) (nm_r (nI_1 i) h)
        · rw [sr_cn_f (by rw [Nat.zero_add, z, decide_eq_false y]; rfl)] at h
          exact nm_r (nI_1 i) h
theorem sr_exs (F : Nat → Nat → Bool) {n c m : Nat} (hc : c < 4 ^ n) : sr_ex F n c (m + 1) = sr_ex F n c m + sr_cn (fun j => F (n + m) j && decide (j / 4 ^ m = c)) 0 (4 ^ (n + m)) := by
  have h := sr_ext (F (n + m)) (N := 4 ^ (n + m)) (c := c) (w := 4 ^ m) (Nat.pow_pos (by decide)) (by rw [Nat.succ_mul]; exact sr_cm hc)
  rw [h]
  rfl
theorem sr_yext11 (post : Int32 → SY → Prop) {q n c : Nat} (kn : Int32) (K A B M : Nat → Int32) (hn : n ≤ 6) (hc : c < 4 ^ n) (hM : sr_Mk M (sr_P (sr_F K A B q)) 5461) (hp : post (nI (sr_ex (sr_F K A B q) n c (7 - n))) (nI q, nI n, nI c, kn, K, A, B, M)) : ∀ d m, n + m + d = 7 → wY_extending_11 post (nI q) (nI n) (nI c) kn K A B M (d + 1) (nI (sr_ex (sr_F K A B q) n c m)) (nI (n + m)) := by
  intro d
  induction d with
  | zero =>
    intro m hm
    have e : m = 7 - n := by omega
    rw [e]
    have e2 : n + (7 - n) = 7 := by omega
    rw [e2]
    exact br_t (by decide) hp
  | succ d ih =>
    intro m hm
    refine br_f (nI_ge (b := 7) (by omega) (by decide)) (sr_ystart _ _ _ _ _ _ _ _ _ (by omega) ⟨4 ^ (n + m) + 1, ?_⟩)
    refine sr_yext26 post _ (s := sr_ex (sr_F K A B q) n c m) kn K A B M (by omega) hc hM ?_ (4 ^ (n + m)) 0 (by omega)
    have h := ih (m + 1) (by omega)
    rw [sr_exs _ hc] at h
    exact h
theorem sr_yext (post : Int32 → SY → Prop) {q n c : Nat} (kn : Int32) (K A B M : Nat → Int32) (hq : q ≤ 3) (hn : n ≤ 6) (hc : c < 4 ^ n) (hv : sr_Kn kn M (sr_P (sr_F K A B q))) (hp : ∀ M', sr_Mk M' (sr_P (sr_F K A B q)) 5461 → post (nI (sr_ex (sr_F K A B q) n c (7 - n))) (nI q, nI n, nI c, 1, K, A, B, M')) : wpY_extending post (nI q, nI n, nI c, kn, K, A, B, M) := by
  unfold wpY_extending
  dsimp only
  exact sr_ymark _ _ _ kn K A B M hq hv (fun M' hM' => ⟨7 - n + 1, sr_yext11 post 1 K A B M' hn hc hM' (hp M' hM') (7 - n) 0 (by omega)⟩)
end
section
/-! the owed statements -/
theorem sr_wi {x lo hi : Int32} {post : Int32 → Prop} {h : Bool} {Q : Prop} (hp : post (sr_bI ((!decide (x < lo) && !decide (hi < x)) && h))) (hQ : post (sr_bI h) → Q) : (x < lo → post 0) ∧ (¬ x < lo → ((hi < x → post 0) ∧ (¬ hi < x → Q))) := by
  refine br_c (fun z => ?_) (fun z => br_c (fun y => ?_) (fun y => ?_))
  · rw [decide_eq_true z] at hp
    exact hp
  · rw [decide_eq_false z, decide_eq_true y] at hp
    exact hp
  · rw [decide_eq_false z, decide_eq_false y] at hp
    exact hQ hp
def sr_w (x lo hi : Int32) : Bool := !decide (x < lo) && !decide (hi < x)
theorem sr_w1 {x lo hi : Int32} {post : Int32 → Prop} (hp : post (sr_bI (sr_w x lo hi))) : (x < lo → post 0) ∧ (¬ x < lo → ((hi < x → post 0) ∧ (¬ hi < x → post 1))) :=
  sr_wi (h := true) (by rw [Bool.and_true]; exact hp) (fun h => h)
theorem sr_xel (post : Int32 → Prop) (x : Int32) (hp : post (sr_bI (sr_w x 0 3))) : wpX_isElement post x := sr_w1 hp
theorem sr_ywi (post : Int32 → Prop) (x lo hi fq fl fd kn : Int32) (K A B M : Nat → Int32) (hp : post (sr_bI (sr_w x lo hi))) : wpY_within post (fq, fl, fd, kn, K, A, B, M) x lo hi := sr_w1 hp
theorem sr_and {post : Int32 → Prop} {g h : Bool} {Q : Prop} (hp : post (sr_bI (g && h))) (hQ : post (sr_bI h) → Q) : (sr_bI g = 0 → post 0) ∧ (¬ sr_bI g = 0 → Q) := by
  cases g
  · exact br_t rfl hp
  · exact br_f sr_1n0 (hQ hp)
theorem sr_one {post : Int32 → Prop} {g : Bool} (hp : post (sr_bI g)) : (sr_bI g = 0 → post 0) ∧ (¬ sr_bI g = 0 → post 1) := by
  cases g
  · exact br_t rfl hp
  · exact br_f sr_1n0 hp
/-- which numbers a kind from 0 to 9 takes -/
def sr_gd (k a b : Int32) : Bool :=
  if k = 0 then sr_w a 2 4 && (!decide (b < 0) && !decide (a ≤ b))
  else if k = 1 then sr_w a 0 3 && sr_w b 1 3
  else if k = 2 then sr_w a 0 3 && sr_w b 0 2
  else if k = 3 then sr_w a 0 3 && sr_w b 0 3
  else if k = 4 then sr_w a 0 3 && sr_w b 0 3
  else if k = 5 then sr_w a 0 3
  else if k = 6 then sr_w a 0 3
  else if k = 7 then sr_w a 0 3
  else if k = 8 then true
  else sr_w a 0 3 && sr_w b 0 1
theorem sr_w01 {b : Int32} {post : Int32 → Prop} (hp : post (sr_bI (sr_w b 0 1))) : (b = 0 → post 1) ∧ (¬ b = 0 → ((b = 1 → post 1) ∧ (¬ b = 1 → post 0))) := by
  obtain ⟨h1, h2⟩ := sr_w1 hp
  refine br_c (fun z => ?_) (fun z => br_c (fun y => ?_) (fun y => ?_))
  · subst z
    exact (h2 (by decide)).2 (by decide)
  · subst y
    exact (h2 (by decide)).2 (by decide)
  · by_cases c1 : b < 0
    · exact h1 c1
    · refine (h2 c1).1 ?_
      apply Int32.not_le.mp
      intro c2
      obtain ⟨j, hj, e⟩ := nI_of2 (M := 1) (n := 1) (by decide) c1 c2
      have ej : j = 0 ∨ j = 1 := by omega
      rcases ej with ej | ej
      · subst ej; exact z e
      · subst ej; exact y e
theorem sr_xnf (post : Int32 → Prop) (k a b : Int32) (h0 : ¬ k < 0) (h9 : ¬ 9 < k) (hp : post (sr_bI (sr_gd k a b))) : wpX_numbersFit post k a b := by
  unfold sr_gd at hp
  refine br_f h0 (br_f h9 (br_c (fun e => ?_) (fun n0 => br_c (fun e => ?_) (fun n1 => br_c (fun e => ?_) (fun n2 => br_c (fun e => ?_) (fun n3 => br_c (fun e => ?_) (fun n4 => br_c (fun e => ?_) (fun n5 => br_c (fun e => ?_) (fun n6 => br_c (fun e => ?_) (fun n7 => br_c (fun e => ?_) (fun n8 => br_c (fun e => ?_) (fun n9 => trivial))))))))))))
  · rw [if_pos e] at hp
    refine sr_wi hp (fun h => ?_)
    refine br_c (fun z => ?_) (fun z => br_c (fun y => ?_) (fun y => ?_))
    · rw [decide_eq_true z] at h
      exact h
    · rw [decide_eq_false z, decide_eq_true y] at h
      exact h
    · rw [decide_eq_false z, decide_eq_false y] at h
      exact h
  · rw [if_neg n0, if_pos e] at hp
    exact sr_xel _ a (sr_and hp (fun h => sr_w1 h))
  · rw [if_neg n0, if_neg n1, if_pos e] at hp
    exact sr_xel _ a (sr_and hp (fun h => sr_w1 h))
  · rw [if_neg n0, if_neg n1, if_neg n2, if_pos e] at hp
    unfold wX_numbersFit_126
    exact sr_xel _ a (sr_and hp (fun h => sr_xel _ b (sr_one h)))
  · rw [if_neg n0, if_neg n1, if_neg n2, if_neg n3, if_pos e] at hp
    unfold wX_numbersFit_126
    exact sr_xel _ a (sr_and hp (fun h => sr_xel _ b (sr_one h)))
  · rw [if_neg n0, if_neg n1, if_neg n2, if_neg n3, if_neg n4, if_pos e] at hp
    unfold wX_numbersFit_146
    exact sr_xel _ a ⟨sr_bI_n _, hp⟩
  · rw [if_neg n0, if_neg n1, if_neg n2, if_neg n3, if_neg n4, if_neg n5, if_pos e] at hp
    unfold wX_numbersFit_146
    exact sr_xel _ a ⟨sr_bI_n _, hp⟩
  · rw [if_neg n0, if_neg n1, if_neg n2, if_neg n3, if_neg n4, if_neg n5, if_neg n6, if_pos e] at hp
    exact sr_w1 hp
  · rw [if_neg n0, if_neg n1, if_neg n2, if_neg n3, if_neg n4, if_neg n5, if_neg n6, if_neg n7, if_pos e] at hp
    exact hp
  · rw [if_neg n0, if_neg n1, if_neg n2, if_neg n3, if_neg n4, if_neg n5, if_neg n6, if_neg n7, if_neg n8] at hp
    exact sr_xel _ a (sr_and hp (fun h => sr_w01 h))
theorem sr_k59 {k : Int32} (h0 : ¬ k < 0) (h9 : ¬ 9 < k) (n0 : ¬ k = 0) (n1 : ¬ k = 1) (n2 : ¬ k = 2) (n3 : ¬ k = 3) (n4 : ¬ k = 4) (n8 : ¬ k = 8) (n9 : ¬ k = 9) : k = 5 ∨ k = 6 ∨ k = 7 := by
  obtain ⟨j, hj, e⟩ := nI_of2 (M := 9) (n := 9) (by decide) h0 (Int32.not_lt.mp h9)
  have ej : j = 0 ∨ j = 1 ∨ j = 2 ∨ j = 3 ∨ j = 4 ∨ j = 5 ∨ j = 6 ∨ j = 7 ∨ j = 8 ∨ j = 9 := by omega
  rcases ej with ej | ej | ej | ej | ej | ej | ej | ej | ej | ej <;> subst ej
  · exact absurd e n0
  · exact absurd e n1
  · exact absurd e n2
  · exact absurd e n3
  · exact absurd e n4
  · exact Or.inl e
  · exact Or.inr (Or.inl e)
  · exact Or.inr (Or.inr e)
  · exact absurd e n8
  · exact absurd e n9
theorem sr_am1 {a b : Int32} (h2 : ¬ a < 2) (h4 : ¬ 4 < a) : (a - 1 < b) ↔ (a ≤ b) := by
  have h0 : ¬ a < 0 := fun z => h2 (Int32.lt_trans z (by decide))
  obtain ⟨j, hj, e⟩ := nI_of2 (M := 4) (n := 4) (by decide) h0 (Int32.not_lt.mp h4)
  have hj0 : 0 < j := by
    apply Nat.pos_of_ne_zero
    intro z
    subst z
    subst e
    exact h2 (by decide)
  subst e
  rw [sr_sub1 hj0, Int32.lt_iff_toInt_lt, Int32.le_iff_toInt_le, nI_toInt (by omega), nI_toInt (by omega)]
  omega
theorem sr_ygn (post : Int32 → Prop) (k a b fq fl fd kn : Int32) (K A B M : Nat → Int32) (h0 : ¬ k < 0) (h9 : ¬ 9 < k) (hp : post (sr_bI (sr_gd k a b))) : wpY_goodNumbers post (fq, fl, fd, kn, K, A, B, M) k a b := by
  unfold sr_gd at hp
  refine br_c (fun e => ?_) (fun n0 => br_c (fun e => ?_) (fun n8 => ?_))
  · rw [if_pos e] at hp
    refine sr_ywi _ a 2 4 fq fl fd kn K A B M ?_
    cases g : sr_w a 2 4
    · rw [g] at hp
      exact br_t rfl hp
    · rw [g] at hp
      refine br_f sr_1n0 (sr_ywi _ b 0 (a - 1) fq fl fd kn K A B M (sr_one ?_))
      have g2 : (!decide (a < 2)) = true ∧ (!decide (4 < a)) = true := by
        unfold sr_w at g
        rw [Bool.and_eq_true] at g
        exact g
      have a2 : ¬ a < 2 := by
        intro z
        rw [decide_eq_true z] at g2
        exact absurd g2.1 (by decide)
      have a4 : ¬ 4 < a := by
        intro z
        rw [decide_eq_true z] at g2
        exact absurd g2.2 (by decide)
      have e2 : sr_w b 0 (a - 1) = (!decide (b < 0) && !decide (a ≤ b)) := by
        unfold sr_w
        rw [decide_eq_decide.mpr (sr_am1 (b := b) a2 a4)]
      rw [e2]
      exact hp
  · rw [e] at hp
    exact hp
  · refine sr_ywi _ a 0 3 fq fl fd kn K A B M ?_
    rw [if_neg n0] at hp
    by_cases n1 : k = 1
    · rw [if_pos n1] at hp
      exact sr_and hp (fun h => br_t n1 (sr_ywi _ b 1 3 fq fl fd kn K A B M ⟨sr_bI_n _, h⟩))
    · rw [if_neg n1] at hp
      by_cases n2 : k = 2
      · rw [if_pos n2] at hp
        exact sr_and hp (fun h => br_f n1 (br_t n2 (sr_ywi _ b 0 2 fq fl fd kn K A B M ⟨sr_bI_n _, h⟩)))
      · rw [if_neg n2] at hp
        by_cases n3 : k = 3
        · rw [if_pos n3] at hp
          refine sr_and hp (fun h => br_f n1 (br_f n2 (br_t n3 ?_)))
          unfold wY_goodNumbers_88
          exact sr_ywi _ b 0 3 fq fl fd kn K A B M ⟨sr_bI_n _, h⟩
        · rw [if_neg n3] at hp
          by_cases n4 : k = 4
          · rw [if_pos n4] at hp
            refine sr_and hp (fun h => br_f n1 (br_f n2 (br_f n3 (br_t n4 ?_))))
            unfold wY_goodNumbers_88
            exact sr_ywi _ b 0 3 fq fl fd kn K A B M ⟨sr_bI_n _, h⟩
          · rw [if_neg n4] at hp
            by_cases n9 : k = 9
            · have n5 : ¬ k = 5 := by rw [n9]; decide
              have n6 : ¬ k = 6 := by rw [n9]; decide
              have n7 : ¬ k = 7 := by rw [n9]; decide
              rw [if_neg n5, if_neg n6, if_neg n7, if_neg n8] at hp
              exact sr_and hp (fun h => br_f n1 (br_f n2 (br_f n3 (br_f n4 (br_t n9 (sr_ywi _ b 0 1 fq fl fd kn K A B M (sr_one h)))))))
            · have hq : post (sr_bI (sr_w a 0 3)) := by
                by_cases n5 : k = 5
                · rw [if_pos n5] at hp; exact hp
                · rw [if_neg n5] at hp
                  by_cases n6 : k = 6
                  · rw [if_pos n6] at hp; exact hp
                  · rw [if_neg n6] at hp
                    have n7 : k = 7 := by
                      rcases sr_k59 h0 h9 n0 n1 n2 n3 n4 n8 n9 with z | z | z
                      · exact absurd z n5
                      · exact absurd z n6
                      · exact z
                    rw [if_pos n7] at hp
                    exact hp
              refine sr_and (h := true) (by rw [Bool.and_true]; exact hq) (fun h => br_f n1 (br_f n2 (br_f n3 (br_f n4 (br_f n9 h)))))
end
section
/-- count, kinds and numbers alike; the stage alike; the marks, where they are known, those of the conditions -/
def i_Rel (_ : Nat) (u : SX) (v : SY) : Prop := ∃ (q n c : Nat) (kn : Int32) (K A B M : Nat → Int32), u = (nI q, nI n, nI c, K, A, B) ∧ v = (nI q, nI n, nI c, kn, K, A, B, M) ∧ q ≤ 3 ∧ n ≤ 6 ∧ c < 4 ^ n ∧ sr_Kn kn M (sr_P (sr_F K A B q))
theorem sr_rel {k q n c : Nat} {kn : Int32} {K A B M : Nat → Int32} (hq : q ≤ 3) (hn : n ≤ 6) (hc : c < 4 ^ n) (hv : sr_Kn kn M (sr_P (sr_F K A B q))) : i_Rel k (nI q, nI n, nI c, K, A, B) (nI q, nI n, nI c, kn, K, A, B, M) := ⟨q, n, c, kn, K, A, B, M, rfl, rfl, hq, hn, hc, hv⟩
theorem i_up {k : Nat} {u : SX} {v : SY} (h : i_Rel k u v) : i_Rel (k + 4) u v := h
theorem i_vc0 : wpX_init (fun u => wpY_init (fun v => i_Rel 0 u v)) := sr_rel (k := 0) (q := 0) (n := 0) (c := 0) (by decide) (by decide) (by decide) sr_Kn0
theorem i_vc_condition {k : Nat} {u : SX} {v : SY} (I : i_Rel k u v) (hk : k + 4 ≤ 2048) (v1 : Int32) (v2 : Int32) (v3 : Int32) : wpX_condition (fun r u' => wpY_condition (fun r' v' => r' = r ∧ i_Rel (k + 4) u' v') v v1 v2 v3) u v1 v2 v3 := by
  have I0 := I
  obtain ⟨q, n, c, kn, K, A, B, M, rfl, rfl, hq, hn, hc, hv⟩ := I
  refine br_c (fun z => br_t z ⟨rfl, I0⟩) (fun z0 => br_c (fun z9 => ?_) (fun z9 => br_f z0 (br_f z9 ⟨rfl, I0⟩)))
  have h9 : ¬ 9 < v1 := Int32.not_lt.mpr z9
  refine sr_xnf _ v1 v2 v3 z0 h9 ?_
  cases g : sr_gd v1 v2 v3
  · refine br_t rfl (br_f z0 (br_t z9 (sr_ygn _ v1 v2 v3 _ _ _ _ _ _ _ _ z0 h9 ?_)))
    rw [g]
    exact br_t rfl ⟨rfl, I0⟩
  · refine br_f sr_1n0 (pk_lt q 3 (fun h3 => ?_) (fun h3 => ?_))
    · have hin : vp_in (nI q) 3 := vp_in_nI h3 (by decide)
      have ec : (nI q).toNatClampNeg = q := nI_clamp (by omega)
      refine ⟨hin, nm_e ⟨hin, nm_e ⟨hin, nm_e (nm_r (nI_1 q) (br_f z0 (br_t z9 (sr_ygn _ v1 v2 v3 _ _ _ _ _ _ _ _ z0 h9 ?_))))⟩⟩⟩
      rw [g]
      refine br_f sr_1n0 (pk_eq q 3 (fun e => absurd e (by omega)) (fun e => ⟨hin, nm_e ⟨hin, nm_e ⟨hin, nm_e (nm_r (nI_1 q) ⟨rfl, ?_⟩)⟩⟩⟩))
      exact sr_rel (by omega) hn hc sr_Kn0
    · refine br_f z0 (br_t z9 (sr_ygn _ v1 v2 v3 _ _ _ _ _ _ _ _ z0 h9 ?_))
      rw [g]
      exact br_f sr_1n0 (pk_eq q 3 (fun e => ⟨rfl, I0⟩) (fun e => absurd h3 (by omega)))
theorem i_vc_drop {k : Nat} {u : SX} {v : SY} (I : i_Rel k u v) (hk : k + 4 ≤ 2048) : wpX_drop (fun r u' => wpY_drop (fun r' v' => r' = r ∧ i_Rel (k + 4) u' v') v) u := by
  have I0 := I
  obtain ⟨q, n, c, kn, K, A, B, M, rfl, rfl, hq, hn, hc, hv⟩ := I
  refine br_c (fun z => br_t z ⟨rfl, I0⟩) (fun z => ?_)
  have hq0 : 0 < q := by
    apply Nat.pos_of_ne_zero
    intro e
    subst e
    exact z rfl
  exact nm_r (sr_sub1 hq0) (br_f z (nm_r (sr_sub1 hq0) ⟨rfl, sr_rel (by omega) hn hc sr_Kn0⟩))
theorem i_vc_push {k : Nat} {u : SX} {v : SY} (I : i_Rel k u v) (hk : k + 4 ≤ 2048) (v1 : Int32) : wpX_push (fun r u' => wpY_push (fun r' v' => r' = r ∧ i_Rel (k + 4) u' v') v v1) u v1 := by
  have I0 := I
  obtain ⟨q, n, c, kn, K, A, B, M, rfl, rfl, hq, hn, hc, hv⟩ := I
  unfold wpX_push
  dsimp only
  refine sr_xel _ v1 ?_
  unfold sr_w
  by_cases z0 : v1 < 0
  · rw [decide_eq_true z0]
    exact br_t rfl (br_t z0 ⟨rfl, I0⟩)
  · by_cases z3 : 3 < v1
    · rw [decide_eq_false z0, decide_eq_true z3]
      exact br_t rfl (br_f z0 (br_f (Int32.not_le.mpr z3) ⟨rfl, I0⟩))
    · rw [decide_eq_false z0, decide_eq_false z3]
      have z3' : v1 ≤ 3 := Int32.not_lt.mp z3
      obtain ⟨x, hx, rfl⟩ := nI_of2 (M := 3) (n := 3) (by decide) z0 z3'
      refine br_f sr_1n0 (pk_lt n 6 (fun h6 => ?_) (fun h6 => ?_))
      · have h4 := (sr_st_le n hn).2.1
        refine nm_r (sr_or4 (by omega) (by omega)) (nm_r (nI_1 n) (br_f z0 (br_t z3' (pk_eq n 6 (fun e => absurd e (by omega)) (fun e => ?_)))))
        refine nm_r (e' := nI (c * 4 + x)) ?_ (nm_r (nI_1 n) ⟨rfl, sr_rel hq (by omega) (sr_lin hc (by omega)) hv⟩)
        rw [← nI_add, ← pk_mul]
        rfl
      · exact br_f z0 (br_t z3' (pk_eq n 6 (fun e => ⟨rfl, I0⟩) (fun e => absurd h6 (by omega))))
theorem i_vc_empty {k : Nat} {u : SX} {v : SY} (I : i_Rel k u v) (hk : k + 4 ≤ 2048) : wpX_empty (fun u' => wpY_empty (fun v' => i_Rel (k + 4) u' v') v) u := by
  obtain ⟨q, n, c, kn, K, A, B, M, rfl, rfl, hq, hn, hc, hv⟩ := I
  exact sr_rel (k := k + 4) (n := 0) (c := 0) hq (by decide) (by decide) hv
theorem sr_tot {F : Nat → Nat → Bool} : sr_sh F 7 = sr_cn (sr_P F) 0 5461 := sr_sh_cn F 7 (by decide)
theorem sr_cnI {P : Nat → Bool} {k w : Nat} (hk : k < 5461) (hw : w < 2 ^ 31) (h : nI (sr_cn P 0 k) = nI w) : sr_cn P 0 k = w := by
  have := sr_cn_le P 0 k
  exact (nI_eq (by omega) hw).mp h
/-- one list alone has a given number -/
theorem sr_uni {F : Nat → Nat → Bool} {l c l' c' w : Nat} (hl : l ≤ 6) (hc : c < 4 ^ l) (hF : F l c = true) (he : sr_sh F l + sr_cn (F l) 0 c = w) (hl' : l' ≤ 6) (hc' : c' < 4 ^ l') (hF' : F l' c' = true) (hw : w < 2 ^ 31) (he' : nI (sr_sh F l' + sr_cn (F l') 0 c') = nI w) : l' = l ∧ c' = c := by
  have s1 := (sr_st_le l hl).1
  have s2 := (sr_st_le l' hl').1
  have r1 := sr_rank F hl (Nat.le_of_lt hc)
  have r2 := sr_rank F hl' (Nat.le_of_lt hc')
  have p1 := sr_P_at F hl hc
  have p2 := sr_P_at F hl' hc'
  rw [← r2] at he'
  have e2 := sr_cnI (by omega) hw he'
  have e := sr_cn_inj (p2.trans hF') (p1.trans hF) (by omega)
  have a1 := sr_ln_st l hl c hc
  have a2 := sr_ln_st l' hl' c' hc'
  have el : l' = l := by rw [← a1, ← a2, e]
  subst el
  exact ⟨rfl, by omega⟩
theorem sr_no {F : Nat → Nat → Bool} {l c w : Nat} {A : Prop} (hl : l ≤ 6) (hc : c < 4 ^ l) (hF : F l c = true) (he : sr_sh F l + sr_cn (F l) 0 c = w) (h : ∀ k, k < 5461 → sr_P F k = true → ¬ nI (sr_cn (sr_P F) 0 k) = nI w) : A := by
  have s1 := (sr_st_le l hl).1
  have r1 := sr_rank F hl (Nat.le_of_lt hc)
  exact absurd (by rw [r1, he]) (h (sr_st l + c) (by omega) ((sr_P_at F hl hc).trans hF))
theorem sr_no2 {F : Nat → Nat → Bool} {l c w : Nat} {A : Prop} (hl : l ≤ 6) (hc : c < 4 ^ l) (hF : F l c = true) (hw : w < 2 ^ 31) (he : nI (sr_sh F l + sr_cn (F l) 0 c) = nI w) (h : sr_sh F 7 ≤ w) : A := by
  have s1 := (sr_st_le l hl).1
  have r1 := sr_rank F hl (Nat.le_of_lt hc)
  rw [← r1] at he
  rw [sr_tot] at h
  exact absurd (sr_cnI (by omega) hw he) (fun e => sr_cn_none h (sr_st l + c) (by omega) ((sr_P_at F hl hc).trans hF) e)
theorem i_vc_load {k : Nat} {u : SX} {v : SY} (I : i_Rel k u v) (hk : k + 4 ≤ 2048) (v1 : Int32) : wpX_load (fun r u' => wpY_load (fun r' v' => r' = r ∧ i_Rel (k + 4) u' v') v v1) u v1 := by
  obtain ⟨q, n, c, kn, K, A, B, M, rfl, rfl, hq, hn, hc, hv⟩ := I
  by_cases z : v1 < 0
  · refine br_f (Int32.not_le.mpr z) (sr_yload _ v1 _ _ _ _ _ _ _ hq hv (fun M' l c' hM hl hc' hF he => ?_) (fun M' hM h => ⟨rfl, sr_rel hq hn hc (sr_Kn1 hM)⟩))
    have s1 := (sr_st_le l hl).1
    have r1 := sr_rank (sr_F K A B q) hl (Nat.le_of_lt hc')
    have b := sr_cn_le (sr_P (sr_F K A B q)) 0 (sr_st l + c')
    subst he
    exact absurd z (nI_pos (by omega))
  · obtain ⟨w, hw, rfl⟩ := nI_of z
    refine sr_xload _ _ _ K A B hq hw (fun l c1 hl hc1 hF he => ?_) (fun h7 => ?_)
    · refine sr_yload _ (nI w) _ _ _ _ _ _ _ hq hv (fun M' l' c2 hM hl' hc2 hF' he' => ?_) (fun M' hM h => sr_no hl hc1 hF he h)
      obtain ⟨e1, e2⟩ := sr_uni hl hc1 hF he hl' hc2 hF' hw he'
      subst e1
      subst e2
      exact ⟨rfl, sr_rel hq hl hc1 (sr_Kn1 hM)⟩
    · exact sr_yload _ (nI w) _ _ _ _ _ _ _ hq hv (fun M' l' c2 hM hl' hc2 hF' he' => sr_no2 hl' hc2 hF' hw he' h7) (fun M' hM h => ⟨rfl, sr_rel hq hn hc (sr_Kn1 hM)⟩)
theorem i_vc_failing {k : Nat} {u : SX} {v : SY} (I : i_Rel k u v) (hk : k + 4 ≤ 2048) : wpX_failing (fun r => wpY_failing (fun r' v' => r' = r ∧ i_Rel (k + 4) u v') v) u := by
  obtain ⟨q, n, c, kn, K, A, B, M, rfl, rfl, hq, hn, hc, hv⟩ := I
  unfold wpX_failing
  dsimp only
  refine sr_xsh _ (b := 7) _ _ K A B hq (by decide) ?_
  unfold wpY_failing
  dsimp only
  refine sr_ybtw _ 0 5461 _ _ _ K A B M hq hv (by decide) (fun M' hM => ⟨?_, sr_rel hq hn hc (sr_Kn1 hM)⟩)
  rw [sr_tot]
theorem i_vc_failingOf {k : Nat} {u : SX} {v : SY} (I : i_Rel k u v) (hk : k + 4 ≤ 2048) (v1 : Int32) : wpX_failingOf (fun r => wpY_failingOf (fun r' v' => r' = r ∧ i_Rel (k + 4) u v') v v1) u v1 := by
  have I0 := I
  obtain ⟨q, n, c, kn, K, A, B, M, rfl, rfl, hq, hn, hc, hv⟩ := I
  by_cases z : v1 < 0
  · exact br_t z (br_t z ⟨rfl, I0⟩)
  · by_cases z6 : v1 ≤ 6
    · obtain ⟨l, hl, rfl⟩ := nI_of2 (M := 6) (n := 6) (by decide) z z6
      refine sr_xof _ _ _ K A B hq hl (br_f z (br_t z6 (sr_ystart _ _ _ _ _ _ _ _ _ (by omega) ?_)))
      rw [nI_1]
      refine sr_ystart _ _ _ _ _ _ _ _ _ (by omega) ?_
      refine sr_ybtw _ (sr_st l) (4 ^ l) _ _ _ K A B M hq hv (sr_st_le l hl).1 (fun M' hM => ⟨?_, sr_rel hq hn hc (sr_Kn1 hM)⟩)
      have h := sr_blk (sr_F K A B q) (n := l) (a := 0) (d := 4 ^ l) hl (by omega)
      rw [Nat.add_zero] at h
      rw [h]
    · exact br_f z (br_f z6 (br_f z (br_f z6 ⟨rfl, I0⟩)))
theorem i_vc_fails {k : Nat} {u : SX} {v : SY} (I : i_Rel k u v) (hk : k + 4 ≤ 2048) : wpX_fails (fun r => wpY_fails (fun r' => r' = r ∧ i_Rel (k + 4) u v) v) u := by
  have I0 := I
  obtain ⟨q, n, c, kn, K, A, B, M, rfl, rfl, hq, hn, hc, hv⟩ := I
  unfold wpX_fails
  dsimp only
  refine sr_xall _ _ _ K A B hq hn hc ⟨sr_bI_n _, ?_⟩
  unfold wpY_fails
  dsimp only
  exact sr_yall _ _ _ _ K A B M hq hn hc ⟨sr_bI_n _, rfl, I0⟩
theorem i_vc_rank {k : Nat} {u : SX} {v : SY} (I : i_Rel k u v) (hk : k + 4 ≤ 2048) : wpX_rank (fun r => wpY_rank (fun r' v' => r' = r ∧ i_Rel (k + 4) u v') v) u := by
  obtain ⟨q, n, c, kn, K, A, B, M, rfl, rfl, hq, hn, hc, hv⟩ := I
  have s1 := (sr_st_le n hn).1
  unfold wpX_rank
  dsimp only
  refine sr_xsh _ _ _ K A B hq (by omega) ?_
  have hb := sr_xbtw (q := q) (n := n) (fun r_8 => wpY_rank (fun r' v' => r' = nI (sr_sh (sr_F K A B q) n) + r_8 ∧ i_Rel (k + 4) (nI q, nI n, nI c, K, A, B) v') (nI q, nI n, nI c, kn, K, A, B, M)) 0 c (nI n) (nI c) K A B hq hn (by omega) ?_
  · rw [Nat.zero_add] at hb
    exact hb
  · unfold wpY_rank
    dsimp only
    refine sr_ystart _ _ _ _ _ _ _ _ _ (by omega) (nm_r (nI_add _ _) ?_)
    have hy := sr_ybtw (q := q) (fun r_11 v' => r_11 = nI (sr_sh (sr_F K A B q) n) + nI (sr_cn (sr_F K A B q n) 0 c) ∧ i_Rel (k + 4) (nI q, nI n, nI c, K, A, B) v') 0 (sr_st n + c) (nI n) (nI c) kn K A B M hq hv (by omega) (fun M' hM => ⟨?_, sr_rel hq hn hc (sr_Kn1 hM)⟩)
    · rw [Nat.zero_add] at hy
      exact hy
    · rw [sr_rank _ hn (Nat.le_of_lt hc), nI_add]
theorem i_vc_extending {k : Nat} {u : SX} {v : SY} (I : i_Rel k u v) (hk : k + 4 ≤ 2048) : wpX_extending (fun r => wpY_extending (fun r' v' => r' = r ∧ i_Rel (k + 4) u v') v) u := by
  obtain ⟨q, n, c, kn, K, A, B, M, rfl, rfl, hq, hn, hc, hv⟩ := I
  exact sr_xext _ K A B hq hn hc (sr_yext _ kn K A B M hq hn hc hv (fun M' hM => ⟨rfl, sr_rel hq hn hc (sr_Kn1 hM)⟩))
theorem i_vc_leastLength {k : Nat} {u : SX} {v : SY} (I : i_Rel k u v) (hk : k + 4 ≤ 2048) : wpX_leastLength (fun r => wpY_leastLength (fun r' v' => r' = r ∧ i_Rel (k + 4) u v') v) u := by
  obtain ⟨q, n, c, kn, K, A, B, M, rfl, rfl, hq, hn, hc, hv⟩ := I
  refine sr_xll _ _ _ K A B hq (fun l c1 hl hc1 hF he => ?_) (fun h7 => ?_)
  · refine sr_yll _ _ _ _ _ _ _ _ hq hv (fun M' l' c2 hM hl' hc2 hF' he' => ?_) (fun M' hM h => sr_no (w := 0) hl hc1 hF he h)
    obtain ⟨e1, e2⟩ := sr_uni (w := 0) hl hc1 hF he hl' hc2 hF' (by decide) he'
    subst e1
    exact ⟨rfl, sr_rel hq hn hc (sr_Kn1 hM)⟩
  · exact sr_yll _ _ _ _ _ _ _ _ hq hv (fun M' l' c2 hM hl' hc2 hF' he' => sr_no2 (w := 0) hl' hc2 hF' (by decide) he' (by omega)) (fun M' hM h => ⟨rfl, sr_rel hq hn hc (sr_Kn1 hM)⟩)
theorem i_vc_least {k : Nat} {u : SX} {v : SY} (I : i_Rel k u v) (hk : k + 4 ≤ 2048) (v1 : Int32) : wpX_least (fun r => wpY_least (fun r' v' => r' = r ∧ i_Rel (k + 4) u v') v v1) u v1 := by
  obtain ⟨q, n, c, kn, K, A, B, M, rfl, rfl, hq, hn, hc, hv⟩ := I
  refine sr_xleast _ v1 _ _ K A B hq (fun l c1 hl hc1 hF he => ?_) (fun h7 => ?_)
  · refine sr_yleast _ v1 _ _ _ _ _ _ _ hq hv (fun M' l' c2 hM hl' hc2 hF' he' => ?_) (fun M' hM h => sr_no (w := 0) hl hc1 hF he h)
    obtain ⟨e1, e2⟩ := sr_uni (w := 0) hl hc1 hF he hl' hc2 hF' (by decide) he'
    subst e1
    subst e2
    exact ⟨rfl, sr_rel hq hn hc (sr_Kn1 hM)⟩
  · exact sr_yleast _ v1 _ _ _ _ _ _ _ hq hv (fun M' l' c2 hM hl' hc2 hF' he' => sr_no2 (w := 0) hl' hc2 hF' (by decide) he' (by omega)) (fun M' hM h => ⟨rfl, sr_rel hq hn hc (sr_Kn1 hM)⟩)
theorem i_vc_element {k : Nat} {u : SX} {v : SY} (I : i_Rel k u v) (hk : k + 4 ≤ 2048) (v1 : Int32) : wpX_element (fun r => wpY_element (fun r' => r' = r ∧ i_Rel (k + 4) u v) v v1) u v1 := by
  have I0 := I
  obtain ⟨q, n, c, kn, K, A, B, M, rfl, rfl, hq, hn, hc, hv⟩ := I
  exact br_c (fun z => br_t z ⟨rfl, I0⟩) (fun z => br_c (fun y => br_f z (br_t y ⟨rfl, I0⟩)) (fun y => br_f z (br_f y ⟨rfl, I0⟩)))
end
