/-! the reference's marks and what it counts on them -/
theorem sr_32 : ¬ (32 : Int32) = 0 := by decide
theorem sr_in171 {k : Nat} (h : k < 5461) : vp_in (nI k / 32) 171 := by
  rw [sr_k32 (by omega)]
  exact vp_in_nI (by omega) (by decide)
theorem sr_ym51 (post : SY → Prop) (J : Int32 → (Nat → Int32) → (Nat → Int32) → (Nat → Int32) → (Nat → Int32) → Prop) {q n : Nat} (fl fd kn : Int32) (K A B : Nat → Int32) (hq : q ≤ 3) (hn : n ≤ 6) (hJ : ∀ M', sr_Mk M' (sr_P (sr_F K A B q)) (sr_st (n + 1)) → J (nI (n + 1)) K A B M') : ∀ d c M, c + d = 4 ^ n → sr_Mk M (sr_P (sr_F K A B q)) (sr_st n + c) → wY_markAll_51 post J (nI n) (nI (sr_st n)) (nI q) fl fd kn (d + 1) (nI c) K A B M := by
  obtain ⟨h5, h4, h0⟩ := sr_st_le n hn
  intro d
  induction d with
  | zero =>
    intro c M hc hM
    have e : c = 4 ^ n := by omega
    rw [e] at hM
    refine br_t ?_ (nm_r (nI_1 n) (hJ M hM))
    rw [sr_pow n (by omega), e]
    exact nI_le (Nat.le_refl _) (by omega)
  | succ d ih =>
    intro c M hc hM
    have hc4 : c < 4 ^ n := by omega
    have hPc := sr_P_at (sr_F K A B q) hn hc4
    refine br_f ?_ (nm_r (nI_add (sr_st n) c) (sr_yall _ fl fd kn K A B M hq hn hc4 ?_))
    · rw [sr_pow n (by omega)]
      exact nI_ge hc4 (by omega)
    · cases z : sr_F K A B q n c
      · rw [z] at hPc
        exact br_t rfl (nm_r (nI_1 c) (ih (c + 1) M (by omega) (sr_Mkf hM hPc)))
      · rw [z] at hPc
        have hk : sr_st n + c < 5461 := by omega
        refine br_f sr_1n0 ⟨sr_32, sr_32, sr_in171 hk, sr_32, sr_in171 hk, nm_r ?_ (nm_r (nI_1 c) (ih (c + 1) _ (by omega) (sr_Mkt hM hPc)))⟩
        rw [sr_r32 (by omega), sr_k32 (by omega), nI_clamp (by omega)]
        rfl
theorem sr_ym37 (post : SY → Prop) {q : Nat} (fl fd kn : Int32) (K A B : Nat → Int32) (hq : q ≤ 3) (h : ∀ M', sr_Mk M' (sr_P (sr_F K A B q)) 5461 → post (nI q, fl, fd, kn, K, A, B, M')) : ∀ d n M, n + d = 7 → sr_Mk M (sr_P (sr_F K A B q)) (sr_st n) → wY_markAll_37 post (nI q) fl fd kn (d + 1) (nI n) K A B M := by
  intro d
  induction d with
  | zero =>
    intro n M hn hM
    have e : n = 7 := by omega
    subst e
    exact br_t (by decide) (h M hM)
  | succ d ih =>
    intro n M hn hM
    refine br_f (nI_ge (b := 7) (by omega) (by decide)) (sr_ystart _ _ _ _ _ _ _ _ _ (by omega) ⟨4 ^ n + 1, ?_⟩)
    exact sr_ym51 post _ fl fd kn K A B hq (by omega) (fun M' hM' => ih (n + 1) M' (by omega) hM') (4 ^ n) 0 M (by omega) hM
theorem sr_ym15 (post : SY → Prop) {q : Nat} (fl fd kn : Int32) (K A B : Nat → Int32) (hq : q ≤ 3) (h : ∀ M', sr_Mk M' (sr_P (sr_F K A B q)) 5461 → post (nI q, fl, fd, kn, K, A, B, M')) : ∀ d i M, i + d = 171 → (∀ j, j < i → M j = 0) → wY_markAll_15 post (nI q) fl fd kn (d + 1) (nI i) K A B M := by
  intro d
  induction d with
  | zero =>
    intro i M hi hM
    have e : i = 171 := by omega
    subst e
    exact br_t (by decide) ⟨8, sr_ym37 post fl fd kn K A B hq h 7 0 M (by omega) (sr_Mk0 hM)⟩
  | succ d ih =>
    intro i M hi hM
    refine br_f (nI_ge (b := 171) (by omega) (by decide)) ⟨vp_in_nI (by omega) (by decide), nm_r (e' := upd M i 0) (by rw [nI_clamp (by omega)]) (nm_r (nI_1 i) (ih (i + 1) _ (by omega) (fun j hj => ?_)))⟩
    by_cases e : j = i
    · rw [e]
      exact pk_us
    · rw [pk_un e]
      exact hM j (by omega)
/-- what holds of the marks at every call -/
def sr_Kn (kn : Int32) (M : Nat → Int32) (P : Nat → Bool) : Prop := kn = 0 ∨ (kn = 1 ∧ sr_Mk M P 5461)
theorem sr_Kn1 {M : Nat → Int32} {P : Nat → Bool} (h : sr_Mk M P 5461) : sr_Kn 1 M P := Or.inr ⟨rfl, h⟩
theorem sr_Kn0 {M : Nat → Int32} {P : Nat → Bool} : sr_Kn 0 M P := Or.inl rfl
theorem sr_ymark (post : SY → Prop) {q : Nat} (fl fd kn : Int32) (K A B M : Nat → Int32) (hq : q ≤ 3) (hv : sr_Kn kn M (sr_P (sr_F K A B q))) (h : ∀ M', sr_Mk M' (sr_P (sr_F K A B q)) 5461 → post (nI q, fl, fd, 1, K, A, B, M')) : wpY_markAll post (nI q, fl, fd, kn, K, A, B, M) := by
  rcases hv with e | ⟨e, hM⟩
  · exact br_t e ⟨172, sr_ym15 post fl fd 1 K A B hq h 171 0 M (by omega) (fun j hj => absurd hj (Nat.not_lt_zero j))⟩
  · subst e
    exact br_f sr_1n0 (h M hM)
theorem sr_eq1 {post : Int32 → Prop} {g : Bool} (hp : post (sr_bI g)) : (sr_bI g = 1 → post 1) ∧ (¬ sr_bI g = 1 → post 0) := by
  cases g
  · exact br_f (by decide) hp
  · exact br_t rfl hp
theorem sr_ymarked (post : Int32 → Prop) {k : Nat} {P : Nat → Bool} (fq fl fd kn : Int32) (K A B M : Nat → Int32) (hM : sr_Mk M P 5461) (hk : k < 5461) (hp : post (sr_bI (P k))) : wpY_marked post (fq, fl, fd, kn, K, A, B, M) (nI k) := by
  refine ⟨sr_32, sr_in171 hk, sr_32, ?_⟩
  rw [sr_r32 (by omega), sr_k32 (by omega), nI_clamp (by omega), sr_Mkr hM hk]
  exact sr_eq1 hp
theorem sr_ybtw9 (post : Int32 → SY → Prop) {f t : Nat} {P : Nat → Bool} (fq fl fd kn : Int32) (K A B M : Nat → Int32) (hM : sr_Mk M P 5461) (ht : f + t ≤ 5461) (hp : post (nI (sr_cn P f t)) (fq, fl, fd, kn, K, A, B, M)) : ∀ d i, i + d = t → wY_between_9 post (nI (f + t)) fq fl fd kn K A B M (d + 1) (nI (sr_cn P f i)) (nI (f + i)) := by
  intro d
  induction d with
  | zero =>
    intro i hi
    have e : i = t := by omega
    rw [e]
    exact br_t (nI_le (Nat.le_refl _) (by omega)) hp
  | succ d ih =>
    intro i hi
    refine br_f (nI_ge (by omega) (by omega)) (sr_ymarked _ fq fl fd kn K A B M hM (by omega) ?_)
    have h := ih (i + 1) (by omega)
    cases z : P (f + i)
    · rw [sr_cn_f z] at h
      exact br_t rfl (nm_r (nI_1 (f + i)) h)
    · rw [sr_cn_t z] at h
      exact br_f sr_1n0 (nm_r (nI_1 _) (nm_r (nI_1 (f + i)) h))
theorem sr_ybtw (post : Int32 → SY → Prop) {q : Nat} (f t : Nat) (fl fd kn : Int32) (K A B M : Nat → Int32) (hq : q ≤ 3) (hv : sr_Kn kn M (sr_P (sr_F K A B q))) (ht : f + t ≤ 5461) (hp : ∀ M', sr_Mk M' (sr_P (sr_F K A B q)) 5461 → post (nI (sr_cn (sr_P (sr_F K A B q)) f t)) (nI q, fl, fd, 1, K, A, B, M')) : wpY_between post (nI q, fl, fd, kn, K, A, B, M) (nI f) (nI (f + t)) := by
  unfold wpY_between
  dsimp only
  exact sr_ymark _ fl fd kn K A B M hq hv (fun M' hM' => ⟨t + 1, sr_ybtw9 post (nI q) fl fd 1 K A B M' hM' ht (hp M' hM') t 0 (by omega)⟩)
theorem sr_yfind8 (post : Int32 → SY → Prop) {P : Nat → Bool} (v fq fl fd kn : Int32) (K A B M : Nat → Int32) (hM : sr_Mk M P 5461) (h1 : ∀ k, k < 5461 → P k = true → nI (sr_cn P 0 k) = v → post (nI k) (fq, fl, fd, kn, K, A, B, M)) (h2 : (∀ k, k < 5461 → P k = true → ¬ nI (sr_cn P 0 k) = v) → post (-1) (fq, fl, fd, kn, K, A, B, M)) : ∀ d i, i + d = 5461 → (∀ k, k < i → P k = true → ¬ nI (sr_cn P 0 k) = v) → wY_find_8 post v fq fl fd kn K A B M (d + 1) (nI (sr_cn P 0 i)) (nI i) := by
  intro d
  induction d with
  | zero =>
    intro i hi hf
    have e : i = 5461 := by omega
    subst e
    exact br_t (by decide) (h2 hf)
  | succ d ih =>
    intro i hi hf
    refine br_f (nI_ge (b := 5461) (by omega) (by decide)) (sr_ymarked _ fq fl fd kn K A B M hM (by omega) ?_)
    have h := ih (i + 1) (by omega)
    cases z : P i
    · rw [sr_cn_f (by rw [Nat.zero_add]; exact z)] at h
      exact br_t rfl (nm_r (nI_1 i) (h (lt_s hf (fun y => by rw [z] at y; exact absurd y (by decide)))))
    · rw [sr_cn_t (by rw [Nat.zero_add]; exact z)] at h
      by_cases e : nI (sr_cn P 0 i) = v
      · exact br_f sr_1n0 (br_t e (h1 i (by omega) z e))
      · exact br_f sr_1n0 (br_f e (nm_r (nI_1 _) (nm_r (nI_1 i) (h (lt_s hf (fun _ => e))))))
theorem sr_yfind (post : Int32 → SY → Prop) {q : Nat} (v fl fd kn : Int32) (K A B M : Nat → Int32) (hq : q ≤ 3) (hv : sr_Kn kn M (sr_P (sr_F K A B q))) (h1 : ∀ M' k, sr_Mk M' (sr_P (sr_F K A B q)) 5461 → k < 5461 → sr_P (sr_F K A B q) k = true → nI (sr_cn (sr_P (sr_F K A B q)) 0 k) = v → post (nI k) (nI q, fl, fd, 1, K, A, B, M')) (h2 : ∀ M', sr_Mk M' (sr_P (sr_F K A B q)) 5461 → (∀ k, k < 5461 → sr_P (sr_F K A B q) k = true → ¬ nI (sr_cn (sr_P (sr_F K A B q)) 0 k) = v) → post (-1) (nI q, fl, fd, 1, K, A, B, M')) : wpY_find post (nI q, fl, fd, kn, K, A, B, M) v := by
  unfold wpY_find
  dsimp only
  exact sr_ymark _ fl fd kn K A B M hq hv (fun M' hM' => ⟨5462, sr_yfind8 post v (nI q) fl fd 1 K A B M' hM' (fun k => h1 M' k hM') (h2 M' hM') 5461 0 (by omega) (fun k hk => absurd hk (Nat.not_lt_zero k))⟩)
/-- a number of the order back into length and code -/
theorem sr_split {F : Nat → Nat → Bool} {k : Nat} (hk : k < 5461) (hP : sr_P F k = true) : ∃ l c, l ≤ 6 ∧ c < 4 ^ l ∧ k = sr_st l + c ∧ sr_ln k = l ∧ F l c = true ∧ sr_cn (sr_P F) 0 k = sr_sh F l + sr_cn (F l) 0 c := by
  obtain ⟨a, b, c⟩ := sr_ln_in k hk
  have e : k = sr_st (sr_ln k) + (k - sr_st (sr_ln k)) := by omega
  refine ⟨sr_ln k, k - sr_st (sr_ln k), a, c, e, rfl, hP, ?_⟩
  have h := sr_rank F a (Nat.le_of_lt c)
  rw [← e] at h
  exact h
theorem sr_nk1 : ¬ (0 : Int32) ≤ -1 := by decide
theorem sr_ksub (l c : Nat) : nI (sr_st l + c) - nI (sr_st l) = nI c := by rw [pk_sub (Nat.le_add_right _ _), Nat.add_sub_cancel_left]
theorem sr_yload (post : Int32 → SY → Prop) {q : Nat} (v fl fd kn : Int32) (K A B M : Nat → Int32) (hq : q ≤ 3) (hv : sr_Kn kn M (sr_P (sr_F K A B q))) (h1 : ∀ M' l c, sr_Mk M' (sr_P (sr_F K A B q)) 5461 → l ≤ 6 → c < 4 ^ l → sr_F K A B q l c = true → nI (sr_sh (sr_F K A B q) l + sr_cn (sr_F K A B q l) 0 c) = v → post (nI l) (nI q, nI l, nI c, 1, K, A, B, M')) (h2 : ∀ M', sr_Mk M' (sr_P (sr_F K A B q)) 5461 → (∀ k, k < 5461 → sr_P (sr_F K A B q) k = true → ¬ nI (sr_cn (sr_P (sr_F K A B q)) 0 k) = v) → post (-4) (nI q, fl, fd, 1, K, A, B, M')) : wpY_load post (nI q, fl, fd, kn, K, A, B, M) v := by
  unfold wpY_load
  dsimp only
  refine sr_yfind _ v fl fd kn K A B M hq hv (fun M' k hM' hk hP he => ?_) (fun M' hM' hn => ?_)
  · obtain ⟨l, c, hl, hc, ek, eln, hF, ecn⟩ := sr_split hk hP
    refine br_t (nI_pos' (by omega)) (sr_ylen _ _ _ _ _ _ _ _ _ hk ?_)
    rw [eln]
    refine sr_ystart _ _ _ _ _ _ _ _ _ (by omega) (nm_r (e' := nI c) ?_ ?_)
    · rw [ek, sr_ksub]
    · rw [ecn] at he
      exact h1 M' l c hM' hl hc hF he
  · exact br_f sr_nk1 (h2 M' hM' hn)
theorem sr_yll (post : Int32 → SY → Prop) {q : Nat} (fl fd kn : Int32) (K A B M : Nat → Int32) (hq : q ≤ 3) (hv : sr_Kn kn M (sr_P (sr_F K A B q))) (h1 : ∀ M' l c, sr_Mk M' (sr_P (sr_F K A B q)) 5461 → l ≤ 6 → c < 4 ^ l → sr_F K A B q l c = true → nI (sr_sh (sr_F K A B q) l + sr_cn (sr_F K A B q l) 0 c) = 0 → post (nI l) (nI q, fl, fd, 1, K, A, B, M')) (h2 : ∀ M', sr_Mk M' (sr_P (sr_F K A B q)) 5461 → (∀ k, k < 5461 → sr_P (sr_F K A B q) k = true → ¬ nI (sr_cn (sr_P (sr_F K A B q)) 0 k) = 0) → post (-4) (nI q, fl, fd, 1, K, A, B, M')) : wpY_leastLength post (nI q, fl, fd, kn, K, A, B, M) := by
  unfold wpY_leastLength
  dsimp only
  refine sr_yfind _ 0 fl fd kn K A B M hq hv (fun M' k hM' hk hP he => ?_) (fun M' hM' hn => ?_)
  · obtain ⟨l, c, hl, hc, ek, eln, hF, ecn⟩ := sr_split hk hP
    refine br_t (nI_pos' (by omega)) (sr_ylen _ _ _ _ _ _ _ _ _ hk ?_)
    rw [eln]
    rw [ecn] at he
    exact h1 M' l c hM' hl hc hF he
  · exact br_f sr_nk1 (h2 M' hM' hn)
theorem sr_yleast (post : Int32 → SY → Prop) {q : Nat} (v fl fd kn : Int32) (K A B M : Nat → Int32) (hq : q ≤ 3) (hv : sr_Kn kn M (sr_P (sr_F K A B q))) (h1 : ∀ M' l c, sr_Mk M' (sr_P (sr_F K A B q)) 5461 → l ≤ 6 → c < 4 ^ l → sr_F K A B q l c = true → nI (sr_sh (sr_F K A B q) l + sr_cn (sr_F K A B q l) 0 c) = 0 → post (sr_lv l c v) (nI q, fl, fd, 1, K, A, B, M')) (h2 : ∀ M', sr_Mk M' (sr_P (sr_F K A B q)) 5461 → (∀ k, k < 5461 → sr_P (sr_F K A B q) k = true → ¬ nI (sr_cn (sr_P (sr_F K A B q)) 0 k) = 0) → post (-4) (nI q, fl, fd, 1, K, A, B, M')) : wpY_least post (nI q, fl, fd, kn, K, A, B, M) v := by
  unfold wpY_least
  dsimp only
  refine sr_yfind _ 0 fl fd kn K A B M hq hv (fun M' k hM' hk hP he => ?_) (fun M' hM' hn => ?_)
  · obtain ⟨l, c, hl, hc, ek, eln, hF, ecn⟩ := sr_split hk hP
    refine br_t (nI_pos' (by omega)) (sr_ylen _ _ _ _ _ _ _ _ _ hk ?_)
    rw [eln]
    rw [ecn] at he
    refine sr_lv_br (post := fun r => post r (nI q, fl, fd, 1, K, A, B, M')) (h1 M' l c hM' hl hc hF he) (fun hp => ?_)
    refine sr_ystart _ _ _ _ _ _ _ _ _ (by omega) ?_
    rw [ek, sr_ksub]
    exact hp
  · exact br_f sr_nk1 (h2 M' hM' hn)
theorem sr_yext26 (post : Int32 → SY → Prop) (J : Int32 → Int32 → Prop) {q n m c s : Nat} (kn : Int32) (K A B M : Nat → Int32) (hl : n + m ≤ 6) (hc : c < 4 ^ n) (hM : sr_Mk M (sr_P (sr_F K A B q)) 5461) (hJ : J (nI (s + sr_cn (fun j => sr_F K A B q (n + m) j && decide (j / 4 ^ m = c)) 0 (4 ^ (n + m)))) (nI (n + m + 1))) : ∀ d i, i + d = 4 ^ (n + m) → wY_extending_26 post J (nI (n + m)) (nI (sr_st (n + m))) (nI q) (nI n) (nI c) kn K A B M (d + 1) (nI (s + sr_cn (fun j => sr_F K A B q (n + m) j && decide (j / 4 ^ m = c)) 0 i)) (nI i) := by
  obtain ⟨h5, h4, h0⟩ := sr_st_le (n + m) hl
  have hcn : c < 2 ^ 31 := sr_c31 (by omega) hc
  have e1 : nI (n + m) - nI n = nI m := by rw [pk_sub (by omega), Nat.add_sub_cancel_left]
  intro d
  induction d with
  | zero =>
    intro i hi
    have e : i = 4 ^ (n + m) := by omega
    refine br_t ?_ ?_
    · rw [sr_pow (n + m) (by omega), e]
      exact nI_le (Nat.le_refl _) (by omega)
    · rw [e]
      exact nm_r (nI_1 (n + m)) hJ
  | succ d ih =>
    intro i hi
    have hi4 : i < 4 ^ (n + m) := by omega
    have hP := sr_P_at (sr_F K A B q) hl hi4
    refine br_f ?_ ?_
    · rw [sr_pow (n + m) (by omega)]
      exact nI_ge hi4 (by omega)
    · rw [nI_add (sr_st (n + m)) i]
      refine sr_ymarked _ _ _ _ _ _ _ _ _ hM (by omega) ?_
      rw [hP]
      have h := ih (i + 1) (by omega)
      have e2 : nI i >>> ((2 * (nI (n + m) - nI n)) &&& 31) = nI (i / 4 ^ m) := by rw [e1, sr_shrD (by omega) (by omega)]
      have hdl : i / 4 ^ m < 2 ^ 31 := sr_dvlt m (by omega)
      cases z : sr_F K A B q (n + m) i
      · rw [sr_cn_f (by rw [Nat.zero_add, z]; rfl)] at h
        exact br_t rfl (nm_r (nI_1 i) h)
      · refine br_f sr_1n0 ?_
        rw [e2]
        refine pk_eq (i / 4 ^ m) c (fun y => ?_) (fun y => ?_)
        · rw [sr_cn_t (by rw [Nat.zero_add, z, decide_eq_true y]; rfl)] at h
          exact nm_r (nI_1 _) (nm_r (nI_1 i) h)
        · rw [sr_cn_f (by rw [Nat.zero_add, z, decide_eq_false y]; rfl)] at h
          exact nm_r (nI_1 i) h
theorem sr_exs (F : Nat → Nat → Bool) {n c m : Nat} (hc : c < 4 ^ n) : sr_ex F n c (m + 1) = sr_ex F n c m + sr_cn (fun j => F (n + m) j && decide (j / 4 ^ m = c)) 0 (4 ^ (n + m)) := by
  have h := sr_ext (F (n + m)) (N := 4 ^ (n + m)) (c := c) (w := 4 ^ m) (Nat.pow_pos (by decide)) (by rw [Nat.succ_mul]; exact sr_cm hc)
  rw [h]
  rfl
theorem sr_yext11 (post : Int32 → SY → Prop) {q n c : Nat} (kn : Int32) (K A B M : Nat → Int32) (hn : n ≤ 6) (hc : c < 4 ^ n) (hM : sr_Mk M (sr_P (sr_F K A B q)) 5461) (hp : post (nI (sr_ex (sr_F K A B q) n c (7 - n))) (nI q, nI n, nI c, kn, K, A, B, M)) : ∀ d m, n + m + d = 7 → wY_extending_11 post (nI q) (nI n) (nI c) kn K A B M (d + 1) (nI (sr_ex (sr_F K A B q) n c m)) (nI (n + m)) := by
  intro d
  induction d with
  | zero =>
    intro m hm
    have e : m = 7 - n := by omega
    rw [e]
    have e2 : n + (7 - n) = 7 := by omega
    rw [e2]
    exact br_t (by decide) hp
  | succ d ih =>
    intro m hm
    refine br_f (nI_ge (b := 7) (by omega) (by decide)) (sr_ystart _ _ _ _ _ _ _ _ _ (by omega) ⟨4 ^ (n + m) + 1, ?_⟩)
    refine sr_yext26 post _ (s := sr_ex (sr_F K A B q) n c m) kn K A B M (by omega) hc hM ?_ (4 ^ (n + m)) 0 (by omega)
    have h := ih (m + 1) (by omega)
    rw [sr_exs _ hc] at h
    exact h
theorem sr_yext (post : Int32 → SY → Prop) {q n c : Nat} (kn : Int32) (K A B M : Nat → Int32) (hq : q ≤ 3) (hn : n ≤ 6) (hc : c < 4 ^ n) (hv : sr_Kn kn M (sr_P (sr_F K A B q))) (hp : ∀ M', sr_Mk M' (sr_P (sr_F K A B q)) 5461 → post (nI (sr_ex (sr_F K A B q) n c (7 - n))) (nI q, nI n, nI c, 1, K, A, B, M')) : wpY_extending post (nI q, nI n, nI c, kn, K, A, B, M) := by
  unfold wpY_extending
  dsimp only
  exact sr_ymark _ _ _ kn K A B M hq hv (fun M' hM' => ⟨7 - n + 1, sr_yext11 post 1 K A B M' hn hc hM' (hp M' hM') (7 - n) 0 (by omega)⟩)
