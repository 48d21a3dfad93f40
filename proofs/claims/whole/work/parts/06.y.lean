/-! the reference's private methods, each with a general post -/
theorem sr_yat (post : Int32 → Prop) {n c i : Nat} (fq fl fd kn : Int32) (K A B M : Nat → Int32) (hn : n ≤ 6) (hc : c < 2 ^ 31) (hi : i < n) (hp : post (nI (sr_d c (n - 1 - i)))) : wpY_at post (fq, fl, fd, kn, K, A, B, M) (nI n) (nI c) (nI i) := by
  unfold wpY_at
  dsimp only
  rw [sr_at hi hn hc]
  exact hp
theorem sr_ysum5 (post : Int32 → Prop) {n c : Nat} (fq fl fd kn : Int32) (K A B M : Nat → Int32) (hn : n ≤ 6) (hc : c < 2 ^ 31) (hp : post (nI (sr_S (sr_d c) n))) : ∀ d i, i + d = n → wY_sum_5 post (nI n) (nI c) fq fl fd kn K A B M (d + 1) (nI (sr_S (fun j => sr_d c (n - 1 - j)) i)) (nI i) := by
  intro d
  induction d with
  | zero =>
    intro i hi
    have e : i = n := by omega
    rw [e, sr_Srev]
    exact br_t (nI_le (Nat.le_refl _) (by omega)) hp
  | succ d ih =>
    intro i hi
    exact br_f (nI_ge (by omega) (by omega)) (sr_yat _ fq fl fd kn K A B M hn hc (by omega) (nm_r (nI_add _ _) (nm_r (nI_1 i) (ih (i + 1) (by omega)))))
theorem sr_ysum (post : Int32 → Prop) {n c : Nat} (fq fl fd kn : Int32) (K A B M : Nat → Int32) (hn : n ≤ 6) (hc : c < 2 ^ 31) (hp : post (nI (sr_S (sr_d c) n))) : wpY_sum post (fq, fl, fd, kn, K, A, B, M) (nI n) (nI c) :=
  ⟨_, sr_ysum5 post fq fl fd kn K A B M hn hc hp n 0 (by omega)⟩
def sr_oc (n c : Nat) (a : Int32) (i : Nat) : Nat := sr_S (fun j => if nI (sr_d c (n - 1 - j)) = a then 1 else 0) i
theorem sr_oc_t {n i c : Nat} {a : Int32} (z : nI (sr_d c (n - 1 - i)) = a) : sr_oc n c a (i + 1) = sr_oc n c a i + 1 := by
  unfold sr_oc
  simp only [sr_S, z, if_true]
theorem sr_oc_f {n i c : Nat} {a : Int32} (z : ¬ nI (sr_d c (n - 1 - i)) = a) : sr_oc n c a (i + 1) = sr_oc n c a i := by
  unfold sr_oc
  simp only [sr_S, z, if_false, Nat.add_zero]
theorem sr_oc_n (n c : Nat) (a : Int32) : sr_oc n c a n = sr_occ n c a := sr_Srev (fun j => if nI (sr_d c j) = a then 1 else 0) n
theorem sr_yocc6 (post : Int32 → Prop) {n c : Nat} (a fq fl fd kn : Int32) (K A B M : Nat → Int32) (hn : n ≤ 6) (hc : c < 2 ^ 31) (hp : post (nI (sr_occ n c a))) : ∀ d i, i + d = n → wY_occurs_6 post (nI n) (nI c) a fq fl fd kn K A B M (d + 1) (nI (sr_oc n c a i)) (nI i) := by
  intro d
  induction d with
  | zero =>
    intro i hi
    have e : i = n := by omega
    rw [e, sr_oc_n]
    exact br_t (nI_le (Nat.le_refl _) (by omega)) hp
  | succ d ih =>
    intro i hi
    refine br_f (nI_ge (by omega) (by omega)) (sr_yat _ fq fl fd kn K A B M hn hc (by omega) ?_)
    have h := ih (i + 1) (by omega)
    by_cases z : nI (sr_d c (n - 1 - i)) = a
    · rw [sr_oc_t z] at h
      exact br_t z (nm_r (nI_1 _) (nm_r (nI_1 i) h))
    · rw [sr_oc_f z] at h
      exact br_f z (nm_r (nI_1 i) h)
theorem sr_yocc (post : Int32 → Prop) {n c : Nat} (a fq fl fd kn : Int32) (K A B M : Nat → Int32) (hn : n ≤ 6) (hc : c < 2 ^ 31) (hp : post (nI (sr_occ n c a))) : wpY_occurs post (fq, fl, fd, kn, K, A, B, M) (nI n) (nI c) a :=
  ⟨_, sr_yocc6 post a fq fl fd kn K A B M hn hc hp n 0 (by omega)⟩
theorem sr_E_rev {p : Nat → Bool} {m : Nat} (h : ∀ i, i < m → p (m - 1 - i) = false) : sr_E p m = false := by
  apply sr_E_f
  intro i hi
  have := h (m - 1 - i) (by omega)
  rw [show m - 1 - (m - 1 - i) = i by omega] at this
  exact this
theorem sr_ypair3 (post : Int32 → Prop) {n c : Nat} (a b fq fl fd kn : Int32) (K A B M : Nat → Int32) (hn : n ≤ 6) (hc : c < 2 ^ 31) (hp : post (sr_bI (sr_pair n c a b))) : ∀ d j, j + d = n - 1 → (∀ i, i < j → (decide (nI (sr_d c (n - 1 - 1 - i + 1)) = a) && decide (nI (sr_d c (n - 1 - 1 - i)) = b)) = false) → wY_pair_3 post (nI n) (nI c) a b fq fl fd kn K A B M (d + 1) (nI j) := by
  intro d
  induction d with
  | zero =>
    intro j hj hf
    have e : j = n - 1 := by omega
    rw [e] at hf
    have z : sr_pair n c a b = false := sr_E_rev hf
    rw [z] at hp
    exact br_t (by rw [nI_1]; exact nI_le (by omega) (by omega)) hp
  | succ d ih =>
    intro j hj hf
    have e1 : n - 1 - j = n - 1 - 1 - j + 1 := by omega
    have e2 : n - 1 - (j + 1) = n - 1 - 1 - j := by omega
    refine br_f (by rw [nI_1]; exact nI_ge (by omega) (by omega)) (sr_yat _ fq fl fd kn K A B M hn hc (by omega) ?_)
    rw [e1]
    by_cases z1 : nI (sr_d c (n - 1 - 1 - j + 1)) = a
    · refine br_t z1 ?_
      rw [nI_1]
      refine sr_yat _ fq fl fd kn K A B M hn hc (by omega) ?_
      rw [e2]
      by_cases z2 : nI (sr_d c (n - 1 - 1 - j)) = b
      · have z : sr_pair n c a b = true := sr_E_t (i := n - 1 - 1 - j) (by omega) (by rw [decide_eq_true z1, decide_eq_true z2]; rfl)
        rw [z] at hp
        exact br_t z2 hp
      · refine br_f z2 (nm_e (ih (j + 1) (by omega) ?_))
        exact lt_s hf (by rw [decide_eq_false z2, Bool.and_false])
    · refine br_f z1 (nm_r (nI_1 j) (ih (j + 1) (by omega) ?_))
      exact lt_s hf (by rw [decide_eq_false z1, Bool.false_and])
theorem sr_ypair (post : Int32 → Prop) {n c : Nat} (a b fq fl fd kn : Int32) (K A B M : Nat → Int32) (hn : n ≤ 6) (hc : c < 2 ^ 31) (hp : post (sr_bI (sr_pair n c a b))) : wpY_pair post (fq, fl, fd, kn, K, A, B, M) (nI n) (nI c) a b :=
  ⟨_, sr_ypair3 post a b fq fl fd kn K A B M hn hc hp (n - 1) 0 (by omega) (fun i hi => absurd hi (Nat.not_lt_zero i))⟩
theorem sr_yrises2 (post : Int32 → Prop) {n c : Nat} (fq fl fd kn : Int32) (K A B M : Nat → Int32) (hn : n ≤ 6) (hc : c < 2 ^ 31) (hp : post (sr_bI (sr_rises n c))) : ∀ d j, j + d = n - 1 → (∀ i, i < j → decide (sr_d c (n - 1 - 1 - i + 1) < sr_d c (n - 1 - 1 - i)) = false) → wY_rises_2 post (nI n) (nI c) fq fl fd kn K A B M (d + 1) (nI j) := by
  intro d
  induction d with
  | zero =>
    intro j hj hf
    have e : j = n - 1 := by omega
    rw [e] at hf
    have z : sr_rises n c = false := sr_E_rev hf
    rw [z] at hp
    exact br_t (by rw [nI_1]; exact nI_le (by omega) (by omega)) hp
  | succ d ih =>
    intro j hj hf
    have e1 : n - 1 - j = n - 1 - 1 - j + 1 := by omega
    have e2 : n - 1 - (j + 1) = n - 1 - 1 - j := by omega
    have b1 := sr_d_lt c (n - 1 - 1 - j)
    have b2 := sr_d_lt c (n - 1 - 1 - j + 1)
    refine br_f (by rw [nI_1]; exact nI_ge (by omega) (by omega)) (sr_yat _ fq fl fd kn K A B M hn hc (by omega) ?_)
    rw [e1, nI_1]
    refine sr_yat _ fq fl fd kn K A B M hn hc (by omega) ?_
    rw [e2]
    refine pk_le (sr_d c (n - 1 - 1 - j)) (sr_d c (n - 1 - 1 - j + 1)) (fun z => nm_e (ih (j + 1) (by omega) ?_)) (fun z => ?_)
    · exact lt_s hf (decide_eq_false (by omega))
    · have y : sr_rises n c = true := sr_E_t (i := n - 1 - 1 - j) (by omega) (decide_eq_true z)
      rw [y] at hp
      exact hp
theorem sr_yrises (post : Int32 → Prop) {n c : Nat} (fq fl fd kn : Int32) (K A B M : Nat → Int32) (hn : n ≤ 6) (hc : c < 2 ^ 31) (hp : post (sr_bI (sr_rises n c))) : wpY_rises post (fq, fl, fd, kn, K, A, B, M) (nI n) (nI c) :=
  ⟨_, sr_yrises2 post fq fl fd kn K A B M hn hc hp (n - 1) 0 (by omega) (fun i hi => absurd hi (Nat.not_lt_zero i))⟩
theorem sr_ymeets (post : Int32 → Prop) (k a b fq fl fd kn : Int32) (K A B M : Nat → Int32) {n c : Nat} (hn : n ≤ 6) (hcn : c < 4 ^ n) (hp : post (sr_bI (sr_mt k a b n c))) : wpY_meets post (fq, fl, fd, kn, K, A, B, M) (nI n) (nI c) k a b := by
  have hc : c < 2 ^ 31 := sr_c31 hn hcn
  unfold sr_mt at hp
  refine br_c (fun e => ?_) (fun n0 => br_c (fun e => ?_) (fun n1 => br_c (fun e => ?_) (fun n2 => br_c (fun e => ?_) (fun n3 => br_c (fun e => ?_) (fun n4 => br_c (fun e => ?_) (fun n5 => br_c (fun e => ?_) (fun n6 => br_c (fun e => ?_) (fun n7 => br_c (fun e => ?_) (fun n8 => ?_)))))))))
  · rw [if_pos e] at hp
    exact sr_dsum hp (fun Q => wpY_sum Q (fq, fl, fd, kn, K, A, B, M) (nI n) (nI c)) (fun Q hQ => sr_ysum Q fq fl fd kn K A B M hn hc hQ)
  · rw [if_neg n0, if_pos e] at hp
    exact sr_yocc _ a fq fl fd kn K A B M hn hc (sr_dle hp)
  · rw [if_neg n0, if_neg n1, if_pos e] at hp
    exact sr_yocc _ a fq fl fd kn K A B M hn hc (sr_dle hp)
  · rw [if_neg n0, if_neg n1, if_neg n2, if_pos e] at hp
    exact sr_ypair _ a b fq fl fd kn K A B M hn hc ⟨sr_bI_n _, hp⟩
  · rw [if_neg n0, if_neg n1, if_neg n2, if_neg n3, if_pos e] at hp
    exact sr_ypair _ a b fq fl fd kn K A B M hn hc (sr_dn hp)
  · rw [if_neg n0, if_neg n1, if_neg n2, if_neg n3, if_neg n4, if_pos e] at hp
    exact sr_dpos hn hp (fun h0 h1 => sr_yat _ (i := 0) fq fl fd kn K A B M hn hc h0 (sr_dle h1))
  · rw [if_neg n0, if_neg n1, if_neg n2, if_neg n3, if_neg n4, if_neg n5, if_pos e] at hp
    refine sr_dpos hn hp (fun h0 h1 => ?_)
    rw [sr_sub1 h0]
    refine sr_yat _ fq fl fd kn K A B M hn hc (by omega) ?_
    rw [Nat.sub_self]
    exact sr_dle h1
  · rw [if_neg n0, if_neg n1, if_neg n2, if_neg n3, if_neg n4, if_neg n5, if_neg n6, if_pos e] at hp
    exact sr_dle hp
  · rw [if_neg n0, if_neg n1, if_neg n2, if_neg n3, if_neg n4, if_neg n5, if_neg n6, if_neg n7, if_pos e] at hp
    exact sr_yrises _ fq fl fd kn K A B M hn hc ⟨sr_bI_n _, hp⟩
  · rw [if_neg n0, if_neg n1, if_neg n2, if_neg n3, if_neg n4, if_neg n5, if_neg n6, if_neg n7, if_neg n8] at hp
    exact sr_yocc _ a fq fl fd kn K A B M hn hc (sr_dpar hp)
theorem sr_yall2 (post : Int32 → Prop) {q n c : Nat} (fl fd kn : Int32) (K A B M : Nat → Int32) (hq : q ≤ 3) (hn : n ≤ 6) (hc : c < 4 ^ n) (hp : post (sr_bI (sr_F K A B q n c))) : ∀ d i, i + d = q → sr_F K A B i n c = true → wY_failsList_2 post (nI n) (nI c) (nI q) fl fd kn K A B M (d + 1) (nI i) := by
  intro d
  induction d with
  | zero =>
    intro i hi hf
    have e : i = q := by omega
    rw [e] at hf
    rw [hf] at hp
    exact br_t (nI_le (by omega) (by omega)) hp
  | succ d ih =>
    intro i hi hf
    have hin : vp_in (nI i) 3 := vp_in_nI (by omega) (by omega)
    refine br_f (nI_ge (by omega) (by omega)) ⟨hin, hin, hin, ?_⟩
    rw [nI_clamp (n := i) (by omega)]
    refine sr_ymeets _ _ _ _ _ _ _ _ _ _ _ _ hn hc ?_
    cases z : sr_mt (K i) (A i) (B i) n c
    · rw [sr_F_f (show i < q by omega) z] at hp
      exact br_t rfl hp
    · exact br_f sr_1n0 (nm_r (nI_1 i) (ih (i + 1) (by omega) (sr_F_t hf z)))
theorem sr_yall (post : Int32 → Prop) {q n c : Nat} (fl fd kn : Int32) (K A B M : Nat → Int32) (hq : q ≤ 3) (hn : n ≤ 6) (hc : c < 4 ^ n) (hp : post (sr_bI (sr_F K A B q n c))) : wpY_failsList post (nI q, fl, fd, kn, K, A, B, M) (nI n) (nI c) :=
  ⟨_, sr_yall2 post fl fd kn K A B M hq hn hc hp q 0 (by omega) rfl⟩
theorem sr_ystart4 (post : Int32 → Prop) {n : Nat} (fq fl fd kn : Int32) (K A B M : Nat → Int32) (hn : n ≤ 7) (hp : post (nI (sr_st n))) : ∀ d i, i + d = n → wY_start_4 post (nI n) fq fl fd kn K A B M (d + 1) (nI (sr_st i)) (nI i) := by
  intro d
  induction d with
  | zero =>
    intro i hi
    have e : i = n := by omega
    rw [e]
    exact br_t (nI_le (Nat.le_refl _) (by omega)) hp
  | succ d ih =>
    intro i hi
    refine br_f (nI_ge (by omega) (by omega)) (nm_r (e' := nI (sr_st (i + 1))) ?_ (nm_r (nI_1 i) (ih (i + 1) (by omega))))
    rw [sr_pow i (by omega), nI_add]
    rfl
theorem sr_ystart (post : Int32 → Prop) {n : Nat} (fq fl fd kn : Int32) (K A B M : Nat → Int32) (hn : n ≤ 7) (hp : post (nI (sr_st n))) : wpY_start post (fq, fl, fd, kn, K, A, B, M) (nI n) :=
  ⟨_, sr_ystart4 post fq fl fd kn K A B M hn hp n 0 (by omega)⟩
def sr_lq (k : Nat) : Nat → Nat
  | 0 => 0
  | i + 1 => if sr_st (i + 1) ≤ k then i + 1 else sr_lq k i
theorem sr_lq6 (k : Nat) : sr_lq k 6 = sr_ln k := rfl
theorem sr_st_7 : ∀ n, n ≤ 6 → sr_st (n + 1) ≤ 5461 := sr_7 (by decide) (by decide) (by decide) (by decide) (by decide) (by decide) (by decide)
theorem sr_ylen4 (post : Int32 → Prop) {k : Nat} (fq fl fd kn : Int32) (K A B M : Nat → Int32) (hk : k < 5461) (hp : post (nI (sr_ln k))) : ∀ d i, i + d = 6 → wY_lengthOf_4 post (nI k) fq fl fd kn K A B M (d + 1) (nI (sr_lq k i)) (nI (i + 1)) := by
  intro d
  induction d with
  | zero =>
    intro i hi
    have e : i = 6 := by omega
    rw [e, sr_lq6]
    exact br_t (by decide) hp
  | succ d ih =>
    intro i hi
    have hs := sr_st_7 i (by omega)
    refine br_f (nI_ge (b := 7) (by omega) (by decide)) (sr_ystart _ fq fl fd kn K A B M (by omega) ?_)
    have h := ih (i + 1) (by omega)
    refine pk_lt k (sr_st (i + 1)) (fun z => ?_) (fun z => ?_)
    · rw [sr_lq, if_neg (by omega)] at h
      exact nm_r (nI_1 (i + 1)) h
    · rw [sr_lq, if_pos z] at h
      exact nm_r (nI_1 (i + 1)) h
theorem sr_ylen (post : Int32 → Prop) {k : Nat} (fq fl fd kn : Int32) (K A B M : Nat → Int32) (hk : k < 5461) (hp : post (nI (sr_ln k))) : wpY_lengthOf post (fq, fl, fd, kn, K, A, B, M) (nI k) :=
  ⟨_, sr_ylen4 post fq fl fd kn K A B M hk hp 6 0 (by omega)⟩
