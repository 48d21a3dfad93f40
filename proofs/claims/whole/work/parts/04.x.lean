/-! the component's private methods, each with a general post -/
theorem sr_bf : sr_bI false = 0 := rfl
theorem sr_bt : sr_bI true = 1 := rfl
theorem sr_1n0 : ¬ (1 : Int32) = 0 := by decide
theorem sr_c31 {n c : Nat} (hn : n ≤ 6) (hc : c < 4 ^ n) : c < 2 ^ 31 := by
  have := (sr_st_le n hn).2.1
  omega
theorem sr_xsum7 (post : Int32 → Prop) {n c : Nat} (hn : n ≤ 6) (hc : c < 2 ^ 31) (hp : post (nI (sr_S (sr_d c) n))) : ∀ d i, i + d = n → wX_sumOf_7 post (nI n) (d + 1) (nI (sr_S (sr_d c) i)) (nI (c / 4 ^ i)) (nI i) := by
  intro d
  induction d with
  | zero =>
    intro i hi
    have e : i = n := by omega
    rw [e]
    exact br_t (nI_le (Nat.le_refl _) (by omega)) hp
  | succ d ih =>
    intro i hi
    refine br_f (nI_ge (by omega) (by omega)) (nm_r (e' := nI (sr_S (sr_d c) (i + 1))) ?_ (nm_r (sr_shri i hc) (nm_r (nI_1 i) (ih (i + 1) (by omega)))))
    rw [sr_digi i hc, nI_add]
    rfl
theorem sr_xsum (post : Int32 → Prop) {n c : Nat} (hn : n ≤ 6) (hc : c < 2 ^ 31) (hp : post (nI (sr_S (sr_d c) n))) : wpX_sumOf post (nI n) (nI c) := by
  have h := sr_xsum7 post hn hc hp n 0 (by omega)
  rw [sr_c0] at h
  exact ⟨_, h⟩
theorem sr_occ_t {i c : Nat} {a : Int32} (z : nI (sr_d c i) = a) : sr_occ (i + 1) c a = sr_occ i c a + 1 := by
  unfold sr_occ
  simp only [sr_S, z, if_true]
theorem sr_occ_f {i c : Nat} {a : Int32} (z : ¬ nI (sr_d c i) = a) : sr_occ (i + 1) c a = sr_occ i c a := by
  unfold sr_occ
  simp only [sr_S, z, if_false, Nat.add_zero]
theorem sr_xocc8 (post : Int32 → Prop) {n c : Nat} (a : Int32) (hn : n ≤ 6) (hc : c < 2 ^ 31) (hp : post (nI (sr_occ n c a))) : ∀ d i, i + d = n → wX_timesIn_8 post (nI n) a (d + 1) (nI (sr_occ i c a)) (nI (c / 4 ^ i)) (nI i) := by
  intro d
  induction d with
  | zero =>
    intro i hi
    have e : i = n := by omega
    rw [e]
    exact br_t (nI_le (Nat.le_refl _) (by omega)) hp
  | succ d ih =>
    intro i hi
    refine br_f (nI_ge (by omega) (by omega)) ?_
    by_cases z : nI (sr_d c i) = a
    · refine br_t (by rw [sr_digi i hc]; exact z) (nm_r (e' := nI (sr_occ (i + 1) c a)) ?_ (nm_r (sr_shri i hc) (nm_r (nI_1 i) (ih (i + 1) (by omega)))))
      rw [sr_occ_t z, nI_1]
    · refine br_f (by rw [sr_digi i hc]; exact z) (nm_r (sr_shri i hc) (nm_r (nI_1 i) ?_))
      have h := ih (i + 1) (by omega)
      rw [sr_occ_f z] at h
      exact h
theorem sr_xocc (post : Int32 → Prop) {n c : Nat} (a : Int32) (hn : n ≤ 6) (hc : c < 2 ^ 31) (hp : post (nI (sr_occ n c a))) : wpX_timesIn post (nI n) (nI c) a := by
  have h := sr_xocc8 post a hn hc hp n 0 (by omega)
  rw [sr_c0] at h
  exact ⟨_, h⟩
theorem sr_xpair6 (post : Int32 → Prop) {n c : Nat} (a b : Int32) (hn : n ≤ 6) (hc : c < 2 ^ 31) (hp : post (sr_bI (sr_pair n c a b))) : ∀ d j, j + d = n - 1 → (∀ i, i < j → (decide (nI (sr_d c (i + 1)) = a) && decide (nI (sr_d c i) = b)) = false) → wX_hasPair_6 post (nI n) a b (d + 1) (nI (c / 4 ^ j)) (nI (j + 1)) := by
  intro d
  induction d with
  | zero =>
    intro j hj hf
    have e : j = n - 1 := by omega
    rw [e] at hf
    have z : sr_pair n c a b = false := sr_E_f hf
    rw [z] at hp
    exact br_t (nI_le (by omega) (by omega)) hp
  | succ d ih =>
    intro j hj hf
    refine br_f (nI_ge (by omega) (by omega)) (nm_r (sr_digi j hc) (nm_r (sr_shri j hc) (nm_r (sr_digi (j + 1) hc) ?_)))
    by_cases z1 : nI (sr_d c (j + 1)) = a
    · by_cases z2 : nI (sr_d c j) = b
      · have z : sr_pair n c a b = true := sr_E_t (i := j) (by omega) (by rw [decide_eq_true z1, decide_eq_true z2]; rfl)
        rw [z] at hp
        exact br_t z1 (br_t z2 hp)
      · refine br_t z1 (br_f z2 (nm_r (nI_1 (j + 1)) (ih (j + 1) (by omega) ?_)))
        exact lt_s hf (by rw [decide_eq_false z2, Bool.and_false])
    · refine br_f z1 (nm_r (nI_1 (j + 1)) (ih (j + 1) (by omega) ?_))
      exact lt_s hf (by rw [decide_eq_false z1, Bool.false_and])
theorem sr_xpair (post : Int32 → Prop) {n c : Nat} (a b : Int32) (hn : n ≤ 6) (hc : c < 2 ^ 31) (hp : post (sr_bI (sr_pair n c a b))) : wpX_hasPair post (nI n) (nI c) a b := by
  have h := sr_xpair6 post a b hn hc hp (n - 1) 0 (by omega) (fun i hi => absurd hi (Nat.not_lt_zero i))
  rw [sr_c0] at h
  exact ⟨_, h⟩
theorem sr_xrises4 (post : Int32 → Prop) {n c : Nat} (hn : n ≤ 6) (hc : c < 2 ^ 31) (hp : post (sr_bI (sr_rises n c))) : ∀ d j, j + d = n - 1 → (∀ i, i < j → decide (sr_d c (i + 1) < sr_d c i) = false) → wX_rises_4 post (nI n) (d + 1) (nI (c / 4 ^ j)) (nI (j + 1)) := by
  intro d
  induction d with
  | zero =>
    intro j hj hf
    have e : j = n - 1 := by omega
    rw [e] at hf
    have z : sr_rises n c = false := sr_E_f hf
    rw [z] at hp
    exact br_t (nI_le (by omega) (by omega)) hp
  | succ d ih =>
    intro j hj hf
    have b1 := sr_d_lt c j
    have b2 := sr_d_lt c (j + 1)
    refine br_f (nI_ge (by omega) (by omega)) (nm_r (sr_digi j hc) (nm_r (sr_shri j hc) (nm_r (sr_digi (j + 1) hc) ?_)))
    refine pk_le (sr_d c j) (sr_d c (j + 1)) (fun z => nm_r (nI_1 (j + 1)) (ih (j + 1) (by omega) ?_)) (fun z => ?_)
    · exact lt_s hf (decide_eq_false (by omega))
    · have z : sr_rises n c = true := sr_E_t (i := j) (by omega) (decide_eq_true z)
      rw [z] at hp
      exact hp
theorem sr_xrises (post : Int32 → Prop) {n c : Nat} (hn : n ≤ 6) (hc : c < 2 ^ 31) (hp : post (sr_bI (sr_rises n c))) : wpX_rises post (nI n) (nI c) := by
  have h := sr_xrises4 post hn hc hp (n - 1) 0 (by omega) (fun i hi => absurd hi (Nat.not_lt_zero i))
  rw [sr_c0] at h
  exact ⟨_, h⟩
theorem sr_xat (post : Int32 → Prop) {n c i : Nat} (hn : n ≤ 6) (hc : c < 2 ^ 31) (hi : i < n) (hp : post (nI (sr_d c (n - 1 - i)))) : wpX_elementAt post (nI n) (nI c) (nI i) := by
  unfold wpX_elementAt
  rw [sr_at hi hn hc]
  exact hp
theorem sr_out {k : Int32} (h : k < 0 ∨ 8 < k) : ¬ k = 0 ∧ ¬ k = 1 ∧ ¬ k = 2 ∧ ¬ k = 3 ∧ ¬ k = 4 ∧ ¬ k = 5 ∧ ¬ k = 6 ∧ ¬ k = 7 ∧ ¬ k = 8 := by
  refine ⟨?_, ?_, ?_, ?_, ?_, ?_, ?_, ?_, ?_⟩ <;> (intro e; subst e; revert h; decide)
/-- decisions into branches -/
theorem sr_dec {post : Int32 → Prop} {p : Prop} {i : Decidable p} (h : post (sr_bI (@decide p i))) : (p → post 1) ∧ (¬ p → post 0) :=
  ⟨fun z => by rw [decide_eq_true z] at h; exact h, fun z => by rw [decide_eq_false z] at h; exact h⟩
theorem sr_dle {post : Int32 → Prop} {x y : Int32} (h : post (sr_bI (decide (x ≤ y)))) : (y < x → post 0) ∧ (¬ y < x → post 1) :=
  ⟨fun z => (sr_dec h).2 (Int32.not_le.mpr z), fun z => (sr_dec h).1 (Int32.not_lt.mp z)⟩
theorem sr_dpar {post : Int32 → Prop} {x b : Int32} (h : post (sr_bI (decide (x - x / 2 * 2 = b)))) : ¬ (2 : Int32) = 0 ∧ ((x - x / 2 * 2 = b → post 1) ∧ (¬ x - x / 2 * 2 = b → post 0)) := ⟨by decide, sr_dec h⟩
theorem sr_dn {post : Int32 → Prop} {g : Bool} (h : post (sr_bI (!g))) : (sr_bI g = 0 → post 1) ∧ (¬ sr_bI g = 0 → post 0) := by
  cases g
  · exact br_t rfl h
  · exact br_f sr_1n0 h
theorem sr_dsum {post : Int32 → Prop} {x a b : Int32} (hp : post (sr_bI (decide (0 < a) && decide (x - x / a * a = b)))) (W : (Int32 → Prop) → Prop) (hW : ∀ Q : Int32 → Prop, Q x → W Q) : (a ≤ 0 → post 0) ∧ (¬ a ≤ 0 → W (fun r => ¬ a = 0 ∧ ((r - r / a * a = b → post 1) ∧ (¬ r - r / a * a = b → post 0)))) := by
  refine br_c (fun z => ?_) (fun z => hW _ ⟨?_, ?_⟩)
  · rw [decide_eq_false (Int32.not_lt.mpr z), Bool.false_and] at hp
    exact hp
  · intro e
    exact z (by rw [e]; decide)
  · rw [decide_eq_true (Int32.not_le.mp z), Bool.true_and] at hp
    exact sr_dec hp
theorem sr_dpos {post : Int32 → Prop} {n : Nat} {g : Bool} {Q : Prop} (hn : n ≤ 6) (hp : post (sr_bI (decide (0 < n) && g))) (hq : 0 < n → post (sr_bI g) → Q) : (nI n ≤ 0 → post 0) ∧ (¬ nI n ≤ 0 → Q) := by
  refine pk_le n 0 (fun z => ?_) (fun z => hq z ?_)
  · rw [decide_eq_false (show ¬ 0 < n by omega), Bool.false_and] at hp
    exact hp
  · rw [decide_eq_true z, Bool.true_and] at hp
    exact hp
theorem sr_xmeets (post : Int32 → Prop) (k a b : Int32) {n c : Nat} (hn : n ≤ 6) (hcn : c < 4 ^ n) (hp : post (sr_bI (sr_mt k a b n c))) : wpX_meets post k a b (nI n) (nI c) := by
  have hc : c < 2 ^ 31 := sr_c31 hn hcn
  unfold sr_mt at hp
  refine br_c (fun z => ?_) (fun z0 => br_c (fun z => ?_) (fun z8 => br_c (fun e => ?_) (fun n0 => br_c (fun e => ?_) (fun n1 => br_c (fun e => ?_) (fun n2 => br_c (fun e => ?_) (fun n3 => br_c (fun e => ?_) (fun n4 => br_c (fun e => ?_) (fun n5 => br_c (fun e => ?_) (fun n6 => br_c (fun e => ?_) (fun n7 => br_c (fun e => ?_) (fun n8 => trivial)))))))))))
  · obtain ⟨n0, n1, n2, n3, n4, n5, n6, n7, n8⟩ := sr_out (Or.inl z)
    rw [if_neg n0, if_neg n1, if_neg n2, if_neg n3, if_neg n4, if_neg n5, if_neg n6, if_neg n7, if_neg n8] at hp
    exact sr_xocc _ a hn hc (sr_dpar hp)
  · obtain ⟨n0, n1, n2, n3, n4, n5, n6, n7, n8⟩ := sr_out (Or.inr z)
    rw [if_neg n0, if_neg n1, if_neg n2, if_neg n3, if_neg n4, if_neg n5, if_neg n6, if_neg n7, if_neg n8] at hp
    exact sr_xocc _ a hn hc (sr_dpar hp)
  · rw [if_pos e] at hp
    exact sr_dsum hp (fun Q => wpX_sumOf Q (nI n) (nI c)) (fun Q hQ => sr_xsum Q hn hc hQ)
  · rw [if_neg n0, if_pos e] at hp
    exact sr_xocc _ a hn hc (sr_dle hp)
  · rw [if_neg n0, if_neg n1, if_pos e] at hp
    exact sr_xocc _ a hn hc (sr_dle hp)
  · rw [if_neg n0, if_neg n1, if_neg n2, if_pos e] at hp
    exact sr_xpair _ a b hn hc ⟨sr_bI_n _, hp⟩
  · rw [if_neg n0, if_neg n1, if_neg n2, if_neg n3, if_pos e] at hp
    exact sr_xpair _ a b hn hc (sr_dn hp)
  · rw [if_neg n0, if_neg n1, if_neg n2, if_neg n3, if_neg n4, if_pos e] at hp
    exact sr_dpos hn hp (fun h0 h1 => sr_xat _ (i := 0) hn hc h0 (sr_dle h1))
  · rw [if_neg n0, if_neg n1, if_neg n2, if_neg n3, if_neg n4, if_neg n5, if_pos e] at hp
    refine sr_dpos hn hp (fun h0 h1 => ?_)
    rw [sr_sub1 h0]
    refine sr_xat _ hn hc (by omega) ?_
    rw [Nat.sub_self]
    exact sr_dle h1
  · rw [if_neg n0, if_neg n1, if_neg n2, if_neg n3, if_neg n4, if_neg n5, if_neg n6, if_pos e] at hp
    exact sr_dle hp
  · rw [if_neg n0, if_neg n1, if_neg n2, if_neg n3, if_neg n4, if_neg n5, if_neg n6, if_neg n7, if_pos e] at hp
    exact sr_xrises _ hn hc ⟨sr_bI_n _, hp⟩
theorem sr_F_t {K A B : Nat → Int32} {q n c : Nat} (h : sr_F K A B q n c = true) (z : sr_mt (K q) (A q) (B q) n c = true) : sr_F K A B (q + 1) n c = true := by
  simp only [sr_F, h, z, Bool.and_self]
theorem sr_xall2 (post : Int32 → Prop) {q n c : Nat} (fl fc : Int32) (K A B : Nat → Int32) (hq : q ≤ 3) (hn : n ≤ 6) (hc : c < 4 ^ n) (hp : post (sr_bI (sr_F K A B q n c))) : ∀ d i, i + d = q → sr_F K A B i n c = true → wX_meetsAll_2 post (nI n) (nI c) (nI q) fl fc K A B (d + 1) (nI i) := by
  intro d
  induction d with
  | zero =>
    intro i hi hf
    have e : i = q := by omega
    rw [e] at hf
    rw [hf] at hp
    exact br_t (nI_le (by omega) (by omega)) hp
  | succ d ih =>
    intro i hi hf
    have hin : vp_in (nI i) 3 := vp_in_nI (by omega) (by omega)
    refine br_f (nI_ge (by omega) (by omega)) ⟨hin, hin, hin, ?_⟩
    rw [nI_clamp (n := i) (by omega)]
    refine sr_xmeets _ _ _ _ hn hc ?_
    cases z : sr_mt (K i) (A i) (B i) n c
    · rw [sr_F_f (show i < q by omega) z] at hp
      exact br_t rfl hp
    · exact br_f sr_1n0 (nm_r (nI_1 i) (ih (i + 1) (by omega) (sr_F_t hf z)))
theorem sr_xall (post : Int32 → Prop) {q n c : Nat} (fl fc : Int32) (K A B : Nat → Int32) (hq : q ≤ 3) (hn : n ≤ 6) (hc : c < 4 ^ n) (hp : post (sr_bI (sr_F K A B q n c))) : wpX_meetsAll post (nI q, fl, fc, K, A, B) (nI n) (nI c) :=
  ⟨_, sr_xall2 post fl fc K A B hq hn hc hp q 0 (by omega) rfl⟩
