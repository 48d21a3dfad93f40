/-! the component's counting methods -/
theorem sr_xbtw6 (post : Int32 → Prop) {q n f t : Nat} (fl fc : Int32) (K A B : Nat → Int32) (hq : q ≤ 3) (hn : n ≤ 6) (ht : f + t ≤ 4 ^ n) (hp : post (nI (sr_cn (sr_F K A B q n) f t))) : ∀ d i, i + d = t → wX_failingBetween_6 post (nI n) (nI (f + t)) (nI q) fl fc K A B (d + 1) (nI (sr_cn (sr_F K A B q n) f i)) (nI (f + i)) := by
  have h4 := (sr_st_le n hn).2.1
  intro d
  induction d with
  | zero =>
    intro i hi
    have e : i = t := by omega
    rw [e]
    exact br_t (nI_le (Nat.le_refl _) (by omega)) hp
  | succ d ih =>
    intro i hi
    refine br_f (nI_ge (by omega) (by omega)) (sr_xall _ fl fc K A B hq hn (by omega) ?_)
    have h := ih (i + 1) (by omega)
    cases z : sr_F K A B q n (f + i)
    · rw [sr_cn_f z] at h
      exact br_t rfl (nm_r (nI_1 (f + i)) h)
    · rw [sr_cn_t z] at h
      exact br_f sr_1n0 (nm_r (nI_1 _) (nm_r (nI_1 (f + i)) h))
theorem sr_xbtw (post : Int32 → Prop) {q n : Nat} (f t : Nat) (fl fc : Int32) (K A B : Nat → Int32) (hq : q ≤ 3) (hn : n ≤ 6) (ht : f + t ≤ 4 ^ n) (hp : post (nI (sr_cn (sr_F K A B q n) f t))) : wpX_failingBetween post (nI q, fl, fc, K, A, B) (nI n) (nI f) (nI (f + t)) :=
  ⟨_, sr_xbtw6 post fl fc K A B hq hn ht hp t 0 (by omega)⟩
theorem sr_xlists (post : Int32 → Prop) {n : Nat} (hn : n ≤ 6) (hp : post (nI (4 ^ n))) : wpX_listsOf post (nI n) := by
  unfold wpX_listsOf
  rw [sr_pow n (by omega)]
  exact hp
/-- all of one length -/
theorem sr_xone (post : Int32 → Prop) {q n : Nat} (fl fc : Int32) (K A B : Nat → Int32) (hq : q ≤ 3) (hn : n ≤ 6) (hp : post (nI (sr_cn (sr_F K A B q n) 0 (4 ^ n)))) : wpX_failingBetween post (nI q, fl, fc, K, A, B) (nI n) 0 (nI (4 ^ n)) := by
  have h := sr_xbtw post 0 (4 ^ n) fl fc K A B hq hn (by omega) hp
  rw [Nat.zero_add] at h
  exact h
theorem sr_xof (post : Int32 → Prop) {q n : Nat} (fl fc : Int32) (K A B : Nat → Int32) (hq : q ≤ 3) (hn : n ≤ 6) (hp : post (nI (sr_cn (sr_F K A B q n) 0 (4 ^ n)))) : wpX_failingOf post (nI q, fl, fc, K, A, B) (nI n) :=
  br_f (nI_pos (by omega)) (br_t (nI_le (b := 6) hn (by decide)) (sr_xlists _ hn (sr_xone _ fl fc K A B hq hn hp)))
theorem sr_xcode11 (post : Int32 → Prop) {q n l : Nat} (fl fc : Int32) (K A B : Nat → Int32) (hq : q ≤ 3) (hn : n ≤ 6) (hl : l < 2 ^ 31) (h1 : ∀ c, c < 4 ^ n → sr_F K A B q n c = true → sr_cn (sr_F K A B q n) 0 c = l → post (nI c)) (h2 : sr_cn (sr_F K A B q n) 0 (4 ^ n) ≤ l → post (-4)) : ∀ d i, i + d = 4 ^ n → sr_cn (sr_F K A B q n) 0 i ≤ l → wX_codeOfFailing_11 post (nI n) (nI (4 ^ n)) (nI q) fl fc K A B (d + 1) (nI (l - sr_cn (sr_F K A B q n) 0 i)) (nI i) := by
  have h4 := (sr_st_le n hn).2.1
  intro d
  induction d with
  | zero =>
    intro i hi hc
    have e : i = 4 ^ n := by omega
    rw [e] at hc
    rw [e]
    exact br_t (nI_le (Nat.le_refl _) (by omega)) (h2 hc)
  | succ d ih =>
    intro i hi hc
    refine br_f (nI_ge (by omega) (by omega)) (sr_xall _ fl fc K A B hq hn (by omega) ?_)
    have h := ih (i + 1) (by omega)
    cases z : sr_F K A B q n i
    · rw [sr_cn_f (by rw [Nat.zero_add]; exact z)] at h
      exact br_t rfl (nm_r (nI_1 i) (h hc))
    · rw [sr_cn_t (by rw [Nat.zero_add]; exact z)] at h
      refine br_f sr_1n0 (pk_eq (l - sr_cn (sr_F K A B q n) 0 i) 0 (fun e => h1 i (by omega) z (by omega)) (fun e => ?_))
      have h' := h (by omega)
      refine nm_r (e' := nI (l - (sr_cn (sr_F K A B q n) 0 i + 1))) ?_ (nm_r (nI_1 i) h')
      have e2 : l - sr_cn (sr_F K A B q n) 0 i = l - (sr_cn (sr_F K A B q n) 0 i + 1) + 1 := by omega
      rw [e2]
      exact pk_m1 _
theorem sr_xcode (post : Int32 → Prop) {q n l : Nat} (fl fc : Int32) (K A B : Nat → Int32) (hq : q ≤ 3) (hn : n ≤ 6) (hl : l < 2 ^ 31) (h1 : ∀ c, c < 4 ^ n → sr_F K A B q n c = true → sr_cn (sr_F K A B q n) 0 c = l → post (nI c)) (h2 : sr_cn (sr_F K A B q n) 0 (4 ^ n) ≤ l → post (-4)) : wpX_codeOfFailing post (nI q, fl, fc, K, A, B) (nI n) (nI l) := by
  unfold wpX_codeOfFailing
  dsimp only
  exact sr_xlists _ hn ⟨_, sr_xcode11 post fl fc K A B hq hn hl h1 h2 (4 ^ n) 0 (by omega) (Nat.zero_le _)⟩
theorem sr_sh_s (F : Nat → Nat → Bool) (n : Nat) : sr_sh F (n + 1) = sr_sh F n + sr_cn (F n) 0 (4 ^ n) := rfl
theorem sr_xload11 (post : Int32 → SX → Prop) {q v : Nat} (fl fc : Int32) (K A B : Nat → Int32) (hq : q ≤ 3) (hv : v < 2 ^ 31) (h1 : ∀ l c, l ≤ 6 → c < 4 ^ l → sr_F K A B q l c = true → sr_sh (sr_F K A B q) l + sr_cn (sr_F K A B q l) 0 c = v → post (nI l) (nI q, nI l, nI c, K, A, B)) (h2 : sr_sh (sr_F K A B q) 7 ≤ v → post (-4) (nI q, fl, fc, K, A, B)) : ∀ d l, l + d = 7 → sr_sh (sr_F K A B q) l ≤ v → wX_load_11 post (nI q) fl fc K A B (d + 1) (nI (v - sr_sh (sr_F K A B q) l)) (nI l) := by
  intro d
  induction d with
  | zero =>
    intro l hl hs
    have e : l = 7 := by omega
    subst e
    exact br_t (by decide) (h2 hs)
  | succ d ih =>
    intro l hl hs
    have hn : l ≤ 6 := by omega
    have hcn := sr_cn_le (sr_F K A B q l) 0 (4 ^ l)
    have h4 := (sr_st_le l hn).2.1
    refine br_f (nI_nlt (a := 6) hn (by decide)) (sr_xof _ fl fc K A B hq hn ?_)
    refine pk_le _ _ (fun z => ?_) (fun z => ?_)
    · refine nm_r (pk_sub z) (nm_r (nI_1 l) ?_)
      have h := ih (l + 1) (by omega) (by rw [sr_sh_s]; omega)
      rw [sr_sh_s, Nat.sub_add_eq] at h
      exact h
    · refine sr_xcode _ fl fc K A B hq hn (by omega) (fun c hc hF he => ?_) (fun z2 => ?_)
      · exact h1 l c hn hc hF (by omega)
      · omega
theorem sr_xload (post : Int32 → SX → Prop) {q v : Nat} (fl fc : Int32) (K A B : Nat → Int32) (hq : q ≤ 3) (hv : v < 2 ^ 31) (h1 : ∀ l c, l ≤ 6 → c < 4 ^ l → sr_F K A B q l c = true → sr_sh (sr_F K A B q) l + sr_cn (sr_F K A B q l) 0 c = v → post (nI l) (nI q, nI l, nI c, K, A, B)) (h2 : sr_sh (sr_F K A B q) 7 ≤ v → post (-4) (nI q, fl, fc, K, A, B)) : wpX_load post (nI q, fl, fc, K, A, B) (nI v) :=
  br_t (nI_pos' hv) ⟨_, sr_xload11 post fl fc K A B hq hv h1 h2 7 0 (by omega) (Nat.zero_le _)⟩
theorem sr_xsh4 (post : Int32 → Prop) {q b : Nat} (fl fc : Int32) (K A B : Nat → Int32) (hq : q ≤ 3) (hb : b ≤ 7) (hp : post (nI (sr_sh (sr_F K A B q) b))) : ∀ d i, i + d = b → wX_failingShorterThan_4 post (nI b) (nI q) fl fc K A B (d + 1) (nI (sr_sh (sr_F K A B q) i)) (nI i) := by
  intro d
  induction d with
  | zero =>
    intro i hi
    have e : i = b := by omega
    rw [e]
    exact br_t (nI_le (Nat.le_refl _) (by omega)) hp
  | succ d ih =>
    intro i hi
    have hn : i ≤ 6 := by omega
    exact br_f (nI_ge (by omega) (by omega)) (sr_xlists _ hn (sr_xone _ fl fc K A B hq hn (nm_r (nI_add _ _) (nm_r (nI_1 i) (ih (i + 1) (by omega))))))
theorem sr_xsh (post : Int32 → Prop) {q b : Nat} (fl fc : Int32) (K A B : Nat → Int32) (hq : q ≤ 3) (hb : b ≤ 7) (hp : post (nI (sr_sh (sr_F K A B q) b))) : wpX_failingShorterThan post (nI q, fl, fc, K, A, B) (nI b) :=
  ⟨_, sr_xsh4 post fl fc K A B hq hb hp b 0 (by omega)⟩
/-- how many fail among the lists with m elements more, and less than M, that begin with the code c of length n -/
def sr_ex (F : Nat → Nat → Bool) (n c : Nat) : Nat → Nat
  | 0 => 0
  | m + 1 => sr_ex F n c m + sr_cn (F (n + m)) (c * 4 ^ m) (4 ^ m)
theorem sr_cm {n c m : Nat} (hc : c < 4 ^ n) : c * 4 ^ m + 4 ^ m ≤ 4 ^ (n + m) := by
  rw [Nat.pow_add, ← Nat.succ_mul]
  exact Nat.mul_le_mul_right _ hc
theorem sr_xext7 (post : Int32 → Prop) {q n c : Nat} (K A B : Nat → Int32) (hq : q ≤ 3) (hn : n ≤ 6) (hc : c < 4 ^ n) (hp : post (nI (sr_ex (sr_F K A B q) n c (7 - n)))) : ∀ d m, n + m + d = 7 → wX_extending_7 post (nI q) (nI n) (nI c) K A B (d + 1) (nI (sr_ex (sr_F K A B q) n c m)) (nI (n + m)) := by
  intro d
  induction d with
  | zero =>
    intro m hm
    have e : m = 7 - n := by omega
    rw [e]
    have e2 : n + (7 - n) = 7 := by omega
    rw [e2]
    exact br_t (by decide) hp
  | succ d ih =>
    intro m hm
    have hl : n + m ≤ 6 := by omega
    have h4 := (sr_st_le (n + m) hl).2.1
    have h5 := sr_cm (m := m) hc
    have h6 : c * 4 ^ m < 2 ^ 31 := Nat.lt_of_le_of_lt (Nat.le_trans (Nat.le_add_right _ _) h5) (by omega)
    have e1 : nI (n + m) - nI n = nI m := by rw [pk_sub (by omega), Nat.add_sub_cancel_left]
    refine br_f (nI_nlt (a := 6) hl (by decide)) (nm_r e1 (nm_r (sr_shlD (by omega) h6) (sr_xlists _ (by omega) ?_)))
    rw [nI_add (c * 4 ^ m) (4 ^ m)]
    exact sr_xbtw _ _ _ _ _ K A B hq hl (by omega) (nm_r (nI_add _ _) (nm_r (nI_1 (n + m)) (ih (m + 1) (by omega))))
theorem sr_xext (post : Int32 → Prop) {q n c : Nat} (K A B : Nat → Int32) (hq : q ≤ 3) (hn : n ≤ 6) (hc : c < 4 ^ n) (hp : post (nI (sr_ex (sr_F K A B q) n c (7 - n)))) : wpX_extending post (nI q, nI n, nI c, K, A, B) :=
  ⟨_, sr_xext7 post K A B hq hn hc hp (7 - n) 0 (by omega)⟩
theorem sr_not4 {c : Nat} (h : c < 2 ^ 31) : ¬ nI c = -4 := by
  intro e
  have := nI_toInt h
  rw [e] at this
  have h4 : (-4 : Int32).toInt = -4 := by decide
  omega
theorem sr_xll2 (post : Int32 → Prop) {q : Nat} (fl fc : Int32) (K A B : Nat → Int32) (hq : q ≤ 3) (h1 : ∀ l c, l ≤ 6 → c < 4 ^ l → sr_F K A B q l c = true → sr_sh (sr_F K A B q) l + sr_cn (sr_F K A B q l) 0 c = 0 → post (nI l)) (h2 : sr_sh (sr_F K A B q) 7 = 0 → post (-4)) : ∀ d l, l + d = 7 → sr_sh (sr_F K A B q) l = 0 → wX_leastLength_2 post (nI q) fl fc K A B (d + 1) (nI l) := by
  intro d
  induction d with
  | zero =>
    intro l hl hs
    have e : l = 7 := by omega
    subst e
    exact br_t (by decide) (h2 hs)
  | succ d ih =>
    intro l hl hs
    have hn : l ≤ 6 := by omega
    refine br_f (nI_nlt (a := 6) hn (by decide)) (sr_xcode _ (l := 0) fl fc K A B hq hn (by omega) (fun c hc hF he => ?_) (fun z => ?_))
    · exact br_f (sr_not4 (sr_c31 hn hc)) (h1 l c hn hc hF (by omega))
    · exact br_t rfl (nm_r (nI_1 l) (ih (l + 1) (by omega) (by rw [sr_sh_s]; omega)))
theorem sr_xll (post : Int32 → Prop) {q : Nat} (fl fc : Int32) (K A B : Nat → Int32) (hq : q ≤ 3) (h1 : ∀ l c, l ≤ 6 → c < 4 ^ l → sr_F K A B q l c = true → sr_sh (sr_F K A B q) l + sr_cn (sr_F K A B q l) 0 c = 0 → post (nI l)) (h2 : sr_sh (sr_F K A B q) 7 = 0 → post (-4)) : wpX_leastLength post (nI q, fl, fc, K, A, B) :=
  ⟨_, sr_xll2 post fl fc K A B hq h1 h2 7 0 (by omega) rfl⟩
/-- the element with the index v of a list, as both sides reckon it -/
def sr_lv (l c : Nat) (v : Int32) : Int32 := if v < 0 then -4 else if v < nI l then (nI c >>> ((2 * ((nI l - 1) - v)) &&& 31)) &&& 3 else -4
theorem sr_lv_br {post : Int32 → Prop} {l c : Nat} {v : Int32} {Q : Prop} (hp : post (sr_lv l c v)) (hQ : post ((nI c >>> ((2 * ((nI l - 1) - v)) &&& 31)) &&& 3) → Q) : (v < 0 → post (-4)) ∧ (¬ v < 0 → ((v < nI l → Q) ∧ (¬ v < nI l → post (-4)))) := by
  unfold sr_lv at hp
  refine br_c (fun z => ?_) (fun z => br_c (fun y => ?_) (fun y => ?_))
  · rw [if_pos z] at hp
    exact hp
  · rw [if_neg z, if_pos y] at hp
    exact hQ hp
  · rw [if_neg z, if_neg y] at hp
    exact hp
theorem sr_nlt4 {v : Int32} (h : ¬ v < 0) : ¬ v < -4 := fun z => h (Int32.lt_trans z (by decide))
/-- the first failing list is one: its code -/
theorem sr_first {F : Nat → Nat → Bool} {l c c' : Nat} (h1 : F l c = true) (h2 : sr_cn (F l) 0 c = 0) (h3 : F l c' = true) (h4 : sr_cn (F l) 0 c' = 0) : c' = c := sr_cn_inj h3 h1 (by rw [h2, h4])
theorem sr_xleast (post : Int32 → Prop) {q : Nat} (v fl fc : Int32) (K A B : Nat → Int32) (hq : q ≤ 3) (h1 : ∀ l c, l ≤ 6 → c < 4 ^ l → sr_F K A B q l c = true → sr_sh (sr_F K A B q) l + sr_cn (sr_F K A B q l) 0 c = 0 → post (sr_lv l c v)) (h2 : sr_sh (sr_F K A B q) 7 = 0 → post (-4)) : wpX_least post (nI q, fl, fc, K, A, B) v := by
  refine sr_xll _ fl fc K A B hq (fun l c hl hc hF he => ?_) (fun z => ?_)
  · refine sr_lv_br (h1 l c hl hc hF he) (fun hp => ?_)
    refine sr_xcode _ (l := 0) fl fc K A B hq hl (by omega) (fun c' hc' hF' he' => ?_) (fun z => ?_)
    · have e := sr_first hF (by omega) hF' he'
      rw [e]
      exact hp
    · exact absurd z (fun z => sr_cn_none z c hc hF (by omega))
  · exact br_c (fun _ => h2 z) (fun y => br_f (sr_nlt4 y) (h2 z))
