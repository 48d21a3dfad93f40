/-- count, kinds and numbers alike; the stage alike; the marks, where they are known, those of the conditions -/
def i_Rel (_ : Nat) (u : SX) (v : SY) : Prop := ∃ (q n c : Nat) (kn : Int32) (K A B M : Nat → Int32), u = (nI q, nI n, nI c, K, A, B) ∧ v = (nI q, nI n, nI c, kn, K, A, B, M) ∧ q ≤ 3 ∧ n ≤ 6 ∧ c < 4 ^ n ∧ sr_Kn kn M (sr_P (sr_F K A B q))
theorem sr_rel {k q n c : Nat} {kn : Int32} {K A B M : Nat → Int32} (hq : q ≤ 3) (hn : n ≤ 6) (hc : c < 4 ^ n) (hv : sr_Kn kn M (sr_P (sr_F K A B q))) : i_Rel k (nI q, nI n, nI c, K, A, B) (nI q, nI n, nI c, kn, K, A, B, M) := ⟨q, n, c, kn, K, A, B, M, rfl, rfl, hq, hn, hc, hv⟩
theorem i_up {k : Nat} {u : SX} {v : SY} (h : i_Rel k u v) : i_Rel (k + 4) u v := h
theorem i_vc0 : wpX_init (fun u => wpY_init (fun v => i_Rel 0 u v)) := sr_rel (k := 0) (q := 0) (n := 0) (c := 0) (by decide) (by decide) (by decide) sr_Kn0
theorem i_vc_condition {k : Nat} {u : SX} {v : SY} (I : i_Rel k u v) (hk : k + 4 ≤ 2048) (v1 : Int32) (v2 : Int32) (v3 : Int32) : wpX_condition (fun r u' => wpY_condition (fun r' v' => r' = r ∧ i_Rel (k + 4) u' v') v v1 v2 v3) u v1 v2 v3 := by
  have I0 := I
  obtain ⟨q, n, c, kn, K, A, B, M, rfl, rfl, hq, hn, hc, hv⟩ := I
  refine br_c (fun z => br_t z ⟨rfl, I0⟩) (fun z0 => br_c (fun z9 => ?_) (fun z9 => br_f z0 (br_f z9 ⟨rfl, I0⟩)))
  have h9 : ¬ 9 < v1 := Int32.not_lt.mpr z9
  refine sr_xnf _ v1 v2 v3 z0 h9 ?_
  cases g : sr_gd v1 v2 v3
  · refine br_t rfl (br_f z0 (br_t z9 (sr_ygn _ v1 v2 v3 _ _ _ _ _ _ _ _ z0 h9 ?_)))
    rw [g]
    exact br_t rfl ⟨rfl, I0⟩
  · refine br_f sr_1n0 (pk_lt q 3 (fun h3 => ?_) (fun h3 => ?_))
    · have hin : vp_in (nI q) 3 := vp_in_nI h3 (by decide)
      have ec : (nI q).toNatClampNeg = q := nI_clamp (by omega)
      refine ⟨hin, nm_e ⟨hin, nm_e ⟨hin, nm_e (nm_r (nI_1 q) (br_f z0 (br_t z9 (sr_ygn _ v1 v2 v3 _ _ _ _ _ _ _ _ z0 h9 ?_))))⟩⟩⟩
      rw [g]
      refine br_f sr_1n0 (pk_eq q 3 (fun e => absurd e (by omega)) (fun e => ⟨hin, nm_e ⟨hin, nm_e ⟨hin, nm_e (nm_r (nI_1 q) ⟨rfl, ?_⟩)⟩⟩⟩))
      exact sr_rel (by omega) hn hc sr_Kn0
    · refine br_f z0 (br_t z9 (sr_ygn _ v1 v2 v3 _ _ _ _ _ _ _ _ z0 h9 ?_))
      rw [g]
      exact br_f sr_1n0 (pk_eq q 3 (fun e => ⟨rfl, I0⟩) (fun e => absurd h3 (by omega)))
theorem i_vc_drop {k : Nat} {u : SX} {v : SY} (I : i_Rel k u v) (hk : k + 4 ≤ 2048) : wpX_drop (fun r u' => wpY_drop (fun r' v' => r' = r ∧ i_Rel (k + 4) u' v') v) u := by
  have I0 := I
  obtain ⟨q, n, c, kn, K, A, B, M, rfl, rfl, hq, hn, hc, hv⟩ := I
  refine br_c (fun z => br_t z ⟨rfl, I0⟩) (fun z => ?_)
  have hq0 : 0 < q := by
    apply Nat.pos_of_ne_zero
    intro e
    subst e
    exact z rfl
  exact nm_r (sr_sub1 hq0) (br_f z (nm_r (sr_sub1 hq0) ⟨rfl, sr_rel (by omega) hn hc sr_Kn0⟩))
theorem i_vc_push {k : Nat} {u : SX} {v : SY} (I : i_Rel k u v) (hk : k + 4 ≤ 2048) (v1 : Int32) : wpX_push (fun r u' => wpY_push (fun r' v' => r' = r ∧ i_Rel (k + 4) u' v') v v1) u v1 := by
  have I0 := I
  obtain ⟨q, n, c, kn, K, A, B, M, rfl, rfl, hq, hn, hc, hv⟩ := I
  unfold wpX_push
  dsimp only
  refine sr_xel _ v1 ?_
  unfold sr_w
  by_cases z0 : v1 < 0
  · rw [decide_eq_true z0]
    exact br_t rfl (br_t z0 ⟨rfl, I0⟩)
  · by_cases z3 : 3 < v1
    · rw [decide_eq_false z0, decide_eq_true z3]
      exact br_t rfl (br_f z0 (br_f (Int32.not_le.mpr z3) ⟨rfl, I0⟩))
    · rw [decide_eq_false z0, decide_eq_false z3]
      have z3' : v1 ≤ 3 := Int32.not_lt.mp z3
      obtain ⟨x, hx, rfl⟩ := nI_of2 (M := 3) (n := 3) (by decide) z0 z3'
      refine br_f sr_1n0 (pk_lt n 6 (fun h6 => ?_) (fun h6 => ?_))
      · have h4 := (sr_st_le n hn).2.1
        refine nm_r (sr_or4 (by omega) (by omega)) (nm_r (nI_1 n) (br_f z0 (br_t z3' (pk_eq n 6 (fun e => absurd e (by omega)) (fun e => ?_)))))
        refine nm_r (e' := nI (c * 4 + x)) ?_ (nm_r (nI_1 n) ⟨rfl, sr_rel hq (by omega) (sr_lin hc (by omega)) hv⟩)
        rw [← nI_add, ← pk_mul]
        rfl
      · exact br_f z0 (br_t z3' (pk_eq n 6 (fun e => ⟨rfl, I0⟩) (fun e => absurd h6 (by omega))))
theorem i_vc_empty {k : Nat} {u : SX} {v : SY} (I : i_Rel k u v) (hk : k + 4 ≤ 2048) : wpX_empty (fun u' => wpY_empty (fun v' => i_Rel (k + 4) u' v') v) u := by
  obtain ⟨q, n, c, kn, K, A, B, M, rfl, rfl, hq, hn, hc, hv⟩ := I
  exact sr_rel (k := k + 4) (n := 0) (c := 0) hq (by decide) (by decide) hv
theorem sr_tot {F : Nat → Nat → Bool} : sr_sh F 7 = sr_cn (sr_P F) 0 5461 := sr_sh_cn F 7 (by decide)
theorem sr_cnI {P : Nat → Bool} {k w : Nat} (hk : k < 5461) (hw : w < 2 ^ 31) (h : nI (sr_cn P 0 k) = nI w) : sr_cn P 0 k = w := by
  have := sr_cn_le P 0 k
  exact (nI_eq (by omega) hw).mp h
/-- one list alone has a given number -/
theorem sr_uni {F : Nat → Nat → Bool} {l c l' c' w : Nat} (hl : l ≤ 6) (hc : c < 4 ^ l) (hF : F l c = true) (he : sr_sh F l + sr_cn (F l) 0 c = w) (hl' : l' ≤ 6) (hc' : c' < 4 ^ l') (hF' : F l' c' = true) (hw : w < 2 ^ 31) (he' : nI (sr_sh F l' + sr_cn (F l') 0 c') = nI w) : l' = l ∧ c' = c := by
  have s1 := (sr_st_le l hl).1
  have s2 := (sr_st_le l' hl').1
  have r1 := sr_rank F hl (Nat.le_of_lt hc)
  have r2 := sr_rank F hl' (Nat.le_of_lt hc')
  have p1 := sr_P_at F hl hc
  have p2 := sr_P_at F hl' hc'
  rw [← r2] at he'
  have e2 := sr_cnI (by omega) hw he'
  have e := sr_cn_inj (p2.trans hF') (p1.trans hF) (by omega)
  have a1 := sr_ln_st l hl c hc
  have a2 := sr_ln_st l' hl' c' hc'
  have el : l' = l := by rw [← a1, ← a2, e]
  subst el
  exact ⟨rfl, by omega⟩
theorem sr_no {F : Nat → Nat → Bool} {l c w : Nat} {A : Prop} (hl : l ≤ 6) (hc : c < 4 ^ l) (hF : F l c = true) (he : sr_sh F l + sr_cn (F l) 0 c = w) (h : ∀ k, k < 5461 → sr_P F k = true → ¬ nI (sr_cn (sr_P F) 0 k) = nI w) : A := by
  have s1 := (sr_st_le l hl).1
  have r1 := sr_rank F hl (Nat.le_of_lt hc)
  exact absurd (by rw [r1, he]) (h (sr_st l + c) (by omega) ((sr_P_at F hl hc).trans hF))
theorem sr_no2 {F : Nat → Nat → Bool} {l c w : Nat} {A : Prop} (hl : l ≤ 6) (hc : c < 4 ^ l) (hF : F l c = true) (hw : w < 2 ^ 31) (he : nI (sr_sh F l + sr_cn (F l) 0 c) = nI w) (h : sr_sh F 7 ≤ w) : A := by
  have s1 := (sr_st_le l hl).1
  have r1 := sr_rank F hl (Nat.le_of_lt hc)
  rw [← r1] at he
  rw [sr_tot] at h
  exact absurd (sr_cnI (by omega) hw he) (fun e => sr_cn_none h (sr_st l + c) (by omega) ((sr_P_at F hl hc).trans hF) e)
theorem i_vc_load {k : Nat} {u : SX} {v : SY} (I : i_Rel k u v) (hk : k + 4 ≤ 2048) (v1 : Int32) : wpX_load (fun r u' => wpY_load (fun r' v' => r' = r ∧ i_Rel (k + 4) u' v') v v1) u v1 := by
  obtain ⟨q, n, c, kn, K, A, B, M, rfl, rfl, hq, hn, hc, hv⟩ := I
  by_cases z : v1 < 0
  · refine br_f (Int32.not_le.mpr z) (sr_yload _ v1 _ _ _ _ _ _ _ hq hv (fun M' l c' hM hl hc' hF he => ?_) (fun M' hM h => ⟨rfl, sr_rel hq hn hc (sr_Kn1 hM)⟩))
    have s1 := (sr_st_le l hl).1
    have r1 := sr_rank (sr_F K A B q) hl (Nat.le_of_lt hc')
    have b := sr_cn_le (sr_P (sr_F K A B q)) 0 (sr_st l + c')
    subst he
    exact absurd z (nI_pos (by omega))
  · obtain ⟨w, hw, rfl⟩ := nI_of z
    refine sr_xload _ _ _ K A B hq hw (fun l c1 hl hc1 hF he => ?_) (fun h7 => ?_)
    · refine sr_yload _ (nI w) _ _ _ _ _ _ _ hq hv (fun M' l' c2 hM hl' hc2 hF' he' => ?_) (fun M' hM h => sr_no hl hc1 hF he h)
      obtain ⟨e1, e2⟩ := sr_uni hl hc1 hF he hl' hc2 hF' hw he'
      subst e1
      subst e2
      exact ⟨rfl, sr_rel hq hl hc1 (sr_Kn1 hM)⟩
    · exact sr_yload _ (nI w) _ _ _ _ _ _ _ hq hv (fun M' l' c2 hM hl' hc2 hF' he' => sr_no2 hl' hc2 hF' hw he' h7) (fun M' hM h => ⟨rfl, sr_rel hq hn hc (sr_Kn1 hM)⟩)
theorem i_vc_failing {k : Nat} {u : SX} {v : SY} (I : i_Rel k u v) (hk : k + 4 ≤ 2048) : wpX_failing (fun r => wpY_failing (fun r' v' => r' = r ∧ i_Rel (k + 4) u v') v) u := by
  obtain ⟨q, n, c, kn, K, A, B, M, rfl, rfl, hq, hn, hc, hv⟩ := I
  unfold wpX_failing
  dsimp only
  refine sr_xsh _ (b := 7) _ _ K A B hq (by decide) ?_
  unfold wpY_failing
  dsimp only
  refine sr_ybtw _ 0 5461 _ _ _ K A B M hq hv (by decide) (fun M' hM => ⟨?_, sr_rel hq hn hc (sr_Kn1 hM)⟩)
  rw [sr_tot]
theorem i_vc_failingOf {k : Nat} {u : SX} {v : SY} (I : i_Rel k u v) (hk : k + 4 ≤ 2048) (v1 : Int32) : wpX_failingOf (fun r => wpY_failingOf (fun r' v' => r' = r ∧ i_Rel (k + 4) u v') v v1) u v1 := by
  have I0 := I
  obtain ⟨q, n, c, kn, K, A, B, M, rfl, rfl, hq, hn, hc, hv⟩ := I
  by_cases z : v1 < 0
  · exact br_t z (br_t z ⟨rfl, I0⟩)
  · by_cases z6 : v1 ≤ 6
    · obtain ⟨l, hl, rfl⟩ := nI_of2 (M := 6) (n := 6) (by decide) z z6
      refine sr_xof _ _ _ K A B hq hl (br_f z (br_t z6 (sr_ystart _ _ _ _ _ _ _ _ _ (by omega) ?_)))
      rw [nI_1]
      refine sr_ystart _ _ _ _ _ _ _ _ _ (by omega) ?_
      refine sr_ybtw _ (sr_st l) (4 ^ l) _ _ _ K A B M hq hv (sr_st_le l hl).1 (fun M' hM => ⟨?_, sr_rel hq hn hc (sr_Kn1 hM)⟩)
      have h := sr_blk (sr_F K A B q) (n := l) (a := 0) (d := 4 ^ l) hl (by omega)
      rw [Nat.add_zero] at h
      rw [h]
    · exact br_f z (br_f z6 (br_f z (br_f z6 ⟨rfl, I0⟩)))
theorem i_vc_fails {k : Nat} {u : SX} {v : SY} (I : i_Rel k u v) (hk : k + 4 ≤ 2048) : wpX_fails (fun r => wpY_fails (fun r' => r' = r ∧ i_Rel (k + 4) u v) v) u := by
  have I0 := I
  obtain ⟨q, n, c, kn, K, A, B, M, rfl, rfl, hq, hn, hc, hv⟩ := I
  unfold wpX_fails
  dsimp only
  refine sr_xall _ _ _ K A B hq hn hc ⟨sr_bI_n _, ?_⟩
  unfold wpY_fails
  dsimp only
  exact sr_yall _ _ _ _ K A B M hq hn hc ⟨sr_bI_n _, rfl, I0⟩
theorem i_vc_rank {k : Nat} {u : SX} {v : SY} (I : i_Rel k u v) (hk : k + 4 ≤ 2048) : wpX_rank (fun r => wpY_rank (fun r' v' => r' = r ∧ i_Rel (k + 4) u v') v) u := by
  obtain ⟨q, n, c, kn, K, A, B, M, rfl, rfl, hq, hn, hc, hv⟩ := I
  have s1 := (sr_st_le n hn).1
  unfold wpX_rank
  dsimp only
  refine sr_xsh _ _ _ K A B hq (by omega) ?_
  have hb := sr_xbtw (q := q) (n := n) (fun r_8 => wpY_rank (fun r' v' => r' = nI (sr_sh (sr_F K A B q) n) + r_8 ∧ i_Rel (k + 4) (nI q, nI n, nI c, K, A, B) v') (nI q, nI n, nI c, kn, K, A, B, M)) 0 c (nI n) (nI c) K A B hq hn (by omega) ?_
  · rw [Nat.zero_add] at hb
    exact hb
  · unfold wpY_rank
    dsimp only
    refine sr_ystart _ _ _ _ _ _ _ _ _ (by omega) (nm_r (nI_add _ _) ?_)
    have hy := sr_ybtw (q := q) (fun r_11 v' => r_11 = nI (sr_sh (sr_F K A B q) n) + nI (sr_cn (sr_F K A B q n) 0 c) ∧ i_Rel (k + 4) (nI q, nI n, nI c, K, A, B) v') 0 (sr_st n + c) (nI n) (nI c) kn K A B M hq hv (by omega) (fun M' hM => ⟨?_, sr_rel hq hn hc (sr_Kn1 hM)⟩)
    · rw [Nat.zero_add] at hy
      exact hy
    · rw [sr_rank _ hn (Nat.le_of_lt hc), nI_add]
theorem i_vc_extending {k : Nat} {u : SX} {v : SY} (I : i_Rel k u v) (hk : k + 4 ≤ 2048) : wpX_extending (fun r => wpY_extending (fun r' v' => r' = r ∧ i_Rel (k + 4) u v') v) u := by
  obtain ⟨q, n, c, kn, K, A, B, M, rfl, rfl, hq, hn, hc, hv⟩ := I
  exact sr_xext _ K A B hq hn hc (sr_yext _ kn K A B M hq hn hc hv (fun M' hM => ⟨rfl, sr_rel hq hn hc (sr_Kn1 hM)⟩))
theorem i_vc_leastLength {k : Nat} {u : SX} {v : SY} (I : i_Rel k u v) (hk : k + 4 ≤ 2048) : wpX_leastLength (fun r => wpY_leastLength (fun r' v' => r' = r ∧ i_Rel (k + 4) u v') v) u := by
  obtain ⟨q, n, c, kn, K, A, B, M, rfl, rfl, hq, hn, hc, hv⟩ := I
  refine sr_xll _ _ _ K A B hq (fun l c1 hl hc1 hF he => ?_) (fun h7 => ?_)
  · refine sr_yll _ _ _ _ _ _ _ _ hq hv (fun M' l' c2 hM hl' hc2 hF' he' => ?_) (fun M' hM h => sr_no (w := 0) hl hc1 hF he h)
    obtain ⟨e1, e2⟩ := sr_uni (w := 0) hl hc1 hF he hl' hc2 hF' (by decide) he'
    subst e1
    exact ⟨rfl, sr_rel hq hn hc (sr_Kn1 hM)⟩
  · exact sr_yll _ _ _ _ _ _ _ _ hq hv (fun M' l' c2 hM hl' hc2 hF' he' => sr_no2 (w := 0) hl' hc2 hF' (by decide) he' (by omega)) (fun M' hM h => ⟨rfl, sr_rel hq hn hc (sr_Kn1 hM)⟩)
theorem i_vc_least {k : Nat} {u : SX} {v : SY} (I : i_Rel k u v) (hk : k + 4 ≤ 2048) (v1 : Int32) : wpX_least (fun r => wpY_least (fun r' v' => r' = r ∧ i_Rel (k + 4) u v') v v1) u v1 := by
  obtain ⟨q, n, c, kn, K, A, B, M, rfl, rfl, hq, hn, hc, hv⟩ := I
  refine sr_xleast _ v1 _ _ K A B hq (fun l c1 hl hc1 hF he => ?_) (fun h7 => ?_)
  · refine sr_yleast _ v1 _ _ _ _ _ _ _ hq hv (fun M' l' c2 hM hl' hc2 hF' he' => ?_) (fun M' hM h => sr_no (w := 0) hl hc1 hF he h)
    obtain ⟨e1, e2⟩ := sr_uni (w := 0) hl hc1 hF he hl' hc2 hF' (by decide) he'
    subst e1
    subst e2
    exact ⟨rfl, sr_rel hq hn hc (sr_Kn1 hM)⟩
  · exact sr_yleast _ v1 _ _ _ _ _ _ _ hq hv (fun M' l' c2 hM hl' hc2 hF' he' => sr_no2 (w := 0) hl' hc2 hF' (by decide) he' (by omega)) (fun M' hM h => ⟨rfl, sr_rel hq hn hc (sr_Kn1 hM)⟩)
theorem i_vc_element {k : Nat} {u : SX} {v : SY} (I : i_Rel k u v) (hk : k + 4 ≤ 2048) (v1 : Int32) : wpX_element (fun r => wpY_element (fun r' => r' = r ∧ i_Rel (k + 4) u v) v v1) u v1 := by
  have I0 := I
  obtain ⟨q, n, c, kn, K, A, B, M, rfl, rfl, hq, hn, hc, hv⟩ := I
  exact br_c (fun z => br_t z ⟨rfl, I0⟩) (fun z => br_c (fun y => br_f z (br_t y ⟨rfl, I0⟩)) (fun y => br_f z (br_f y ⟨rfl, I0⟩)))
