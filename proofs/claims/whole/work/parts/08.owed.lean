/-! the owed statements -/
theorem sr_wi {x lo hi : Int32} {post : Int32 → Prop} {h : Bool} {Q : Prop} (hp : post (sr_bI ((!decide (x < lo) && !decide (hi < x)) && h))) (hQ : post (sr_bI h) → Q) : (x < lo → post 0) ∧ (¬ x < lo → ((hi < x → post 0) ∧ (¬ hi < x → Q))) := by
  refine br_c (fun z => ?_) (fun z => br_c (fun y => ?_) (fun y => ?_))
  · rw [decide_eq_true z] at hp
    exact hp
  · rw [decide_eq_false z, decide_eq_true y] at hp
    exact hp
  · rw [decide_eq_false z, decide_eq_false y] at hp
    exact hQ hp
def sr_w (x lo hi : Int32) : Bool := !decide (x < lo) && !decide (hi < x)
theorem sr_w1 {x lo hi : Int32} {post : Int32 → Prop} (hp : post (sr_bI (sr_w x lo hi))) : (x < lo → post 0) ∧ (¬ x < lo → ((hi < x → post 0) ∧ (¬ hi < x → post 1))) :=
  sr_wi (h := true) (by rw [Bool.and_true]; exact hp) (fun h => h)
theorem sr_xel (post : Int32 → Prop) (x : Int32) (hp : post (sr_bI (sr_w x 0 3))) : wpX_isElement post x := sr_w1 hp
theorem sr_ywi (post : Int32 → Prop) (x lo hi fq fl fd kn : Int32) (K A B M : Nat → Int32) (hp : post (sr_bI (sr_w x lo hi))) : wpY_within post (fq, fl, fd, kn, K, A, B, M) x lo hi := sr_w1 hp
theorem sr_and {post : Int32 → Prop} {g h : Bool} {Q : Prop} (hp : post (sr_bI (g && h))) (hQ : post (sr_bI h) → Q) : (sr_bI g = 0 → post 0) ∧ (¬ sr_bI g = 0 → Q) := by
  cases g
  · exact br_t rfl hp
  · exact br_f sr_1n0 (hQ hp)
theorem sr_one {post : Int32 → Prop} {g : Bool} (hp : post (sr_bI g)) : (sr_bI g = 0 → post 0) ∧ (¬ sr_bI g = 0 → post 1) := by
  cases g
  · exact br_t rfl hp
  · exact br_f sr_1n0 hp
/-- which numbers a kind from 0 to 9 takes -/
def sr_gd (k a b : Int32) : Bool :=
  if k = 0 then sr_w a 2 4 && (!decide (b < 0) && !decide (a ≤ b))
  else if k = 1 then sr_w a 0 3 && sr_w b 1 3
  else if k = 2 then sr_w a 0 3 && sr_w b 0 2
  else if k = 3 then sr_w a 0 3 && sr_w b 0 3
  else if k = 4 then sr_w a 0 3 && sr_w b 0 3
  else if k = 5 then sr_w a 0 3
  else if k = 6 then sr_w a 0 3
  else if k = 7 then sr_w a 0 3
  else if k = 8 then true
  else sr_w a 0 3 && sr_w b 0 1
theorem sr_w01 {b : Int32} {post : Int32 → Prop} (hp : post (sr_bI (sr_w b 0 1))) : (b = 0 → post 1) ∧ (¬ b = 0 → ((b = 1 → post 1) ∧ (¬ b = 1 → post 0))) := by
  obtain ⟨h1, h2⟩ := sr_w1 hp
  refine br_c (fun z => ?_) (fun z => br_c (fun y => ?_) (fun y => ?_))
  · subst z
    exact (h2 (by decide)).2 (by decide)
  · subst y
    exact (h2 (by decide)).2 (by decide)
  · by_cases c1 : b < 0
    · exact h1 c1
    · refine (h2 c1).1 ?_
      apply Int32.not_le.mp
      intro c2
      obtain ⟨j, hj, e⟩ := nI_of2 (M := 1) (n := 1) (by decide) c1 c2
      have ej : j = 0 ∨ j = 1 := by omega
      rcases ej with ej | ej
      · subst ej; exact z e
      · subst ej; exact y e
theorem sr_xnf (post : Int32 → Prop) (k a b : Int32) (h0 : ¬ k < 0) (h9 : ¬ 9 < k) (hp : post (sr_bI (sr_gd k a b))) : wpX_numbersFit post k a b := by
  unfold sr_gd at hp
  refine br_f h0 (br_f h9 (br_c (fun e => ?_) (fun n0 => br_c (fun e => ?_) (fun n1 => br_c (fun e => ?_) (fun n2 => br_c (fun e => ?_) (fun n3 => br_c (fun e => ?_) (fun n4 => br_c (fun e => ?_) (fun n5 => br_c (fun e => ?_) (fun n6 => br_c (fun e => ?_) (fun n7 => br_c (fun e => ?_) (fun n8 => br_c (fun e => ?_) (fun n9 => trivial))))))))))))
  · rw [if_pos e] at hp
    refine sr_wi hp (fun h => ?_)
    refine br_c (fun z => ?_) (fun z => br_c (fun y => ?_) (fun y => ?_))
    · rw [decide_eq_true z] at h
      exact h
    · rw [decide_eq_false z, decide_eq_true y] at h
      exact h
    · rw [decide_eq_false z, decide_eq_false y] at h
      exact h
  · rw [if_neg n0, if_pos e] at hp
    exact sr_xel _ a (sr_and hp (fun h => sr_w1 h))
  · rw [if_neg n0, if_neg n1, if_pos e] at hp
    exact sr_xel _ a (sr_and hp (fun h => sr_w1 h))
  · rw [if_neg n0, if_neg n1, if_neg n2, if_pos e] at hp
    unfold wX_numbersFit_126
    exact sr_xel _ a (sr_and hp (fun h => sr_xel _ b (sr_one h)))
  · rw [if_neg n0, if_neg n1, if_neg n2, if_neg n3, if_pos e] at hp
    unfold wX_numbersFit_126
    exact sr_xel _ a (sr_and hp (fun h => sr_xel _ b (sr_one h)))
  · rw [if_neg n0, if_neg n1, if_neg n2, if_neg n3, if_neg n4, if_pos e] at hp
    unfold wX_numbersFit_146
    exact sr_xel _ a ⟨sr_bI_n _, hp⟩
  · rw [if_neg n0, if_neg n1, if_neg n2, if_neg n3, if_neg n4, if_neg n5, if_pos e] at hp
    unfold wX_numbersFit_146
    exact sr_xel _ a ⟨sr_bI_n _, hp⟩
  · rw [if_neg n0, if_neg n1, if_neg n2, if_neg n3, if_neg n4, if_neg n5, if_neg n6, if_pos e] at hp
    exact sr_w1 hp
  · rw [if_neg n0, if_neg n1, if_neg n2, if_neg n3, if_neg n4, if_neg n5, if_neg n6, if_neg n7, if_pos e] at hp
    exact hp
  · rw [if_neg n0, if_neg n1, if_neg n2, if_neg n3, if_neg n4, if_neg n5, if_neg n6, if_neg n7, if_neg n8] at hp
    exact sr_xel _ a (sr_and hp (fun h => sr_w01 h))
theorem sr_k59 {k : Int32} (h0 : ¬ k < 0) (h9 : ¬ 9 < k) (n0 : ¬ k = 0) (n1 : ¬ k = 1) (n2 : ¬ k = 2) (n3 : ¬ k = 3) (n4 : ¬ k = 4) (n8 : ¬ k = 8) (n9 : ¬ k = 9) : k = 5 ∨ k = 6 ∨ k = 7 := by
  obtain ⟨j, hj, e⟩ := nI_of2 (M := 9) (n := 9) (by decide) h0 (Int32.not_lt.mp h9)
  have ej : j = 0 ∨ j = 1 ∨ j = 2 ∨ j = 3 ∨ j = 4 ∨ j = 5 ∨ j = 6 ∨ j = 7 ∨ j = 8 ∨ j = 9 := by omega
  rcases ej with ej | ej | ej | ej | ej | ej | ej | ej | ej | ej <;> subst ej
  · exact absurd e n0
  · exact absurd e n1
  · exact absurd e n2
  · exact absurd e n3
  · exact absurd e n4
  · exact Or.inl e
  · exact Or.inr (Or.inl e)
  · exact Or.inr (Or.inr e)
  · exact absurd e n8
  · exact absurd e n9
theorem sr_am1 {a b : Int32} (h2 : ¬ a < 2) (h4 : ¬ 4 < a) : (a - 1 < b) ↔ (a ≤ b) := by
  have h0 : ¬ a < 0 := fun z => h2 (Int32.lt_trans z (by decide))
  obtain ⟨j, hj, e⟩ := nI_of2 (M := 4) (n := 4) (by decide) h0 (Int32.not_lt.mp h4)
  have hj0 : 0 < j := by
    apply Nat.pos_of_ne_zero
    intro z
    subst z
    subst e
    exact h2 (by decide)
  subst e
  rw [sr_sub1 hj0, Int32.lt_iff_toInt_lt, Int32.le_iff_toInt_le, nI_toInt (by omega), nI_toInt (by omega)]
  omega
theorem sr_ygn (post : Int32 → Prop) (k a b fq fl fd kn : Int32) (K A B M : Nat → Int32) (h0 : ¬ k < 0) (h9 : ¬ 9 < k) (hp : post (sr_bI (sr_gd k a b))) : wpY_goodNumbers post (fq, fl, fd, kn, K, A, B, M) k a b := by
  unfold sr_gd at hp
  refine br_c (fun e => ?_) (fun n0 => br_c (fun e => ?_) (fun n8 => ?_))
  · rw [if_pos e] at hp
    refine sr_ywi _ a 2 4 fq fl fd kn K A B M ?_
    cases g : sr_w a 2 4
    · rw [g] at hp
      exact br_t rfl hp
    · rw [g] at hp
      refine br_f sr_1n0 (sr_ywi _ b 0 (a - 1) fq fl fd kn K A B M (sr_one ?_))
      have g2 : (!decide (a < 2)) = true ∧ (!decide (4 < a)) = true := by
        unfold sr_w at g
        rw [Bool.and_eq_true] at g
        exact g
      have a2 : ¬ a < 2 := by
        intro z
        rw [decide_eq_true z] at g2
        exact absurd g2.1 (by decide)
      have a4 : ¬ 4 < a := by
        intro z
        rw [decide_eq_true z] at g2
        exact absurd g2.2 (by decide)
      have e2 : sr_w b 0 (a - 1) = (!decide (b < 0) && !decide (a ≤ b)) := by
        unfold sr_w
        rw [decide_eq_decide.mpr (sr_am1 (b := b) a2 a4)]
      rw [e2]
      exact hp
  · rw [e] at hp
    exact hp
  · refine sr_ywi _ a 0 3 fq fl fd kn K A B M ?_
    rw [if_neg n0] at hp
    by_cases n1 : k = 1
    · rw [if_pos n1] at hp
      exact sr_and hp (fun h => br_t n1 (sr_ywi _ b 1 3 fq fl fd kn K A B M ⟨sr_bI_n _, h⟩))
    · rw [if_neg n1] at hp
      by_cases n2 : k = 2
      · rw [if_pos n2] at hp
        exact sr_and hp (fun h => br_f n1 (br_t n2 (sr_ywi _ b 0 2 fq fl fd kn K A B M ⟨sr_bI_n _, h⟩)))
      · rw [if_neg n2] at hp
        by_cases n3 : k = 3
        · rw [if_pos n3] at hp
          refine sr_and hp (fun h => br_f n1 (br_f n2 (br_t n3 ?_)))
          unfold wY_goodNumbers_88
          exact sr_ywi _ b 0 3 fq fl fd kn K A B M ⟨sr_bI_n _, h⟩
        · rw [if_neg n3] at hp
          by_cases n4 : k = 4
          · rw [if_pos n4] at hp
            refine sr_and hp (fun h => br_f n1 (br_f n2 (br_f n3 (br_t n4 ?_))))
            unfold wY_goodNumbers_88
            exact sr_ywi _ b 0 3 fq fl fd kn K A B M ⟨sr_bI_n _, h⟩
          · rw [if_neg n4] at hp
            by_cases n9 : k = 9
            · have n5 : ¬ k = 5 := by rw [n9]; decide
              have n6 : ¬ k = 6 := by rw [n9]; decide
              have n7 : ¬ k = 7 := by rw [n9]; decide
              rw [if_neg n5, if_neg n6, if_neg n7, if_neg n8] at hp
              exact sr_and hp (fun h => br_f n1 (br_f n2 (br_f n3 (br_f n4 (br_t n9 (sr_ywi _ b 0 1 fq fl fd kn K A B M (sr_one h)))))))
            · have hq : post (sr_bI (sr_w a 0 3)) := by
                by_cases n5 : k = 5
                · rw [if_pos n5] at hp; exact hp
                · rw [if_neg n5] at hp
                  by_cases n6 : k = 6
                  · rw [if_pos n6] at hp; exact hp
                  · rw [if_neg n6] at hp
                    have n7 : k = 7 := by
                      rcases sr_k59 h0 h9 n0 n1 n2 n3 n4 n8 n9 with z | z | z
                      · exact absurd z n5
                      · exact absurd z n6
                      · exact z
                    rw [if_pos n7] at hp
                    exact hp
              refine sr_and (h := true) (by rw [Bool.and_true]; exact hq) (fun h => br_f n1 (br_f n2 (br_f n3 (br_f n4 (br_f n9 h)))))
