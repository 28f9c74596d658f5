/-! THE STEPS: what only tells -/
section PU
variable {m m' : SM} {M : MM} {nb nq pl tu b q k how ls n t : Nat} {B B2 Q Q2 : BK} {v : Nat → Nat}
theorem pu_s {S : Type} {f : S → Option Int32} {m : S} {r : Int32} (h : f m = some r) : pu f m = some (r, m) := by
  unfold pu
  rw [h, b1_some]
theorem n5 (h : n < 5) : n = 0 ∨ n = 1 ∨ n = 2 ∨ n = 3 ∨ n = 4 := by omega
theorem ftO {y : Nat} (p : Int32) (hy : y < 2 ^ 31) : (f_X5_isFromTo p (nI 0) (nI y) = some (nI 0) ∧ ∀ k, k ≤ y → ¬ p = nI k) ∨ ∃ n, p = nI n ∧ n ≤ y ∧ f_X5_isFromTo p (nI 0) (nI y) = some (nI 1) := by
  rcases nI_ex p with ⟨n, hn, rfl⟩ | hp
  · rw [isFT hn (by decide) hy]
    by_cases c : n ≤ y
    · rw [if_pos ⟨Nat.zero_le _, c⟩]
      exact Or.inr ⟨n, rfl, c, rfl⟩
    · rw [if_neg (fun z => c z.2)]
      refine Or.inl ⟨rfl, fun k hk e => ?_⟩
      have := (nI_eq hn (by omega)).mp e
      omega
  · left
    refine ⟨?_, fun k hk => neg_ne hp (by omega)⟩
    unfold f_X5_isFromTo
    rw [if_pos (lt_nI_neg hp (by decide))]
theorem st_block (a0 a1 : Int32) : stepOK Rel (pu (fun M => f_X5_block M a0 a1)) (fun m => f_X6_block m a0 a1) := by
  refine mkStep fun M S hn Hs ks K tl tx hI hC hR => ?_
  obtain ⟨nb, nq, pl, tu, B, Q⟩ := S
  have hI0 : BI nb B := hI.1.1
  have hQ0 : QQ nq Q := hI.1.2.1
  have hpl : pl ≤ 2 := hI.1.2.2.1
  have htu : tu < 8 := hI.1.2.2.2.1
  have hSD : SD nb B nq Q := hI.1.2.2.2.2
  have cB : CB (M 0) nb B := hC.1.1
  have cQ : CQ (M 0) nq Q := hC.1.2.1
  have cH : CH (M 0) pl tu := hC.1.2.2.1
  have cW : CW (M 0) nb B nq Q := hC.1.2.2.2
  have zB : ZB (M 9 1) nb B := hR.1.1
  have zQ : ZQ (M 9 1) nq Q := hR.1.2.1
  have zH : ZH (M 9 1) pl tu := hR.1.2.2
  have h8 := hI0.1
  have h6 := hQ0.1
  rcases blk a0 h8 cB zB with ⟨e1, e2⟩ | ⟨b, hb, rfl, e1, e2⟩
  · refine ref_fin (r := -1) hI hC hR (pu_s ?_) ?_
    · unfold f_X5_block
      simp (disch := omega) only [ile_t, ile_f, ilt_t, ilt_f, ieq_t, ieq_f, gd_nI, gn_nI, gz_nI, b1_some, bd_some, lt1_eq, nI_add, nI_mul, nI_clamp, if_true, if_false, e1]
    · unfold f_X6_block
      simp (disch := omega) only [ile_t, ile_f, ilt_t, ilt_f, ieq_t, ieq_f, gd_nI, gn_nI, gz_nI, b1_some, bd_some, lt1_eq, nI_add, nI_mul, nI_clamp, if_true, if_false, e2]
  · have hbi := hI0.2 b hb
    obtain ⟨c1, c2, c3, c4, c5, c6, c7, c8, c9⟩ := cB.2 b hb
    rcases ftO (y := 6) a1 (by decide) with ⟨e, ne⟩ | ⟨n, rfl, hn6, e⟩
    · have n0 := ne 0 (by decide)
      have n1 := ne 1 (by decide)
      have n2 := ne 2 (by decide)
      have n3 := ne 3 (by decide)
      have n4 := ne 4 (by decide)
      have n5 := ne 5 (by decide)
      have n6 := ne 6 (by decide)
      refine ref_fin (r := -2) hI hC hR (pu_s ?_) ?_
      · unfold f_X5_block
        simp (disch := omega) only [ile_t, ile_f, ilt_t, ilt_f, ieq_t, ieq_f, gd_nI, gn_nI, gz_nI, b1_some, bd_some, lt1_eq, nI_add, nI_mul, nI_clamp, if_true, if_false, e1, n0, n1, n2, n3, n4, n5, n6]
      · unfold f_X6_block
        simp (disch := omega) only [ile_t, ile_f, ilt_t, ilt_f, ieq_t, ieq_f, gd_nI, gn_nI, gz_nI, b1_some, bd_some, lt1_eq, nI_add, nI_mul, nI_clamp, if_true, if_false, e2, in_eq, e]
    · by_cases c : n < 5
      · have o := of_s (k := n) zB (b := b) (by omega) (by omega)
        refine ref_fin (r := nI (B b n)) hI hC hR (pu_s ?_) ?_
        · unfold f_X5_block
          rcases n5 c with rfl | rfl | rfl | rfl | rfl
          · simp (disch := omega) only [ile_t, ile_f, ilt_t, ilt_f, ieq_t, ieq_f, gd_nI, gn_nI, gz_nI, b1_some, bd_some, lt1_eq, nI_add, nI_mul, nI_clamp, if_true, if_false, e1, c1]
          · simp (disch := omega) only [ile_t, ile_f, ilt_t, ilt_f, ieq_t, ieq_f, gd_nI, gn_nI, gz_nI, b1_some, bd_some, lt1_eq, nI_add, nI_mul, nI_clamp, if_true, if_false, e1, c2]
          · simp (disch := omega) only [ile_t, ile_f, ilt_t, ilt_f, ieq_t, ieq_f, gd_nI, gn_nI, gz_nI, b1_some, bd_some, lt1_eq, nI_add, nI_mul, nI_clamp, if_true, if_false, e1, c3]
          · simp (disch := omega) only [ile_t, ile_f, ilt_t, ilt_f, ieq_t, ieq_f, gd_nI, gn_nI, gz_nI, b1_some, bd_some, lt1_eq, nI_add, nI_mul, nI_clamp, if_true, if_false, e1, c4]
          · simp (disch := omega) only [ile_t, ile_f, ilt_t, ilt_f, ieq_t, ieq_f, gd_nI, gn_nI, gz_nI, b1_some, bd_some, lt1_eq, nI_add, nI_mul, nI_clamp, if_true, if_false, e1, c5]
        · unfold f_X6_block
          simp (disch := omega) only [ile_t, ile_f, ilt_t, ilt_f, ieq_t, ieq_f, gd_nI, gn_nI, gz_nI, b1_some, bd_some, lt1_eq, nI_add, nI_mul, nI_clamp, if_true, if_false, e2, in_eq, e, o]
      · by_cases d : n = 5
        · subst d
          obtain ⟨m1, w1, w2⟩ := weight_s hI0 hQ0 zB zQ hb
          have w3 := weightC_s hI0 hQ0 cB cQ cW hb
          refine same_fin (r := nI (wt nb B Q b nq)) hI hC hR rfl (fun _ _ _ => rfl) w2 (pu_s ?_) ?_
          · unfold f_X5_block
            simp (disch := omega) only [ile_t, ile_f, ilt_t, ilt_f, ieq_t, ieq_f, gd_nI, gn_nI, gz_nI, b1_some, bd_some, lt1_eq, nI_add, nI_mul, nI_clamp, if_true, if_false, e1, w3]
          · unfold f_X6_block
            simp (disch := omega) only [ile_t, ile_f, ilt_t, ilt_f, ieq_t, ieq_f, gd_nI, gn_nI, gz_nI, b1_some, bd_some, lt1_eq, nI_add, nI_mul, nI_clamp, if_true, if_false, e2, in_eq, e, w1]
        · have d6 : n = 6 := by omega
          subst d6
          have o := sumRead_s zB (b := b) (by omega) (by omega)
          refine ref_fin (r := nI (sRd B b)) hI hC hR (pu_s ?_) ?_
          · unfold f_X5_block
            simp (disch := omega) only [ile_t, ile_f, ilt_t, ilt_f, ieq_t, ieq_f, gd_nI, gn_nI, gz_nI, b1_some, bd_some, lt1_eq, nI_add, nI_mul, nI_clamp, if_true, if_false, e1, c6]
          · unfold f_X6_block
            simp (disch := omega) only [ile_t, ile_f, ilt_t, ilt_f, ieq_t, ieq_f, gd_nI, gn_nI, gz_nI, b1_some, bd_some, lt1_eq, nI_add, nI_mul, nI_clamp, if_true, if_false, e2, in_eq, e, o]
theorem st_value (a0 a1 : Int32) : stepOK Rel (pu (fun M => f_X5_value M a0 a1)) (pu (fun m => f_X6_value m a0 a1)) := by
  refine mkStep fun M S hn Hs ks K tl tx hI hC hR => ?_
  obtain ⟨nb, nq, pl, tu, B, Q⟩ := S
  have hI0 : BI nb B := hI.1.1
  have hQ0 : QQ nq Q := hI.1.2.1
  have hpl : pl ≤ 2 := hI.1.2.2.1
  have htu : tu < 8 := hI.1.2.2.2.1
  have hSD : SD nb B nq Q := hI.1.2.2.2.2
  have cB : CB (M 0) nb B := hC.1.1
  have cQ : CQ (M 0) nq Q := hC.1.2.1
  have cH : CH (M 0) pl tu := hC.1.2.2.1
  have cW : CW (M 0) nb B nq Q := hC.1.2.2.2
  have zB : ZB (M 9 1) nb B := hR.1.1
  have zQ : ZQ (M 9 1) nq Q := hR.1.2.1
  have zH : ZH (M 9 1) pl tu := hR.1.2.2
  have h8 := hI0.1
  have h6 := hQ0.1
  rcases blk a0 h8 cB zB with ⟨e1, e2⟩ | ⟨b, hb, rfl, e1, e2⟩
  · refine ref_fin (r := -1) hI hC hR (pu_s ?_) (pu_s ?_)
    · unfold f_X5_value f_X4_hasRow
      simp (disch := omega) only [ile_t, ile_f, ilt_t, ilt_f, ieq_t, ieq_f, gd_nI, gn_nI, gz_nI, b1_some, bd_some, lt1_eq, nI_add, nI_mul, nI_clamp, if_true, if_false, e1]
    · unfold f_X6_value
      simp (disch := omega) only [ile_t, ile_f, ilt_t, ilt_f, ieq_t, ieq_f, gd_nI, gn_nI, gz_nI, b1_some, bd_some, lt1_eq, nI_add, nI_mul, nI_clamp, if_true, if_false, e2]
  · have hbi := hI0.2 b hb
    obtain ⟨c1, c2, c3, c4, c5, c6, c7, c8, c9⟩ := cB.2 b hb
    have o3 := of_s (k := 3) zB (b := b) (by omega) (by decide)
    have o4 := of_s (k := 4) zB (b := b) (by omega) (by decide)
    rcases hasR_f e1 (by omega) c4 hbi.2.2.2.2.1 a1 with ⟨x1, x2⟩ | ⟨r, hr, rfl, x1⟩
    · refine ref_fin (r := -1) hI hC hR (pu_s ?_) (pu_s ?_)
      · unfold f_X5_value
        simp (disch := omega) only [ile_t, ile_f, ilt_t, ilt_f, ieq_t, ieq_f, gd_nI, gn_nI, gz_nI, b1_some, bd_some, lt1_eq, nI_add, nI_mul, nI_clamp, if_true, if_false, x1]
      · unfold f_X6_value
        rcases x2 with x2 | ⟨r, r1, r2, rfl⟩
        · have x3 := lt_nI_neg x2 (n := 0) (by decide)
          simp (disch := omega) only [ile_t, ile_f, ilt_t, ilt_f, ieq_t, ieq_f, gd_nI, gn_nI, gz_nI, b1_some, bd_some, lt1_eq, nI_add, nI_mul, nI_clamp, if_true, if_false, e2]
          rw [if_pos x3]
        · simp (disch := omega) only [ile_t, ile_f, ilt_t, ilt_f, ieq_t, ieq_f, gd_nI, gn_nI, gz_nI, b1_some, bd_some, lt1_eq, nI_add, nI_mul, nI_clamp, if_true, if_false, e2, o3]
    · have o5 := of_s (k := 5 + r) zB (b := b) (by omega) (by omega)
      have c9 := c9 r hr
      by_cases d : B b 4 ≤ r
      · refine ref_fin (r := -4) hI hC hR (pu_s ?_) (pu_s ?_)
        · unfold f_X5_value
          simp (disch := omega) only [ile_t, ile_f, ilt_t, ilt_f, ieq_t, ieq_f, gd_nI, gn_nI, gz_nI, b1_some, bd_some, lt1_eq, nI_add, nI_mul, nI_clamp, if_true, if_false, x1, c5]
        · unfold f_X6_value
          simp (disch := omega) only [ile_t, ile_f, ilt_t, ilt_f, ieq_t, ieq_f, gd_nI, gn_nI, gz_nI, b1_some, bd_some, lt1_eq, nI_add, nI_mul, nI_clamp, if_true, if_false, e2, o3, o4]
      · refine ref_fin (r := nI (B b (5 + r))) hI hC hR (pu_s ?_) (pu_s ?_)
        · unfold f_X5_value
          simp (disch := omega) only [ile_t, ile_f, ilt_t, ilt_f, ieq_t, ieq_f, gd_nI, gn_nI, gz_nI, b1_some, bd_some, lt1_eq, nI_add, nI_mul, nI_clamp, if_true, if_false, x1, c5, c9]
        · unfold f_X6_value
          simp (disch := omega) only [ile_t, ile_f, ilt_t, ilt_f, ieq_t, ieq_f, gd_nI, gn_nI, gz_nI, b1_some, bd_some, lt1_eq, nI_add, nI_mul, nI_clamp, if_true, if_false, e2, o3, o4, o5]
theorem st_question (a0 a1 : Int32) : stepOK Rel (pu (fun M => f_X5_question M a0 a1)) (fun m => f_X6_question m a0 a1) := by
  refine mkStep fun M S hn Hs ks K tl tx hI hC hR => ?_
  obtain ⟨nb, nq, pl, tu, B, Q⟩ := S
  have hI0 : BI nb B := hI.1.1
  have hQ0 : QQ nq Q := hI.1.2.1
  have hpl : pl ≤ 2 := hI.1.2.2.1
  have htu : tu < 8 := hI.1.2.2.2.1
  have hSD : SD nb B nq Q := hI.1.2.2.2.2
  have cB : CB (M 0) nb B := hC.1.1
  have cQ : CQ (M 0) nq Q := hC.1.2.1
  have cH : CH (M 0) pl tu := hC.1.2.2.1
  have cW : CW (M 0) nb B nq Q := hC.1.2.2.2
  have zB : ZB (M 9 1) nb B := hR.1.1
  have zQ : ZQ (M 9 1) nq Q := hR.1.2.1
  have zH : ZH (M 9 1) pl tu := hR.1.2.2
  have h8 := hI0.1
  have h6 := hQ0.1
  rcases qst a0 h6 cQ zQ with ⟨e1, e2⟩ | ⟨q, hq, rfl, e1, e2⟩
  · refine ref_fin (r := -1) hI hC hR (pu_s ?_) ?_
    · unfold f_X5_question
      rw [e1, b1_some, ieq_t rfl]
    · unfold f_X6_question
      simp (disch := omega) only [ile_t, ile_f, ilt_t, ilt_f, ieq_t, ieq_f, gd_nI, gn_nI, gz_nI, b1_some, bd_some, lt1_eq, nI_add, nI_mul, nI_clamp, if_true, if_false, e2]
  · have hqq := hQ0.2 q hq
    obtain ⟨c0, c1, c2, c3, c4, c5⟩ := cQ.2 q hq
    rcases ftO (y := 12) a1 (by decide) with ⟨e, ne⟩ | ⟨n, rfl, hn12, e⟩
    · have n0 := ne 0 (by decide)
      have n1 := ne 1 (by decide)
      have n2 := ne 2 (by decide)
      have n3 := ne 3 (by decide)
      have n4 := ne 4 (by decide)
      have n5 := ne 5 (by decide)
      have n6 := ne 6 (by decide)
      have n7 := ne 7 (by decide)
      have n8 := ne 8 (by decide)
      have n9 := ne 9 (by decide)
      have n10 := ne 10 (by decide)
      have n11 := ne 11 (by decide)
      have n12 := ne 12 (by decide)
      refine ref_fin (r := -2) hI hC hR (pu_s ?_) ?_
      · unfold f_X5_question
        rw [e1, b1_some, ieq_f (by decide) (by decide) (by decide), gd_nI (by omega) (by decide), if_neg n0, if_neg n1, if_neg n2, if_neg n3, if_neg n4, if_neg n5, if_neg n6, if_neg n7, if_neg n8, if_neg n9, if_neg n10, if_neg n11, if_neg n12]
      · unfold f_X6_question
        simp (disch := omega) only [ile_t, ile_f, ilt_t, ilt_f, ieq_t, ieq_f, gd_nI, gn_nI, gz_nI, b1_some, bd_some, lt1_eq, nI_add, nI_mul, nI_clamp, if_true, if_false, e2, in_eq, e]
    · by_cases c : n < 5
      · have o := asked_s (k := n) zQ (q := q) (by omega) (by omega)
        refine ref_fin (r := nI (Q q n)) hI hC hR (pu_s ?_) ?_
        · unfold f_X5_question
          rcases n5 c with rfl | rfl | rfl | rfl | rfl
          · simp (disch := omega) only [ile_t, ile_f, ilt_t, ilt_f, ieq_t, ieq_f, gd_nI, gn_nI, gz_nI, b1_some, bd_some, lt1_eq, nI_add, nI_mul, nI_clamp, if_true, if_false, e1, c0]
          · simp (disch := omega) only [ile_t, ile_f, ilt_t, ilt_f, ieq_t, ieq_f, gd_nI, gn_nI, gz_nI, b1_some, bd_some, lt1_eq, nI_add, nI_mul, nI_clamp, if_true, if_false, e1, c1]
          · simp (disch := omega) only [ile_t, ile_f, ilt_t, ilt_f, ieq_t, ieq_f, gd_nI, gn_nI, gz_nI, b1_some, bd_some, lt1_eq, nI_add, nI_mul, nI_clamp, if_true, if_false, e1, c2]
          · simp (disch := omega) only [ile_t, ile_f, ilt_t, ilt_f, ieq_t, ieq_f, gd_nI, gn_nI, gz_nI, b1_some, bd_some, lt1_eq, nI_add, nI_mul, nI_clamp, if_true, if_false, e1, c3]
          · by_cases d : Q q 4 = 0
            · rw [d] at c4 ⊢
              simp (disch := omega) only [ile_t, ile_f, ilt_t, ilt_f, ieq_t, ieq_f, gd_nI, gn_nI, gz_nI, b1_some, bd_some, lt1_eq, nI_add, nI_mul, nI_clamp, if_true, if_false, e1, c4]
            · have d : Q q 4 = 1 := by omega
              rw [d] at c4 ⊢
              simp (disch := omega) only [ile_t, ile_f, ilt_t, ilt_f, ieq_t, ieq_f, gd_nI, gn_nI, gz_nI, b1_some, bd_some, lt1_eq, nI_add, nI_mul, nI_clamp, if_true, if_false, e1, c4]
        · unfold f_X6_question
          simp (disch := omega) only [ile_t, ile_f, ilt_t, ilt_f, ieq_t, ieq_f, gd_nI, gn_nI, gz_nI, b1_some, bd_some, lt1_eq, nI_add, nI_mul, nI_clamp, if_true, if_false, e2, in_eq, e, o]
      · have hs : n = 5 ∨ n = 6 ∨ n = 7 ∨ n = 8 ∨ n = 9 ∨ n = 10 ∨ n = 11 ∨ n = 12 := by omega
        have an : ∀ how : Nat, how < 3 → f_X4_answer (M 0) q (nI how) = some (if rQ nb B (Q q 1) 3 = 0 then -5 else nI (ans nb B (Q q) how)) := fun how hh => ansC_s hI0 hqq.1 hqq.2.2.1 hqq.2.2.2.1 hh cB c0 c1 c2
        have rn : ∀ how : Nat, how < 3 → ∃ m1, f_X6_answer (M 9) (nI q) (nI how) = some ((if rQ nb B (Q q 1) 3 = 0 then -5 else nI (ans nb B (Q q) how)), m1) ∧ SE (M 9) m1 := fun how hh => by
          by_cases f : rQ nb B (Q q 1) 3 = 0
          · rw [if_pos f]
            exact ⟨M 9, answer_0 hI0 hQ0 zB zQ hq f, SE.rf⟩
          · rw [if_neg f]
            exact answer_s hI0 hQ0 zB zQ hq hh f
        have o4 := asked_s (k := 4) zQ (q := q) (by omega) (by decide)
        have o5 := asked_s (k := 5) zQ (q := q) (by omega) (by decide)
        have o6 := asked_s (k := 6) zQ (q := q) (by omega) (by decide)
        have o7 := asked_s (k := 7) zQ (q := q) (by omega) (by decide)
        rcases hs with rfl | rfl | rfl | rfl | rfl | rfl | rfl | rfl
        · obtain ⟨m1, w1, w2⟩ := rn 0 (by decide)
          have w3 := an 0 (by decide)
          have d : nI 5 - nI 5 = nI 0 := by decide
          refine same_fin (r := if rQ nb B (Q q 1) 3 = 0 then -5 else nI (ans nb B (Q q) 0)) hI hC hR rfl (fun _ _ _ => rfl) w2 (pu_s ?_) ?_
          · unfold f_X5_question
            simp (disch := omega) only [ile_t, ile_f, ilt_t, ilt_f, ieq_t, ieq_f, gd_nI, gn_nI, gz_nI, b1_some, bd_some, lt1_eq, nI_add, nI_mul, nI_clamp, if_true, if_false, e1, w3]
          · unfold f_X6_question
            simp (disch := omega) only [ile_t, ile_f, ilt_t, ilt_f, ieq_t, ieq_f, gd_nI, gn_nI, gz_nI, b1_some, bd_some, lt1_eq, nI_add, nI_mul, nI_clamp, if_true, if_false, e2, in_eq, e, d, w1]
        · obtain ⟨m1, w1, w2⟩ := rn 1 (by decide)
          have w3 := an 1 (by decide)
          have d : nI 6 - nI 5 = nI 1 := by decide
          refine same_fin (r := if rQ nb B (Q q 1) 3 = 0 then -5 else nI (ans nb B (Q q) 1)) hI hC hR rfl (fun _ _ _ => rfl) w2 (pu_s ?_) ?_
          · unfold f_X5_question
            simp (disch := omega) only [ile_t, ile_f, ilt_t, ilt_f, ieq_t, ieq_f, gd_nI, gn_nI, gz_nI, b1_some, bd_some, lt1_eq, nI_add, nI_mul, nI_clamp, if_true, if_false, e1, w3]
          · unfold f_X6_question
            simp (disch := omega) only [ile_t, ile_f, ilt_t, ilt_f, ieq_t, ieq_f, gd_nI, gn_nI, gz_nI, b1_some, bd_some, lt1_eq, nI_add, nI_mul, nI_clamp, if_true, if_false, e2, in_eq, e, d, w1]
        · obtain ⟨m1, w1, w2⟩ := rn 2 (by decide)
          have w3 := an 2 (by decide)
          have d : nI 7 - nI 5 = nI 2 := by decide
          refine same_fin (r := if rQ nb B (Q q 1) 3 = 0 then -5 else nI (ans nb B (Q q) 2)) hI hC hR rfl (fun _ _ _ => rfl) w2 (pu_s ?_) ?_
          · unfold f_X5_question
            simp (disch := omega) only [ile_t, ile_f, ilt_t, ilt_f, ieq_t, ieq_f, gd_nI, gn_nI, gz_nI, b1_some, bd_some, lt1_eq, nI_add, nI_mul, nI_clamp, if_true, if_false, e1, w3]
          · unfold f_X6_question
            simp (disch := omega) only [ile_t, ile_f, ilt_t, ilt_f, ieq_t, ieq_f, gd_nI, gn_nI, gz_nI, b1_some, bd_some, lt1_eq, nI_add, nI_mul, nI_clamp, if_true, if_false, e2, in_eq, e, d, w1]
        · have d : nI (5 + 8) - nI 8 = nI 5 := by decide
          by_cases f : Q q 4 = 0
          · rw [f] at c4 o4
            refine ref_fin (r := -5) hI hC hR (pu_s ?_) ?_
            · unfold f_X5_question
              simp (disch := omega) only [ile_t, ile_f, ilt_t, ilt_f, ieq_t, ieq_f, gd_nI, gn_nI, gz_nI, b1_some, bd_some, lt1_eq, nI_add, nI_mul, nI_clamp, if_true, if_false, e1, c4]
            · unfold f_X6_question
              simp (disch := omega) only [ile_t, ile_f, ilt_t, ilt_f, ieq_t, ieq_f, gd_nI, gn_nI, gz_nI, b1_some, bd_some, lt1_eq, nI_add, nI_mul, nI_clamp, if_true, if_false, e2, in_eq, e, o4]
          · have f : Q q 4 = 1 := by omega
            obtain ⟨g5, g6, g7⟩ := c5 f
            rw [f] at c4 o4
            refine ref_fin (r := nI (Q q 5)) hI hC hR (pu_s ?_) ?_
            · unfold f_X5_question
              simp (disch := omega) only [ile_t, ile_f, ilt_t, ilt_f, ieq_t, ieq_f, gd_nI, gn_nI, gz_nI, b1_some, bd_some, lt1_eq, nI_add, nI_mul, nI_clamp, if_true, if_false, e1, c4, g5]
            · unfold f_X6_question
              simp (disch := omega) only [ile_t, ile_f, ilt_t, ilt_f, ieq_t, ieq_f, gd_nI, gn_nI, gz_nI, b1_some, bd_some, lt1_eq, nI_add, nI_mul, nI_clamp, if_true, if_false, e2, in_eq, e, o4, d, o5]
        · have d : nI (5 + 9) - nI 8 = nI 6 := by decide
          by_cases f : Q q 4 = 0
          · rw [f] at c4 o4
            refine ref_fin (r := -5) hI hC hR (pu_s ?_) ?_
            · unfold f_X5_question
              simp (disch := omega) only [ile_t, ile_f, ilt_t, ilt_f, ieq_t, ieq_f, gd_nI, gn_nI, gz_nI, b1_some, bd_some, lt1_eq, nI_add, nI_mul, nI_clamp, if_true, if_false, e1, c4]
            · unfold f_X6_question
              simp (disch := omega) only [ile_t, ile_f, ilt_t, ilt_f, ieq_t, ieq_f, gd_nI, gn_nI, gz_nI, b1_some, bd_some, lt1_eq, nI_add, nI_mul, nI_clamp, if_true, if_false, e2, in_eq, e, o4]
          · have f : Q q 4 = 1 := by omega
            obtain ⟨g5, g6, g7⟩ := c5 f
            rw [f] at c4 o4
            refine ref_fin (r := nI (Q q 6)) hI hC hR (pu_s ?_) ?_
            · unfold f_X5_question
              simp (disch := omega) only [ile_t, ile_f, ilt_t, ilt_f, ieq_t, ieq_f, gd_nI, gn_nI, gz_nI, b1_some, bd_some, lt1_eq, nI_add, nI_mul, nI_clamp, if_true, if_false, e1, c4, g6]
            · unfold f_X6_question
              simp (disch := omega) only [ile_t, ile_f, ilt_t, ilt_f, ieq_t, ieq_f, gd_nI, gn_nI, gz_nI, b1_some, bd_some, lt1_eq, nI_add, nI_mul, nI_clamp, if_true, if_false, e2, in_eq, e, o4, d, o6]
        · have d : nI (5 + 10) - nI 8 = nI 7 := by decide
          by_cases f : Q q 4 = 0
          · rw [f] at c4 o4
            refine ref_fin (r := -5) hI hC hR (pu_s ?_) ?_
            · unfold f_X5_question
              simp (disch := omega) only [ile_t, ile_f, ilt_t, ilt_f, ieq_t, ieq_f, gd_nI, gn_nI, gz_nI, b1_some, bd_some, lt1_eq, nI_add, nI_mul, nI_clamp, if_true, if_false, e1, c4]
            · unfold f_X6_question
              simp (disch := omega) only [ile_t, ile_f, ilt_t, ilt_f, ieq_t, ieq_f, gd_nI, gn_nI, gz_nI, b1_some, bd_some, lt1_eq, nI_add, nI_mul, nI_clamp, if_true, if_false, e2, in_eq, e, o4]
          · have f : Q q 4 = 1 := by omega
            obtain ⟨g5, g6, g7⟩ := c5 f
            rw [f] at c4 o4
            refine ref_fin (r := nI (Q q 7)) hI hC hR (pu_s ?_) ?_
            · unfold f_X5_question
              simp (disch := omega) only [ile_t, ile_f, ilt_t, ilt_f, ieq_t, ieq_f, gd_nI, gn_nI, gz_nI, b1_some, bd_some, lt1_eq, nI_add, nI_mul, nI_clamp, if_true, if_false, e1, c4, g7]
            · unfold f_X6_question
              simp (disch := omega) only [ile_t, ile_f, ilt_t, ilt_f, ieq_t, ieq_f, gd_nI, gn_nI, gz_nI, b1_some, bd_some, lt1_eq, nI_add, nI_mul, nI_clamp, if_true, if_false, e2, in_eq, e, o4, d, o7]
        · have w3 := rowsC_s (ls := Q q 1) hI0 (by omega) cB
          have w1 := rowsOf_s (k := 3) zB zQ hI0 (q := q) (by omega) (by omega) (by decide)
          refine ref_fin (r := nI (rQ nb B (Q q 1) 3)) hI hC hR (pu_s ?_) ?_
          · unfold f_X5_question
            simp (disch := omega) only [ile_t, ile_f, ilt_t, ilt_f, ieq_t, ieq_f, gd_nI, gn_nI, gz_nI, b1_some, bd_some, lt1_eq, nI_add, nI_mul, nI_clamp, if_true, if_false, e1, c1, w3]
          · unfold f_X6_question
            simp (disch := omega) only [ile_t, ile_f, ilt_t, ilt_f, ieq_t, ieq_f, gd_nI, gn_nI, gz_nI, b1_some, bd_some, lt1_eq, nI_add, nI_mul, nI_clamp, if_true, if_false, e2, in_eq, e, w1]
        · have w3 := readsC_s (ls := Q q 1) hI0 (by omega) cB
          have w1 := rowsOf_s (k := 4) zB zQ hI0 (q := q) (by omega) (by omega) (by decide)
          refine ref_fin (r := nI (rQ nb B (Q q 1) 4)) hI hC hR (pu_s ?_) ?_
          · unfold f_X5_question
            simp (disch := omega) only [ile_t, ile_f, ilt_t, ilt_f, ieq_t, ieq_f, gd_nI, gn_nI, gz_nI, b1_some, bd_some, lt1_eq, nI_add, nI_mul, nI_clamp, if_true, if_false, e1, c1, w3]
          · unfold f_X6_question
            simp (disch := omega) only [ile_t, ile_f, ilt_t, ilt_f, ieq_t, ieq_f, gd_nI, gn_nI, gz_nI, b1_some, bd_some, lt1_eq, nI_add, nI_mul, nI_clamp, if_true, if_false, e2, in_eq, e, w1]
theorem st_next (a0 : Int32) : stepOK Rel (pu (fun M => f_X5_next M a0)) (fun m => f_X6_next m a0) := by
  refine mkStep fun M S hn Hs ks K tl tx hI hC hR => ?_
  obtain ⟨nb, nq, pl, tu, B, Q⟩ := S
  have hI0 : BI nb B := hI.1.1
  have hQ0 : QQ nq Q := hI.1.2.1
  have hpl : pl ≤ 2 := hI.1.2.2.1
  have htu : tu < 8 := hI.1.2.2.2.1
  have hSD : SD nb B nq Q := hI.1.2.2.2.2
  have cB : CB (M 0) nb B := hC.1.1
  have cQ : CQ (M 0) nq Q := hC.1.2.1
  have cH : CH (M 0) pl tu := hC.1.2.2.1
  have cW : CW (M 0) nb B nq Q := hC.1.2.2.2
  have zB : ZB (M 9 1) nb B := hR.1.1
  have zQ : ZQ (M 9 1) nq Q := hR.1.2.1
  have zH : ZH (M 9 1) pl tu := hR.1.2.2
  have h8 := hI0.1
  have h6 := hQ0.1
  rcases ftN (x := 0) (y := 1) a0 (by decide) (by decide) with e | ⟨n, rfl, t1, t2, e⟩
  · refine ref_fin (r := -2) hI hC hR (pu_s ?_) ?_
    · unfold f_X5_next
      simp (disch := omega) only [ile_t, ile_f, ilt_t, ilt_f, ieq_t, ieq_f, gd_nI, gn_nI, gz_nI, b1_some, bd_some, lt1_eq, nI_add, nI_mul, nI_clamp, if_true, if_false, e]
    · unfold f_X6_next
      simp (disch := omega) only [ile_t, ile_f, ilt_t, ilt_f, ieq_t, ieq_f, gd_nI, gn_nI, gz_nI, b1_some, bd_some, lt1_eq, nI_add, nI_mul, nI_clamp, if_true, if_false, in_eq, e]
  · have e1 := nextC_s hI0 hQ0 hpl htu cB cQ cH cW
    obtain ⟨m1, e2, sE⟩ := nextBlock_s hI0 hQ0 hpl htu zB zQ zH
    by_cases u : ua nb B = 0
    · rw [nx_0 hI0 u] at e1 e2
      have e3 : f_X4_hasBlock (M 0) (-5) = some (nI 0) := hasB_n (by decide)
      refine same_fin (r := -5) hI hC hR rfl (fun _ _ _ => rfl) sE (pu_s ?_) ?_
      · unfold f_X5_next
        simp (disch := omega) only [ile_t, ile_f, ilt_t, ilt_f, ieq_t, ieq_f, gd_nI, gn_nI, gz_nI, b1_some, bd_some, lt1_eq, nI_add, nI_mul, nI_clamp, if_true, if_false, e, e1, e3]
      · unfold f_X6_next
        simp (disch := omega) only [ile_t, ile_f, ilt_t, ilt_f, ieq_t, ieq_f, gd_nI, gn_nI, gz_nI, b1_some, bd_some, lt1_eq, nI_add, nI_mul, nI_clamp, if_true, if_false, in_eq, e, e2]
    · obtain ⟨b, en, hb8, eb⟩ := nx_1 (pl := pl) (tu := tu) (nq := nq) (Q := Q) hI0 u
      obtain ⟨hb, hu⟩ := nx_some en
      rw [eb] at e1 e2
      have e3 := hasB_t hb h8 cB.1
      obtain ⟨c1, c2, c3, c4, c5, -⟩ := cB.2 b hb
      have o4 := of_s (m := m1) (k := 4) (nb := nb) (B := B) (by rw [sE.2]; exact zB) (b := b) (by omega) (by decide)
      by_cases c : n = 0
      · refine same_fin (r := nI b) hI hC hR rfl (fun _ _ _ => rfl) sE (pu_s ?_) ?_
        · unfold f_X5_next
          simp (disch := omega) only [ile_t, ile_f, ilt_t, ilt_f, ieq_t, ieq_f, gd_nI, gn_nI, gz_nI, b1_some, bd_some, lt1_eq, nI_add, nI_mul, nI_clamp, if_true, if_false, e, e1, e3]
        · unfold f_X6_next
          simp (disch := omega) only [ile_t, ile_f, ilt_t, ilt_f, ieq_t, ieq_f, gd_nI, gn_nI, gz_nI, b1_some, bd_some, lt1_eq, nI_add, nI_mul, nI_clamp, if_true, if_false, in_eq, e, e2, i5_f]
      · refine same_fin (r := nI (B b 4)) hI hC hR rfl (fun _ _ _ => rfl) sE (pu_s ?_) ?_
        · unfold f_X5_next
          simp (disch := omega) only [ile_t, ile_f, ilt_t, ilt_f, ieq_t, ieq_f, gd_nI, gn_nI, gz_nI, b1_some, bd_some, lt1_eq, nI_add, nI_mul, nI_clamp, if_true, if_false, e, e1, e3, c5]
        · unfold f_X6_next
          simp (disch := omega) only [ile_t, ile_f, ilt_t, ilt_f, ieq_t, ieq_f, gd_nI, gn_nI, gz_nI, b1_some, bd_some, lt1_eq, nI_add, nI_mul, nI_clamp, if_true, if_false, in_eq, e, e2, i5_f, o4]
theorem st_count (a0 : Int32) : stepOK Rel (pu (fun M => f_X5_count M a0)) (pu (fun m => f_X6_count m a0)) := by
  refine mkStep fun M S hn Hs ks K tl tx hI hC hR => ?_
  obtain ⟨nb, nq, pl, tu, B, Q⟩ := S
  have hI0 : BI nb B := hI.1.1
  have hQ0 : QQ nq Q := hI.1.2.1
  have hpl : pl ≤ 2 := hI.1.2.2.1
  have htu : tu < 8 := hI.1.2.2.2.1
  have hSD : SD nb B nq Q := hI.1.2.2.2.2
  have cB : CB (M 0) nb B := hC.1.1
  have cQ : CQ (M 0) nq Q := hC.1.2.1
  have cH : CH (M 0) pl tu := hC.1.2.2.1
  have cW : CW (M 0) nb B nq Q := hC.1.2.2.2
  have zB : ZB (M 9 1) nb B := hR.1.1
  have zQ : ZQ (M 9 1) nq Q := hR.1.2.1
  have zH : ZH (M 9 1) pl tu := hR.1.2.2
  have h8 := hI0.1
  have h6 := hQ0.1
  obtain ⟨d1, ⟨od, d2⟩, d3, d4, d5⟩ := id hC
  obtain ⟨r1, r2, r3, r4, r5⟩ := id hR
  rcases ftO (y := 8) a0 (by decide) with ⟨e, ne⟩ | ⟨n, rfl, hn8, e⟩
  · have n0 := ne 0 (by decide)
    have n1 := ne 1 (by decide)
    have n2 := ne 2 (by decide)
    have n3 := ne 3 (by decide)
    have n4 := ne 4 (by decide)
    have n5 := ne 5 (by decide)
    have n6 := ne 6 (by decide)
    have n7 := ne 7 (by decide)
    have n8 := ne 8 (by decide)
    refine ref_fin (r := -2) hI hC hR (pu_s ?_) (pu_s ?_)
    · unfold f_X5_count
      simp (disch := omega) only [ile_t, ile_f, ilt_t, ilt_f, ieq_t, ieq_f, gd_nI, gn_nI, gz_nI, b1_some, bd_some, lt1_eq, nI_add, nI_mul, nI_clamp, if_true, if_false, n0, n1, n2, n3, n4, n5, n6, n7, n8]
    · unfold f_X6_count
      simp (disch := omega) only [ile_t, ile_f, ilt_t, ilt_f, ieq_t, ieq_f, gd_nI, gn_nI, gz_nI, b1_some, bd_some, lt1_eq, nI_add, nI_mul, nI_clamp, if_true, if_false, n0, n1, n2, n3, n4, n5, n6, n7, n8]
  · have hs : n = 0 ∨ n = 1 ∨ n = 2 ∨ n = 3 ∨ n = 4 ∨ n = 5 ∨ n = 6 ∨ n = 7 ∨ n = 8 := by omega
    rcases hs with rfl | rfl | rfl | rfl | rfl | rfl | rfl | rfl | rfl
    · refine ref_fin (r := nI nb) hI hC hR (pu_s ?_) (pu_s ?_)
      · unfold f_X5_count
        simp (disch := omega) only [ile_t, ile_f, ilt_t, ilt_f, ieq_t, ieq_f, gd_nI, gn_nI, gz_nI, b1_some, bd_some, lt1_eq, nI_add, nI_mul, nI_clamp, if_true, if_false, cB.1]
      · unfold f_X6_count
        simp (disch := omega) only [ile_t, ile_f, ilt_t, ilt_f, ieq_t, ieq_f, gd_nI, gn_nI, gz_nI, b1_some, bd_some, lt1_eq, nI_add, nI_mul, nI_clamp, if_true, if_false, zB.1]
    · refine ref_fin (r := nI nq) hI hC hR (pu_s ?_) (pu_s ?_)
      · unfold f_X5_count
        simp (disch := omega) only [ile_t, ile_f, ilt_t, ilt_f, ieq_t, ieq_f, gd_nI, gn_nI, gz_nI, b1_some, bd_some, lt1_eq, nI_add, nI_mul, nI_clamp, if_true, if_false, cQ.1]
      · unfold f_X6_count
        simp (disch := omega) only [ile_t, ile_f, ilt_t, ilt_f, ieq_t, ieq_f, gd_nI, gn_nI, gz_nI, b1_some, bd_some, lt1_eq, nI_add, nI_mul, nI_clamp, if_true, if_false, zQ.1]
    · have w1 := openC_s hQ0 cQ
      have w2 := openMany_s hQ0 zQ
      refine ref_fin (r := nI (opn nq Q)) hI hC hR (pu_s ?_) (pu_s ?_)
      · unfold f_X5_count
        simp (disch := omega) only [ile_t, ile_f, ilt_t, ilt_f, ieq_t, ieq_f, gd_nI, gn_nI, gz_nI, b1_some, bd_some, lt1_eq, nI_add, nI_mul, nI_clamp, if_true, if_false, w1]
      · unfold f_X6_count
        simp (disch := omega) only [ile_t, ile_f, ilt_t, ilt_f, ieq_t, ieq_f, gd_nI, gn_nI, gz_nI, b1_some, bd_some, lt1_eq, nI_add, nI_mul, nI_clamp, if_true, if_false, w2]
    · refine ref_fin (r := nI pl) hI hC hR (pu_s ?_) (pu_s ?_)
      · unfold f_X5_count
        simp (disch := omega) only [ile_t, ile_f, ilt_t, ilt_f, ieq_t, ieq_f, gd_nI, gn_nI, gz_nI, b1_some, bd_some, lt1_eq, nI_add, nI_mul, nI_clamp, if_true, if_false, cH.1]
      · unfold f_X6_count
        simp (disch := omega) only [ile_t, ile_f, ilt_t, ilt_f, ieq_t, ieq_f, gd_nI, gn_nI, gz_nI, b1_some, bd_some, lt1_eq, nI_add, nI_mul, nI_clamp, if_true, if_false, zH.1]
    · have w1 := rowsC_s (ls := 15) hI0 (by decide) cB
      rw [rQ15 hI0] at w1
      have w2 := allOf_s (k := 3) zB h8 (by decide)
      refine ref_fin (r := nI (sumTo (fun b => B b 3) nb)) hI hC hR (pu_s ?_) (pu_s ?_)
      · unfold f_X5_count
        simp (disch := omega) only [ile_t, ile_f, ilt_t, ilt_f, ieq_t, ieq_f, gd_nI, gn_nI, gz_nI, b1_some, bd_some, lt1_eq, nI_add, nI_mul, nI_clamp, if_true, if_false, w1]
      · unfold f_X6_count
        simp (disch := omega) only [ile_t, ile_f, ilt_t, ilt_f, ieq_t, ieq_f, gd_nI, gn_nI, gz_nI, b1_some, bd_some, lt1_eq, nI_add, nI_mul, nI_clamp, if_true, if_false, w2]
    · have w1 := readsC_s (ls := 15) hI0 (by decide) cB
      rw [rQ15 hI0] at w1
      have w2 := allOf_s (k := 4) zB h8 (by decide)
      refine ref_fin (r := nI (sumTo (fun b => B b 4) nb)) hI hC hR (pu_s ?_) (pu_s ?_)
      · unfold f_X5_count
        simp (disch := omega) only [ile_t, ile_f, ilt_t, ilt_f, ieq_t, ieq_f, gd_nI, gn_nI, gz_nI, b1_some, bd_some, lt1_eq, nI_add, nI_mul, nI_clamp, if_true, if_false, w1]
      · unfold f_X6_count
        simp (disch := omega) only [ile_t, ile_f, ilt_t, ilt_f, ieq_t, ieq_f, gd_nI, gn_nI, gz_nI, b1_some, bd_some, lt1_eq, nI_add, nI_mul, nI_clamp, if_true, if_false, w2]
    · refine ref_fin (r := nI tu) hI hC hR (pu_s ?_) (pu_s ?_)
      · unfold f_X5_count
        simp (disch := omega) only [ile_t, ile_f, ilt_t, ilt_f, ieq_t, ieq_f, gd_nI, gn_nI, gz_nI, b1_some, bd_some, lt1_eq, nI_add, nI_mul, nI_clamp, if_true, if_false, cH.2]
      · unfold f_X6_count
        simp (disch := omega) only [ile_t, ile_f, ilt_t, ilt_f, ieq_t, ieq_f, gd_nI, gn_nI, gz_nI, b1_some, bd_some, lt1_eq, nI_add, nI_mul, nI_clamp, if_true, if_false, zH.2]
    · refine ref_fin (r := nI hn) hI hC hR (pu_s ?_) (pu_s ?_)
      · unfold f_X5_count
        simp (disch := omega) only [ile_t, ile_f, ilt_t, ilt_f, ieq_t, ieq_f, gd_nI, gn_nI, gz_nI, b1_some, bd_some, lt1_eq, nI_add, nI_mul, nI_clamp, if_true, if_false, d2.2.1]
      · unfold f_X6_count
        simp (disch := omega) only [ile_t, ile_f, ilt_t, ilt_f, ieq_t, ieq_f, gd_nI, gn_nI, gz_nI, b1_some, bd_some, lt1_eq, nI_add, nI_mul, nI_clamp, if_true, if_false, r2.1]
    · refine ref_fin (r := nI tl) hI hC hR (pu_s ?_) (pu_s ?_)
      · unfold f_X5_count
        simp (disch := omega) only [ile_t, ile_f, ilt_t, ilt_f, ieq_t, ieq_f, gd_nI, gn_nI, gz_nI, b1_some, bd_some, lt1_eq, nI_add, nI_mul, nI_clamp, if_true, if_false, d5.1]
      · unfold f_X6_count
        simp (disch := omega) only [ile_t, ile_f, ilt_t, ilt_f, ieq_t, ieq_f, gd_nI, gn_nI, gz_nI, b1_some, bd_some, lt1_eq, nI_add, nI_mul, nI_clamp, if_true, if_false, r5.1]
end PU
