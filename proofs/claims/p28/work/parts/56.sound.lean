/-! SOUND: the law's look at a question, and at all -/
section SO
variable {M : MM} {m : SM} {nb nq pl tu b q r how ls lim n tl L : Nat} {B Q : BK} {tx xs : Nat → Int32} {S : AS}
theorem i5_lt {a : Nat} (ha : a < 2 ^ 31) : ¬ nI a < (-5 : Int32) := by
  rw [Int32.lt_iff_toInt_lt, nI_toInt ha]
  have : (-5 : Int32).toInt = -5 := by decide
  omega
theorem sound387 {a c : Nat} (hq : q < 6) : f_L_isSound_L387 L xs (nI q) M (nI a) (nI c) (nI 1) = some (nI 1, gs M 9 (up (up (M 9) 0 q (nI a)) 0 (6 + q) (nI c))) := by
  unfold f_L_isSound_L387
  rw [gd_nI (by omega) (by decide), nI_clamp (by omega), lt1_eq, nI_add, gd_nI (by omega) (by decide), nI_clamp (by omega), lt1_eq, gz_nI (by decide), gs_gs, gs_at]
/-- from where its kept values are looked at -/
theorem sound207 (h : CI M (nb, nq, pl, tu, B, Q) tl tx) (hq : q < nq) (hk : kp nb B (Q q)) (hr0 : rQ nb B (Q q 1) 3 ≠ 0) (hr : ri (M 9 0) nb B q (Q q)) : ∃ m, f_L_isSound_L207 L xs (nI q) M (nI (ans nb B (Q q) 0)) (nI (ans nb B (Q q) 1)) (nI (tr nb B (Q q))) (nI (Q q 4)) = some (nI 1, gs M 9 m) ∧ ri (m 0) nb B q (Q q) ∧ ∀ i, i ≠ q → i ≠ 6 + q → i ≠ 12 + q → m 0 i = M 9 0 i := by
  have hqq := h.qq.2 q hq
  have h6 := h.qq.1
  have hsd := h.sd q hq
  have e3 := o_quest (k := 3) h hq (by decide)
  have k8 := o_kept (k := 0) h hq (by decide)
  have k9 := o_kept (k := 1) h hq (by decide)
  have k10 := o_kept (k := 2) h hq (by decide)
  have k8 : f_X5_question M (nI q) (nI 8) = _ := k8
  have k9 : f_X5_question M (nI q) (nI 9) = _ := k9
  have k10 : f_X5_question M (nI q) (nI 10) = _ := k10
  have tle := tr_le (qr := Q q) h.bi
  have al := ans_le (qr := Q q) (how := 1) h.bi
  obtain ⟨r1, r2, r3⟩ := hr
  unfold f_L_isSound_L207
  by_cases f : Q q 4 = 0
  · rw [f, ieq_t rfl, e3, b1_some]
    rw [if_pos f] at k8 k10
    have hw : ¬ nI (ans nb B (Q q) 1) - nI (ans nb B (Q q) 0) ≤ nI (Q q 3) := fun z => by
      unfold stB at hsd
      rw [decide_eq_true f, decide_eq_true hr0, decide_eq_true z] at hsd
      exact absurd hsd (by decide)
    rw [if_neg hw]
    unfold f_L_isSound_L226 f_L_isSound_L231
    have r3 : M 9 0 (12 + q) = -5 := by
      rcases r3 with e | ⟨e, -⟩
      · exact e
      · omega
    rw [ieq_t rfl, ieq_f (by decide) (by decide) (by decide), k8, b1_some, i5_t, k10, b1_some, i5_t, nI_add, gd_nI (by omega) (by decide), nI_clamp (by omega), r3, i5_t]
    unfold f_L_isSound_L283
    rw [sound387 (by omega)]
    refine ⟨_, rfl, ⟨Or.inr ⟨_, ?_, Nat.le_refl _⟩, ⟨_, up_same, Nat.le_refl _, by omega⟩, Or.inl ?_⟩, fun i h1 h2 h3 => ?_⟩
    · rw [up_o (Or.inr (by omega)), up_same]
    · rw [up_o (Or.inr (by omega)), up_o (Or.inr (by omega))]
      exact r3
    · rw [up_o (Or.inr h2), up_o (Or.inr h1)]
  · have f1 : Q q 4 = 1 := by omega
    rw [if_neg f] at k8 k9 k10
    obtain ⟨-, w1, w2, w3, w4, w5⟩ := hk f1
    have k8 : f_X5_question M (nI q) (nI 8) = some (nI (Q q 5)) := k8
    have k9 : f_X5_question M (nI q) (nI 9) = some (nI (Q q 6)) := k9
    have k10 : f_X5_question M (nI q) (nI 10) = some (nI (Q q 7)) := k10
    have hw : ¬ nI (Q q 3) < nI (Q q 6) - nI (Q q 5) := fun z => by
      rw [Int32.le_iff_toInt_le] at w1
      rw [Int32.lt_iff_toInt_lt] at z
      omega
    rw [f1, ieq_f (by decide) (by decide) (by decide)]
    unfold f_L_isSound_L226 f_L_isSound_L231
    rw [ieq_f (by decide) (by decide) (by decide), k10, b1_some, ieq_f (by decide) (by decide) (by decide), k9, b1_some, k8, b1_some, e3, b1_some, if_neg hw, b1_some, ilt_f w2 (by omega), b1_some, ilt_f w3 (by omega), nI_add, gd_nI (by omega) (by decide), nI_clamp (by omega)]
    have fin : ∃ m, f_L_isSound_L372 L xs (nI q) M (nI (ans nb B (Q q) 0)) (nI (ans nb B (Q q) 1)) (nI (Q q 7)) = some (nI 1, gs M 9 m) ∧ ri (m 0) nb B q (Q q) ∧ ∀ i, i ≠ q → i ≠ 6 + q → i ≠ 12 + q → m 0 i = M 9 0 i := by
      unfold f_L_isSound_L372 f_L_isSound_L377
      rw [nI_add, gd_nI (by omega) (by decide), nI_clamp (by omega), lt1_eq, sound387 (by omega), gs_gs, gs_at]
      refine ⟨_, rfl, ⟨Or.inr ⟨_, ?_, Nat.le_refl _⟩, ⟨_, up_same, Nat.le_refl _, by omega⟩, Or.inr ⟨f1, ?_⟩⟩, fun i h1 h2 h3 => ?_⟩
      · rw [up_o (Or.inr (by omega)), up_same]
      · rw [up_o (Or.inr (by omega)), up_o (Or.inr (by omega)), up_same]
      · rw [up_o (Or.inr h2), up_o (Or.inr h1), up_o (Or.inr h3)]
    rcases r3 with e | ⟨-, e⟩
    · rw [e, i5_t]
      exact fin
    · rw [e, i5_f (by omega), gd_nI (by omega) (by decide), ieq_t rfl]
      exact fin
theorem isSound_s (h : CI M (nb, nq, pl, tu, B, Q) tl tx) (hL31 : L < 2 ^ 31) (hS : BS L xs nb B) (hq : q < nq) (hk : kp nb B (Q q)) (hr : rQ nb B (Q q 1) 3 ≠ 0 → ri (M 9 0) nb B q (Q q)) : ∃ m, f_L_isSound M L xs (nI q) = some (nI 1, gs M 9 m) ∧ (rQ nb B (Q q 1) 3 ≠ 0 → ri (m 0) nb B q (Q q)) ∧ ∀ i, i ≠ q → i ≠ 6 + q → i ≠ 12 + q → m 0 i = M 9 0 i := by
  have hqq := h.qq.2 q hq
  have h6 := h.qq.1
  have hsd := h.sd q hq
  have q5 := o_ans (how := 0) h hq (by decide)
  have q6 := o_ans (how := 1) h hq (by decide)
  have q7 := o_ans (how := 2) h hq (by decide)
  have q5 : f_X5_question M (nI q) (nI 5) = _ := q5
  have q6 : f_X5_question M (nI q) (nI 6) = _ := q6
  have q7 : f_X5_question M (nI q) (nI 7) = _ := q7
  have qt := truth_s h hL31 hS hq
  have q4 := o_quest (k := 4) h hq (by decide)
  have q11 := o_rows h hq
  have q12 := o_reads h hq
  unfold f_L_isSound
  rw [q5, b1_some, q6, b1_some, q7, b1_some, qt, b1_some, q4, b1_some]
  by_cases hr0 : rQ nb B (Q q 1) 3 = 0
  · simp only [if_pos hr0]
    have f : Q q 4 = 0 := by
      by_cases f : Q q 4 = 0
      · exact f
      · exact absurd hr0 (hk (by omega)).1
    rw [f, ieq_f (by decide) (by decide) (by decide)]
    unfold f_L_isSound_L49
    refine ⟨M 9, ?_, fun z => absurd hr0 z, fun _ _ _ _ => rfl⟩
    rw [i5_t, i5_t, i5_t, i5_t, ieq_t rfl, q11, b1_some, hr0, ieq_t rfl, gs_self]
  · simp only [if_neg hr0]
    have hr := hr hr0
    have tle := tr_le (qr := Q q) h.bi
    have al0 := ans_le (qr := Q q) (how := 0) h.bi
    have al1 := ans_le (qr := Q q) (how := 1) h.bi
    have al2 := ans_le (qr := Q q) (how := 2) h.bi
    have l1 := low_tr (qr := Q q) h.bi
    have l2 := tr_high (qr := Q q) h.bi
    have l3 := low_guess (qr := Q q) h.bi
    have l4 := guess_high (qr := Q q) h.bi
    have key : f_L_isSound_L49 L xs (nI q) M (nI (ans nb B (Q q) 0)) (nI (ans nb B (Q q) 1)) (nI (ans nb B (Q q) 2)) (nI (tr nb B (Q q))) (nI (Q q 4)) = f_L_isSound_L207 L xs (nI q) M (nI (ans nb B (Q q) 0)) (nI (ans nb B (Q q) 1)) (nI (tr nb B (Q q))) (nI (Q q 4)) := by
      unfold f_L_isSound_L49
      obtain ⟨r1, ⟨a, r2, r2a, r2b⟩, r3⟩ := hr
      have x1 : ¬ nI (ans nb B (Q q) 0) < M 9 0 q := by
        rcases r1 with e | ⟨x, e, hx⟩
        · rw [e]; exact i5_lt (by omega)
        · rw [e]; exact nI_nlt hx (by omega)
      have x2 : ¬ M 9 0 (6 + q) < nI (ans nb B (Q q) 1) := by
        rw [r2]; exact nI_nlt r2a (by omega)
      rw [i5_f (by omega), ilt_f l1 (by omega), ilt_f l2 (by omega), ilt_f l3 (by omega), ilt_f l4 (by omega), gd_nI (by omega) (by decide), nI_clamp (by omega), if_neg x1, nI_add, gd_nI (by omega) (by decide), nI_clamp (by omega), if_neg x2]
      unfold f_L_isSound_L152
      have hr3 : rQ nb B (Q q 1) 3 ≤ 128 := rQ_le h.bi (Or.inl rfl) (Nat.le_refl _)
      have hr4 : rQ nb B (Q q 1) 4 ≤ 128 := rQ_le h.bi (Or.inr rfl) (Nat.le_refl _)
      rw [q11, b1_some, q12, b1_some]
      by_cases c : rQ nb B (Q q 1) 3 = rQ nb B (Q q 1) 4
      · have g0 := all_read (how := 0) h.bi c
        have g1 := all_read (how := 1) h.bi c
        have g2 := all_read (how := 2) h.bi c
        have f : Q q 4 = 1 := by
          by_cases f : Q q 4 = 0
          · exfalso
            unfold stB at hsd
            have z : nI (ans nb B (Q q) 1) - nI (ans nb B (Q q) 0) ≤ nI (Q q 3) := by
              rw [g0, g1, nI_sub (Nat.le_refl _), Nat.sub_self]
              exact nI_le (Nat.zero_le _) (by omega)
            rw [decide_eq_true f, decide_eq_true hr0, decide_eq_true z] at hsd
            exact absurd hsd (by decide)
          · omega
        rw [ieq_t c]
        unfold f_L_isSound_L176
        rw [ieq_f (by decide) (by decide) (by decide), ieq_f (by decide) (by decide) (by decide), g0, g1, g2, ieq_t rfl, ieq_t rfl, f, ieq_f (by decide) (by decide) (by decide)]
      · rw [ieq_f c (by omega) (by omega)]
        unfold f_L_isSound_L176
        rw [ieq_f (by decide) (by decide) (by decide), ieq_t rfl]
    obtain ⟨m, p1, p2, p3⟩ := sound207 (L := L) (xs := xs) h hq hk hr0 hr
    refine ⟨m, ?_, fun _ => p2, p3⟩
    rw [← p1, ← key]
    by_cases f : Q q 4 = 1
    · rw [f, ieq_t rfl]
    · have f0 : Q q 4 = 0 := by omega
      rw [f0, ieq_f (by decide) (by decide) (by decide)]
theorem areSound_L (hL31 : L < 2 ^ 31) (hS : BS L xs nb B) (hK : KP nb B nq Q) : ∀ n i M, i ≤ nq → nq < i + n → CI M (nb, nq, pl, tu, B, Q) tl tx → RI (M 9 0) nb B nq Q → ∃ m, f_L_areSound_L5 L xs n M (nI (sumTo (fun q => 1 - Q q 4) i)) (nI i) = some (nI 1, gs M 9 m) ∧ RI (m 0) nb B nq Q := by
  intro n
  induction n with
  | zero => intro i M h1 h2; omega
  | succ n ih =>
    intro i M h1 h2 h hR
    have h6 := h.qq.1
    rw [f_L_areSound_L5.eq_2, o_count1 h, b1_some]
    by_cases c : i = nq
    · subst c
      refine ⟨M 9, ?_, hR⟩
      rw [ile_t (Nat.le_refl _) (by omega), o_count2 h, b1_some, gs_self]
      exact if_pos rfl
    · have hi : i < nq := by omega
      have hqi := h.qq.2 i hi
      obtain ⟨m1, p1, p2, p3⟩ := isSound_s h hL31 hS hi (hK i hi) (hR i hi)
      have h1' : CI (gs M 9 m1) (nb, nq, pl, tu, B, Q) tl tx := h.r9
      have q4 := o_quest (k := 4) h1' hi (by decide)
      rw [ile_f hi (by omega), p1, bd_some, ieq_f (by decide) (by decide) (by decide), q4, b1_some, nI_sub (by omega), nI_add, nI_add]
      obtain ⟨m2, g1, g2⟩ := ih (i + 1) (gs M 9 m1) (by omega) (by omega) h1' (fun x hx hx0 => by
        rw [gs_at]
        by_cases d : x = i
        · subst d; exact p2 hx0
        · obtain ⟨a1, a2, a3⟩ := hR x hx hx0
          unfold ri
          rw [p3 x (by omega) (by omega) (by omega), p3 (6 + x) (by omega) (by omega) (by omega), p3 (12 + x) (by omega) (by omega) (by omega)]
          exact ⟨a1, a2, a3⟩)
      rw [gs_gs] at g1
      exact ⟨m2, g1, g2⟩
theorem areSound_s (h : CI M (nb, nq, pl, tu, B, Q) tl tx) (hL31 : L < 2 ^ 31) (hS : BS L xs nb B) (hK : KP nb B nq Q) (hR : RI (M 9 0) nb B nq Q) : ∃ m, f_L_areSound M L xs = some (nI 1, gs M 9 m) ∧ RI (m 0) nb B nq Q :=
  areSound_L hL31 hS hK FU 0 M (Nat.zero_le _) (by rw [FU_eq]; have := h.qq.1; omega) h hR
end SO
