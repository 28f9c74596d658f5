/-! THE REFERENCE: questions stop; weights; which block is next -/
/-- a question's row, set -/
def setR (Q : BK) (q : Nat) (f : Nat → Nat) : BK := fun q' => if q' = q then f else Q q'
/-- how many questions are open -/
def opn (nq : Nat) (Q : BK) : Nat := sumTo (fun q => 1 - Q q 4) nq
/-- what a question adds to a block's weight -/
def uw (nb : Nat) (B : BK) (qr : Nat → Nat) (b : Nat) : Nat :=
  if qr 0 = 1 then (if B b 1 < qr 2 ∧ qr 2 ≤ B b 2 then 100 else 0)
  else if qr 0 = 2 then (if B b 1 < ans nb B qr 1 then 100 else 0)
  else if qr 0 = 3 then (if ans nb B qr 0 < B b 2 then 100 else 0)
  else B b 2 - B b 1
def wt (nb : Nat) (B : BK) (Q : BK) (b n : Nat) : Nat := sumTo (fun q => if Q q 4 = 0 ∧ (Q q 1).testBit (B b 0) = true then uw nb B (Q q) b else 0) n
/-- a block's worth by the plans 1 and 2 -/
def wo (pl nb : Nat) (B : BK) (nq : Nat) (Q : BK) (b : Nat) : Nat := if pl = 1 then (B b 3 - B b 4) * (B b 2 - B b 1) else wt nb B Q b nq
section MC
variable {m : SM} {nb nq pl tu b q k how ls n : Nat} {B Q : BK} {qr qr2 : Nat → Nat}
theorem stl_t {i : Nat} (h : stB nb B (Q i) = true) : stl nb B (i + 1) Q = setR (stl nb B i Q) i (setq nb B (Q i)) := by
  funext q
  unfold stl setR
  by_cases c : q = i
  · subst c
    rw [if_pos ⟨by omega, h⟩, if_pos rfl]
  · rw [if_neg c]
    dsimp only
    by_cases d : q < i ∧ stB nb B (Q q) = true
    · rw [if_pos d, if_pos ⟨by omega, d.2⟩]
    · rw [if_neg d, if_neg (fun z => d ⟨by omega, z.2⟩)]
theorem stl_f {i : Nat} (h : stB nb B (Q i) = false) : stl nb B (i + 1) Q = stl nb B i Q := by
  funext q
  unfold stl
  by_cases d : q < i ∧ stB nb B (Q q) = true
  · rw [if_pos d, if_pos ⟨by omega, d.2⟩]
  · rw [if_neg d, if_neg (fun z => d ⟨by
      have hne : q ≠ i := fun e => by
        subst e
        rw [h] at z
        exact absurd z.2 (by decide)
      omega, z.2⟩)]
theorem stl_i {i : Nat} : stl nb B i Q i = Q i := by
  unfold stl
  rw [if_neg (fun z => absurd z.1 (Nat.lt_irrefl i))]
theorem stl_0 : stl nb B 0 Q = Q := by
  funext q
  unfold stl
  rw [if_neg (fun z => absurd z.1 (Nat.not_lt_zero q))]
theorem setR_upB {q : Nat} {f : Nat → Nat} {k v : Nat} : upB (setR Q q f) q k v = setR Q q (fun j => if j = k then v else f j) := by
  funext q' k'
  unfold upB setR
  by_cases c : q' = q
  · subst c
    by_cases d : k' = k
    · subst d; simp
    · simp [d]
  · simp [c]
theorem upB_setR {q : Nat} {k v : Nat} : upB Q q k v = setR Q q (fun j => if j = k then v else Q q j) := by
  funext q' k'
  unfold upB setR
  by_cases c : q' = q
  · subst c
    by_cases d : k' = k
    · subst d; simp
    · simp [d]
  · simp [c]
theorem stopIt_s (hI : BI nb B) (hQQ : QQ nq Q) (hB : ZB (m 1) nb B) (hQ : ZQ (m 1) nq Q) (hH : ZH (m 1) pl tu) (hq : q < nq) (hr : rQ nb B (Q q 1) 3 ≠ 0) : ∃ m', f_X6_stopIt m (nI q) = some (0, m') ∧ SX m m' ∧ ZB (m' 1) nb B ∧ ZQ (m' 1) nq (setR Q q (setq nb B (Q q))) ∧ ZH (m' 1) pl tu := by
  have hq6 := hQQ.1
  have hqq := hQQ.2 q hq
  unfold f_X6_stopIt
  have p0 := putAsked_s (m := m) (q := q) (k := 4) (v := nI 1) (by omega) (by decide)
  simp (disch := omega) only [ile_t, ile_f, ilt_t, ilt_f, ieq_t, ieq_f, gd_nI, gn_nI, gz_nI, b1_some, bd_some, lt1_eq, nI_add, nI_mul, nI_clamp, if_true, if_false, p0]
  generalize hm0 : up m 1 (172 + 8 * q + 4) (nI 1) = m0
  have x0 : SX m m0 := by rw [← hm0]; exact SX.up1
  have hB0 : ZB (m0 1) nb B := by rw [← hm0, show 172 + 8 * q + 4 = 172 + (8 * q + 4) by omega]; exact hB.putQ
  have hQ0 : ZQ (m0 1) nq (upB Q q 4 1) := by rw [← hm0]; exact hQ.put (by decide)
  have hH0 : ZH (m0 1) pl tu := by rw [← hm0]; exact hH.put (by omega)
  rw [upB_setR] at hQ0
  -- one round of the loop
  have round : ∀ (n how : Nat) (m1 : SM) (f : Nat → Nat), how < 3 → ZQ (m1 1) nq (setR Q q f) → f 0 = Q q 0 → f 1 = Q q 1 → f 2 = Q q 2 → f 3 = Q q 3 → f 4 = 1 → SX m m1 → ZB (m1 1) nb B → ZH (m1 1) pl tu → ∃ m2, f_X6_stopIt_L9 (nI q) (n + 1) m1 (nI how) = f_X6_stopIt_L9 (nI q) n m2 (nI (how + 1)) ∧ SX m m2 ∧ ZB (m2 1) nb B ∧ ZQ (m2 1) nq (setR Q q (fun j => if j = 5 + how then ans nb B (Q q) how else f j)) ∧ ZH (m2 1) pl tu := by
    intro n how m1 f hh hQ1 f0 f1 f2 f3 f4 x1 hB1 hH1
    have hQQ1 : QQ nq (setR Q q f) := ⟨hq6, fun q' hq' => by
      unfold setR
      by_cases c : q' = q
      · rw [if_pos c, f0, f1, f2, f3, f4]
        exact ⟨hqq.1, hqq.2.1, hqq.2.2.1, hqq.2.2.2.1, hqq.2.2.2.2.1, by decide⟩
      · rw [if_neg c]
        exact hQQ.2 q' hq'⟩
    have er : setR Q q f q = f := by unfold setR; rw [if_pos rfl]
    obtain ⟨m3, g1, g2⟩ := answer_s (how := how) hI hQQ1 hB1 hQ1 hq hh (by rw [er, f1]; exact hr)
    rw [er, ans_congr f0 f1 f2] at g1
    have p1 := putAsked_s (m := m3) (q := q) (k := 5 + how) (v := nI (ans nb B (Q q) how)) (by omega) (by omega)
    rw [f_X6_stopIt_L9.eq_2]
    simp (disch := omega) only [ile_t, ile_f, ilt_t, ilt_f, ieq_t, ieq_f, gd_nI, gn_nI, gz_nI, b1_some, bd_some, lt1_eq, nI_add, nI_mul, nI_clamp, if_true, if_false, g1, p1]
    refine ⟨_, rfl, (x1.tr g2.1).tr SX.up1, ?_, ?_, ?_⟩
    · rw [show 172 + 8 * q + (5 + how) = 172 + (8 * q + (5 + how)) by omega]
      exact ZB.putQ (by rw [g2.2]; exact hB1)
    · rw [← setR_upB]
      exact ZQ.put (by rw [g2.2]; exact hQ1) (by omega)
    · exact ZH.put (by rw [g2.2]; exact hH1) (by omega)
  rw [show FU = 996 + 1 + 1 + 1 + 1 from rfl]
  obtain ⟨m1, a1, a2, a3, a4, a5⟩ := round (996 + 1 + 1 + 1) 0 m0 (fun j => if j = 4 then 1 else Q q j) (by decide) hQ0 rfl rfl rfl rfl rfl x0 hB0 hH0
  obtain ⟨m2, b1', b2, b3, b4, b5⟩ := round (996 + 1 + 1) 1 m1 (fun j => if j = 5 + 0 then ans nb B (Q q) 0 else if j = 4 then 1 else Q q j) (by decide) a4 rfl rfl rfl rfl rfl a2 a3 a5
  obtain ⟨m3, c1, c2, c3, c4, c5⟩ := round (996 + 1) 2 m2 (fun j => if j = 5 + 1 then ans nb B (Q q) 1 else if j = 5 + 0 then ans nb B (Q q) 0 else if j = 4 then 1 else Q q j) (by decide) b4 rfl rfl rfl rfl rfl b2 b3 b5
  refine ⟨m3, ?_, c2, c3, ?_, c5⟩
  · rw [a1, b1', c1, f_X6_stopIt_L9.eq_2]
    simp (disch := omega) only [ile_t, ile_f, ilt_t, ilt_f, ieq_t, ieq_f, gd_nI, gn_nI, gz_nI, b1_some, bd_some, lt1_eq, nI_add, nI_mul, nI_clamp, if_true, if_false]
  · have e : setq nb B (Q q) = (fun j => if j = 5 + 2 then ans nb B (Q q) 2 else if j = 5 + 1 then ans nb B (Q q) 1 else if j = 5 + 0 then ans nb B (Q q) 0 else if j = 4 then 1 else Q q j) := by
      funext j
      unfold setq
      by_cases j4 : j = 4
      · subst j4; rfl
      · by_cases j5 : j = 5
        · subst j5; rfl
        · by_cases j6 : j = 6
          · subst j6; rfl
          · by_cases j7 : j = 7
            · subst j7; rfl
            · simp [j4, j5, j6, j7]
    rw [e]
    exact c4
theorem QQ_stl {i : Nat} (h : QQ nq Q) : QQ nq (stl nb B i Q) := by
  refine ⟨h.1, fun q hq => ?_⟩
  have hh := h.2 q hq
  unfold stl
  by_cases c : q < i ∧ stB nb B (Q q) = true
  · rw [if_pos c]
    exact ⟨hh.1, hh.2.1, hh.2.2.1, hh.2.2.2.1, hh.2.2.2.2.1, by show 1 ≤ 1; decide⟩
  · rw [if_neg c]
    exact hh
theorem settle_L (hI : BI nb B) (hQQ : QQ nq Q) : ∀ n i m, i ≤ nq → nq < i + n → ZB (m 1) nb B → ZQ (m 1) nq (stl nb B i Q) → ZH (m 1) pl tu → ∃ m', f_X6_settle_L2 n m (nI i) = some (0, m') ∧ SX m m' ∧ ZB (m' 1) nb B ∧ ZQ (m' 1) nq (stl nb B nq Q) ∧ ZH (m' 1) pl tu := by
  have hq6 := hQQ.1
  intro n
  induction n with
  | zero => intro i m h2 h3; omega
  | succ n ih =>
    intro i m h2 h3 hB hQ hH
    rw [f_X6_settle_L2.eq_2]
    by_cases c : i = nq
    · subst c
      simp (disch := omega) only [ile_t, ile_f, ilt_t, ilt_f, ieq_t, ieq_f, gd_nI, gn_nI, gz_nI, b1_some, bd_some, lt1_eq, nI_add, nI_mul, nI_clamp, if_true, if_false, hQ.1]
      exact ⟨m, rfl, SX.rf, hB, hQ, hH⟩
    · have hqi := hQQ.2 i (by omega)
      have e1 := asked_s (k := 4) hQ (q := i) (by omega) (by decide)
      rw [stl_i] at e1
      have hQQi := QQ_stl (nb := nb) (B := B) (i := i) hQQ
      have skip : stB nb B (Q i) = false → ∃ m', f_X6_settle_L2 n m (nI (i + 1)) = some (0, m') ∧ SX m m' ∧ ZB (m' 1) nb B ∧ ZQ (m' 1) nq (stl nb B nq Q) ∧ ZH (m' 1) pl tu := fun h => ih (i + 1) m (by omega) (by omega) hB (by rw [stl_f h]; exact hQ) hH
      by_cases d : Q i 4 = 0
      · rw [d] at e1
        have hrl : rQ nb B (Q i 1) 3 ≤ 128 := rQ_le hI (Or.inl rfl) (Nat.le_refl _)
        have e2 := rowsOf_s (k := 3) hB hQ hI (q := i) (by omega) (by rw [stl_i]; omega) (by decide)
        rw [stl_i] at e2
        by_cases f : rQ nb B (Q i 1) 3 = 0
        · rw [f] at e2
          simp (disch := omega) only [ile_t, ile_f, ilt_t, ilt_f, ieq_t, ieq_f, gd_nI, gn_nI, gz_nI, b1_some, bd_some, lt1_eq, nI_add, nI_mul, nI_clamp, if_true, if_false, hQ.1, e1, e2, f_X6_settle_L34, f_X6_settle_L35]
          exact skip (by unfold stB; simp [f])
        · simp (disch := omega) only [ile_t, ile_f, ilt_t, ilt_f, ieq_t, ieq_f, gd_nI, gn_nI, gz_nI, b1_some, bd_some, lt1_eq, nI_add, nI_mul, nI_clamp, if_true, if_false, hQ.1, e1, e2, f_X6_settle_L35]
          obtain ⟨m1, g1, g2⟩ := answer_s (how := 1) hI hQQi hB hQ (q := i) (by omega) (by decide) (by rw [stl_i]; exact f)
          rw [stl_i] at g1
          have hB1 : ZB (m1 1) nb B := by rw [g2.2]; exact hB
          have hQ1 : ZQ (m1 1) nq (stl nb B i Q) := by rw [g2.2]; exact hQ
          obtain ⟨m2, p1, p2⟩ := answer_s (how := 0) hI hQQi hB1 hQ1 (q := i) (by omega) (by decide) (by rw [stl_i]; exact f)
          rw [stl_i] at p1
          have hB2 : ZB (m2 1) nb B := by rw [p2.2]; exact hB1
          have hQ2 : ZQ (m2 1) nq (stl nb B i Q) := by rw [p2.2]; exact hQ1
          have hH2 : ZH (m2 1) pl tu := by rw [p2.2, g2.2]; exact hH
          have e3 := asked_s (k := 3) hQ2 (q := i) (by omega) (by decide)
          rw [stl_i] at e3
          simp only [g1, p1, e3, bd_some, b1_some]
          by_cases w : nI (Q i 3) < nI (ans nb B (Q i) 1) - nI (ans nb B (Q i) 0)
          · rw [if_pos w]
            have hs : stB nb B (Q i) = false := by
              unfold stB
              have : ¬ nI (ans nb B (Q i) 1) - nI (ans nb B (Q i) 0) ≤ nI (Q i 3) := by
                rw [Int32.le_iff_toInt_le]
                rw [Int32.lt_iff_toInt_lt] at w
                omega
              simp [this]
            obtain ⟨m', r1, r2, r3⟩ := ih (i + 1) m2 (by omega) (by omega) hB2 (by rw [stl_f hs]; exact hQ2) hH2
            exact ⟨m', r1, ((g2.tr p2).1).tr r2, r3⟩
          · rw [if_neg w]
            have hs : stB nb B (Q i) = true := by
              unfold stB
              have : nI (ans nb B (Q i) 1) - nI (ans nb B (Q i) 0) ≤ nI (Q i 3) := by
                rw [Int32.le_iff_toInt_le]
                rw [Int32.lt_iff_toInt_lt] at w
                omega
              simp [this, d, f]
            obtain ⟨m3, s1, s2, s3, s4, s5⟩ := stopIt_s hI hQQi hB2 hQ2 hH2 (q := i) (by omega) (by rw [stl_i]; exact f)
            rw [stl_i, ← stl_t hs] at s4
            obtain ⟨m', r1, r2, r3⟩ := ih (i + 1) m3 (by omega) (by omega) s3 s4 s5
            simp only [s1, bd_some, nI_add]
            exact ⟨m', r1, (((g2.tr p2).1).tr s2).tr r2, r3⟩
      · have d1 : Q i 4 = 1 := by omega
        rw [d1] at e1
        simp (disch := omega) only [ile_t, ile_f, ilt_t, ilt_f, ieq_t, ieq_f, gd_nI, gn_nI, gz_nI, b1_some, bd_some, lt1_eq, nI_add, nI_mul, nI_clamp, if_true, if_false, hQ.1, e1, f_X6_settle_L34, f_X6_settle_L35]
        exact skip (by unfold stB; simp [d])
theorem settle_s (hI : BI nb B) (hQQ : QQ nq Q) (hB : ZB (m 1) nb B) (hQ : ZQ (m 1) nq Q) (hH : ZH (m 1) pl tu) : ∃ m', f_X6_settle m = some (0, m') ∧ SX m m' ∧ ZB (m' 1) nb B ∧ ZQ (m' 1) nq (stl nb B nq Q) ∧ ZH (m' 1) pl tu :=
  settle_L hI hQQ FU 0 m (by omega) (by rw [FU_eq]; have := hQQ.1; omega) hB (by rw [stl_0]; exact hQ) hH
theorem openMany_L (hQQ : QQ nq Q) (hQ : ZQ (m 1) nq Q) : ∀ n i, i ≤ nq → nq < i + n → f_X6_openMany_L4 m n (nI (sumTo (fun q => 1 - Q q 4) i)) (nI i) = some (nI (opn nq Q)) := by
  have hq6 := hQQ.1
  intro n
  induction n with
  | zero => intro i h2 h3; omega
  | succ n ih =>
    intro i h2 h3
    rw [f_X6_openMany_L4.eq_2]
    by_cases c : i = nq
    · subst c
      simp (disch := omega) only [ile_t, ile_f, ilt_t, ilt_f, ieq_t, ieq_f, gd_nI, gn_nI, gz_nI, b1_some, bd_some, lt1_eq, nI_add, nI_mul, nI_clamp, if_true, if_false, hQ.1]
      rfl
    · have hqi := hQQ.2 i (by omega)
      have e1 := asked_s (k := 4) hQ (q := i) (by omega) (by decide)
      have e2 : nI 1 - nI (Q i 4) = nI (1 - Q i 4) := nI_sub (by omega)
      simp (disch := omega) only [ile_t, ile_f, ilt_t, ilt_f, ieq_t, ieq_f, gd_nI, gn_nI, gz_nI, b1_some, bd_some, lt1_eq, nI_add, nI_mul, nI_clamp, if_true, if_false, hQ.1, e1, e2]
      exact ih (i + 1) (by omega) (by omega)
theorem openMany_s (hQQ : QQ nq Q) (hQ : ZQ (m 1) nq Q) : f_X6_openMany m = some (nI (opn nq Q)) :=
  openMany_L hQQ hQ FU 0 (by omega) (by rw [FU_eq]; have := hQQ.1; omega)
theorem unread_s (hI : BI nb B) (hB : ZB (m 1) nb B) (hb : b < nb) : f_X6_unread m (nI b) = some (nI (B b 3 - B b 4)) := by
  have hn := hI.1
  have hbi := hI.2 b hb
  have e1 := of_s (k := 3) hB (b := b) (by omega) (by decide)
  have e2 := of_s (k := 4) hB (b := b) (by omega) (by decide)
  unfold f_X6_unread
  simp (disch := omega) only [ile_t, ile_f, ilt_t, ilt_f, ieq_t, ieq_f, gd_nI, gn_nI, gz_nI, b1_some, bd_some, lt1_eq, nI_add, nI_mul, nI_clamp, if_true, if_false, e1, e2, nI_sub]
theorem uw_le (hI : BI nb B) (hb : b < nb) : uw nb B qr b ≤ 999 := by
  have hbi := hI.2 b hb
  unfold uw
  repeat' split
  all_goals omega
theorem wt_le (hI : BI nb B) (hb : b < nb) (hn : n ≤ 6) : wt nb B Q b n ≤ 5994 := by
  have := sumTo_le (f := fun q => if Q q 4 = 0 ∧ (Q q 1).testBit (B b 0) = true then uw nb B (Q q) b else 0) (c := 999) n (fun i hi => by
    have := uw_le (qr := Q i) hI hb
    show (if _ then _ else 0) ≤ 999
    split <;> omega)
  unfold wt
  omega
theorem wo_le (hI : BI nb B) (hb : b < nb) (hn : nq ≤ 6) : wo pl nb B nq Q b ≤ 15984 := by
  have hbi := hI.2 b hb
  have h1 := wt_le (Q := Q) hI hb hn
  have h2 : (B b 3 - B b 4) * (B b 2 - B b 1) ≤ 16 * 999 := Nat.mul_le_mul (by omega) (by omega)
  unfold wo
  split <;> omega
theorem weightFor_s (hI : BI nb B) (hQQ : QQ nq Q) (hB : ZB (m 1) nb B) (hQ : ZQ (m 1) nq Q) (hq : q < nq) (hb : b < nb) (hc : (Q q 1).testBit (B b 0) = true) : ∃ m', f_X6_weightFor m (nI q) (nI b) = some (nI (uw nb B (Q q) b), m') ∧ SE m m' := by
  have hn := hI.1
  have hq6 := hQQ.1
  have hbi := hI.2 b hb
  have hqq := hQQ.2 q hq
  have hr := rQ_pos hI hb hc
  have e0 := asked_s (k := 0) hQ (q := q) (by omega) (by decide)
  have e1 := of_s (k := 1) hB (b := b) (by omega) (by decide)
  have e2 := of_s (k := 2) hB (b := b) (by omega) (by decide)
  have hal := ans_le (qr := Q q) (how := 1) hI
  have hal0 := ans_le (qr := Q q) (how := 0) hI
  unfold f_X6_weightFor
  have hk : Q q 0 = 1 ∨ Q q 0 = 2 ∨ Q q 0 = 3 ∨ (Q q 0 ≠ 1 ∧ Q q 0 ≠ 2 ∧ Q q 0 ≠ 3) := by omega
  rcases hk with hk | hk | hk | ⟨hk1, hk2, hk3⟩
  · have e3 := asked_s (k := 2) hQ (q := q) (by omega) (by decide)
    have hu : uw nb B (Q q) b = (if B b 1 < Q q 2 ∧ Q q 2 ≤ B b 2 then 100 else 0) := by unfold uw; rw [if_pos hk]
    rw [hk] at e0
    rw [hu]
    simp (disch := omega) only [ile_t, ile_f, ilt_t, ilt_f, ieq_t, ieq_f, gd_nI, gn_nI, gz_nI, b1_some, bd_some, lt1_eq, nI_add, nI_mul, nI_clamp, if_true, if_false, e0, e1, e2, e3]
    by_cases c : B b 1 < Q q 2
    · by_cases d : Q q 2 ≤ B b 2
      · rw [if_pos (⟨c, d⟩ : B b 1 < Q q 2 ∧ Q q 2 ≤ B b 2)]
        simp (disch := omega) only [ile_t, ile_f, ilt_t, ilt_f, ieq_t, ieq_f, gd_nI, gn_nI, gz_nI, b1_some, bd_some, lt1_eq, nI_add, nI_mul, nI_clamp, if_true, if_false]
        exact ⟨m, rfl, SE.rf⟩
      · rw [if_neg (fun z : B b 1 < Q q 2 ∧ Q q 2 ≤ B b 2 => d z.2)]
        simp (disch := omega) only [ile_t, ile_f, ilt_t, ilt_f, ieq_t, ieq_f, gd_nI, gn_nI, gz_nI, b1_some, bd_some, lt1_eq, nI_add, nI_mul, nI_clamp, if_true, if_false]
        exact ⟨m, rfl, SE.rf⟩
    · rw [if_neg (fun z : B b 1 < Q q 2 ∧ Q q 2 ≤ B b 2 => c z.1)]
      simp (disch := omega) only [ile_t, ile_f, ilt_t, ilt_f, ieq_t, ieq_f, gd_nI, gn_nI, gz_nI, b1_some, bd_some, lt1_eq, nI_add, nI_mul, nI_clamp, if_true, if_false]
      exact ⟨m, rfl, SE.rf⟩
  · obtain ⟨m1, g1, g2⟩ := answer_s (how := 1) hI hQQ hB hQ hq (by decide) hr
    have hu : uw nb B (Q q) b = (if B b 1 < ans nb B (Q q) 1 then 100 else 0) := by unfold uw; rw [if_neg (by omega), if_pos hk]
    rw [hk] at e0
    rw [hu]
    refine ⟨m1, ?_, g2⟩
    simp (disch := omega) only [ile_t, ile_f, ilt_t, ilt_f, ieq_t, ieq_f, gd_nI, gn_nI, gz_nI, b1_some, bd_some, lt1_eq, nI_add, nI_mul, nI_clamp, if_true, if_false, e0, e1, g1]
    by_cases c : B b 1 < ans nb B (Q q) 1
    · rw [if_pos c]
      simp (disch := omega) only [ile_t, ile_f, ilt_t, ilt_f, ieq_t, ieq_f, gd_nI, gn_nI, gz_nI, b1_some, bd_some, lt1_eq, nI_add, nI_mul, nI_clamp, if_true, if_false]
    · rw [if_neg c]
      simp (disch := omega) only [ile_t, ile_f, ilt_t, ilt_f, ieq_t, ieq_f, gd_nI, gn_nI, gz_nI, b1_some, bd_some, lt1_eq, nI_add, nI_mul, nI_clamp, if_true, if_false]
  · obtain ⟨m1, g1, g2⟩ := answer_s (how := 0) hI hQQ hB hQ hq (by decide) hr
    have hu : uw nb B (Q q) b = (if ans nb B (Q q) 0 < B b 2 then 100 else 0) := by unfold uw; rw [if_neg (by omega), if_neg (by omega), if_pos hk]
    rw [hk] at e0
    rw [hu]
    refine ⟨m1, ?_, g2⟩
    simp (disch := omega) only [ile_t, ile_f, ilt_t, ilt_f, ieq_t, ieq_f, gd_nI, gn_nI, gz_nI, b1_some, bd_some, lt1_eq, nI_add, nI_mul, nI_clamp, if_true, if_false, e0, e2, g1]
    by_cases c : ans nb B (Q q) 0 < B b 2
    · rw [if_pos c]
      simp (disch := omega) only [ile_t, ile_f, ilt_t, ilt_f, ieq_t, ieq_f, gd_nI, gn_nI, gz_nI, b1_some, bd_some, lt1_eq, nI_add, nI_mul, nI_clamp, if_true, if_false]
    · rw [if_neg c]
      simp (disch := omega) only [ile_t, ile_f, ilt_t, ilt_f, ieq_t, ieq_f, gd_nI, gn_nI, gz_nI, b1_some, bd_some, lt1_eq, nI_add, nI_mul, nI_clamp, if_true, if_false]
  · have hu : uw nb B (Q q) b = B b 2 - B b 1 := by unfold uw; rw [if_neg hk1, if_neg hk2, if_neg hk3]
    rw [hu]
    simp (disch := omega) only [ile_t, ile_f, ilt_t, ilt_f, ieq_t, ieq_f, gd_nI, gn_nI, gz_nI, b1_some, bd_some, lt1_eq, nI_add, nI_mul, nI_clamp, if_true, if_false, e0, e1, e2, nI_sub]
    exact ⟨m, rfl, SE.rf⟩
theorem weight_L (hI : BI nb B) (hQQ : QQ nq Q) (hb : b < nb) : ∀ n i m, i ≤ nq → nq < i + n → ZB (m 1) nb B → ZQ (m 1) nq Q → ∃ m', f_X6_weight_L4 (nI b) n m (nI (wt nb B Q b i)) (nI i) = some (nI (wt nb B Q b nq), m') ∧ SE m m' := by
  have hq6 := hQQ.1
  have hn := hI.1
  have hbi := hI.2 b hb
  intro n
  induction n with
  | zero => intro i m h2 h3; omega
  | succ n ih =>
    intro i m h2 h3 hB hQ
    rw [f_X6_weight_L4.eq_2]
    by_cases c : i = nq
    · subst c
      simp (disch := omega) only [ile_t, ile_f, ilt_t, ilt_f, ieq_t, ieq_f, gd_nI, gn_nI, gz_nI, b1_some, bd_some, lt1_eq, nI_add, nI_mul, nI_clamp, if_true, if_false, hQ.1]
      exact ⟨m, rfl, SE.rf⟩
    · have hqi := hQQ.2 i (by omega)
      have e1 := asked_s (k := 4) hQ (q := i) (by omega) (by decide)
      have e2 := isOf_s hB hQ (b := b) (q := i) (by omega) (by omega) (by omega) hbi.1
      have es : wt nb B Q b (i + 1) = wt nb B Q b i + (if Q i 4 = 0 ∧ (Q i 1).testBit (B b 0) = true then uw nb B (Q i) b else 0) := rfl
      by_cases d : Q i 4 = 0
      · rw [d] at e1
        by_cases f : (Q i 1).testBit (B b 0) = true
        · rw [if_pos f] at e2
          rw [if_pos ⟨d, f⟩] at es
          obtain ⟨m1, g1, g2⟩ := weightFor_s hI hQQ hB hQ (q := i) (by omega) hb f
          obtain ⟨m', p1, p2⟩ := ih (i + 1) m1 (by omega) (by omega) (by rw [g2.2]; exact hB) (by rw [g2.2]; exact hQ)
          rw [es] at p1
          simp (disch := omega) only [ile_t, ile_f, ilt_t, ilt_f, ieq_t, ieq_f, gd_nI, gn_nI, gz_nI, b1_some, bd_some, lt1_eq, nI_add, nI_mul, nI_clamp, if_true, if_false, hQ.1, e1, e2, g1]
          exact ⟨m', p1, g2.tr p2⟩
        · rw [if_neg f] at e2
          rw [if_neg (fun z => f z.2)] at es
          obtain ⟨m', p1, p2⟩ := ih (i + 1) m (by omega) (by omega) hB hQ
          rw [es] at p1
          simp (disch := omega) only [ile_t, ile_f, ilt_t, ilt_f, ieq_t, ieq_f, gd_nI, gn_nI, gz_nI, b1_some, bd_some, lt1_eq, nI_add, nI_mul, nI_clamp, if_true, if_false, hQ.1, e1, e2]
          exact ⟨m', p1, p2⟩
      · have d1 : Q i 4 = 1 := by omega
        rw [d1] at e1
        rw [if_neg (fun z => d z.1)] at es
        obtain ⟨m', p1, p2⟩ := ih (i + 1) m (by omega) (by omega) hB hQ
        rw [es] at p1
        simp (disch := omega) only [ile_t, ile_f, ilt_t, ilt_f, ieq_t, ieq_f, gd_nI, gn_nI, gz_nI, b1_some, bd_some, lt1_eq, nI_add, nI_mul, nI_clamp, if_true, if_false, hQ.1, e1]
        exact ⟨m', p1, p2⟩
theorem weight_s (hI : BI nb B) (hQQ : QQ nq Q) (hB : ZB (m 1) nb B) (hQ : ZQ (m 1) nq Q) (hb : b < nb) : ∃ m', f_X6_weight m (nI b) = some (nI (wt nb B Q b nq), m') ∧ SE m m' :=
  weight_L hI hQQ hb FU 0 m (by omega) (by rw [FU_eq]; have := hQQ.1; omega) hB hQ
theorem worth_s (hI : BI nb B) (hQQ : QQ nq Q) (hB : ZB (m 1) nb B) (hQ : ZQ (m 1) nq Q) (hH : ZH (m 1) pl tu) (hpl : pl ≤ 2) (hb : b < nb) : ∃ m', f_X6_worth m (nI b) = some (nI (wo pl nb B nq Q b), m') ∧ SE m m' := by
  have hn := hI.1
  have hbi := hI.2 b hb
  unfold f_X6_worth wo
  by_cases c : pl = 1
  · subst c
    have e0 := unread_s hI hB hb
    have e1 := of_s (k := 1) hB (b := b) (by omega) (by decide)
    have e2 := of_s (k := 2) hB (b := b) (by omega) (by decide)
    rw [if_pos rfl]
    simp (disch := omega) only [ile_t, ile_f, ilt_t, ilt_f, ieq_t, ieq_f, gd_nI, gn_nI, gz_nI, b1_some, bd_some, lt1_eq, nI_add, nI_mul, nI_clamp, if_true, if_false, hH.1, e0, e1, e2, nI_sub]
    exact ⟨m, rfl, SE.rf⟩
  · obtain ⟨m1, g1, g2⟩ := weight_s hI hQQ hB hQ hb
    rw [if_neg c]
    simp (disch := omega) only [ile_t, ile_f, ilt_t, ilt_f, ieq_t, ieq_f, gd_nI, gn_nI, gz_nI, b1_some, bd_some, lt1_eq, nI_add, nI_mul, nI_clamp, if_true, if_false, hH.1, g1]
    exact ⟨m1, rfl, g2⟩
end MC
