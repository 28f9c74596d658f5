/-! THE REFERENCE'S ANSWERS -/
section MB
variable {m : SM} {nb nq pl tu b q k how ls n : Nat} {B Q : BK} {qr qr2 : Nat → Nat}
theorem aG_pos (h : BI nb B) : ∀ n : Nat, n ≤ nb → sumTo (fun b => if ls.testBit (B b 0) then B b 3 else 0) n ≠ 0 → 1 ≤ aG nb B ls how n
  | 0, _, hne => absurd rfl hne
  | n + 1, hn, hne => by
    have h4 := h.2 n (by omega)
    unfold aG
    by_cases c : ls.testBit (B n 0) = true
    · rw [if_pos c]
      have h1 := (maxB_le (f := fun r => vl nb B n how r + 1) (a := aG nb B ls how n) (B n 3)).2 0 (by omega)
      have h2 : 1 ≤ (fun r => vl nb B n how r + 1) 0 := Nat.le_add_left _ _
      omega
    · rw [if_neg c]
      refine aG_pos h n (by omega) (fun q => hne ?_)
      show sumTo _ n + (if _ then _ else 0) = 0
      rw [q, if_neg c]
theorem ans_congr (h0 : qr 0 = qr2 0) (h1 : qr 1 = qr2 1) (h2 : qr 2 = qr2 2) : ans nb B qr how = ans nb B qr2 how := by
  unfold ans
  rw [h0, h1, h2]
theorem rQ_pos (h : BI nb B) (hb : b < nb) (hc : ls.testBit (B b 0) = true) : rQ nb B ls 3 ≠ 0 := by
  intro q
  have h1 := sumTo_zero nb q b hb
  have h2 := h.2 b hb
  simp only [hc, if_true] at h1
  omega
/-- the numbers that answer() keeps while it meets rows -/
def AC (m : SM) (s c le g : Nat) : Prop := m 0 10 = nI s ∧ m 0 11 = nI c ∧ m 0 12 = nI le ∧ m 0 13 = nI g - nI 1
theorem meet_s {s c le g v : Nat} (hQ : ZQ (m 1) nq Q) (hq : q < 6) (hl : Q q 2 ≤ 999) (hv : v ≤ 999) (hle : le ≤ 1000) (hg : g ≤ 1000) (hA : AC m s c le g) : ∃ m', f_X6_meet m (nI q) (nI v) = some (0, m') ∧ SE m m' ∧ m' 6 = m 6 ∧ m' 7 = m 7 ∧ AC m' (s + v) (c + if Q q 2 ≤ v then 1 else 0) (min le v) (max g (v + 1)) := by
  obtain ⟨a1, a2, a3, a4⟩ := hA
  unfold f_X6_meet
  simp (disch := omega) only [ile_t, ile_f, ilt_t, ilt_f, ieq_t, ieq_f, gd_nI, gn_nI, gz_nI, b1_some, bd_some, lt1_eq, nI_add, nI_mul, nI_clamp, if_true, if_false, a1]
  generalize hm1 : up m 0 10 (nI (s + v)) = m1
  have s1 : SE m m1 := by rw [← hm1]; exact SE.up0 (by decide)
  have hQ1 : ZQ (m1 1) nq Q := by rw [s1.2]; exact hQ
  have e1 := asked_s (k := 2) hQ1 hq (by decide)
  have b1' : m1 0 10 = nI (s + v) := by rw [← hm1, up_same]
  have b2 : m1 0 11 = nI c := by rw [← hm1, up_o (Or.inr (by decide))]; exact a2
  have b3 : m1 0 12 = nI le := by rw [← hm1, up_o (Or.inr (by decide))]; exact a3
  have b4 : m1 0 13 = nI g - nI 1 := by rw [← hm1, up_o (Or.inr (by decide))]; exact a4
  have b6 : m1 6 = m 6 ∧ m1 7 = m 7 := by rw [← hm1]; exact ⟨up_c (by decide), up_c (by decide)⟩
  have key51 : ∀ (m2 : SM) (w : Nat), SE m m2 → m2 6 = m 6 ∧ m2 7 = m 7 → m2 0 10 = nI (s + v) → m2 0 11 = nI (c + if Q q 2 ≤ v then 1 else 0) → m2 0 13 = nI g - nI 1 → w = min le v → ∃ m', f_X6_meet_L51 (nI q) (nI v) m2 (nI w) = some (0, m') ∧ SE m m' ∧ m' 6 = m 6 ∧ m' 7 = m 7 ∧ AC m' (s + v) (c + if Q q 2 ≤ v then 1 else 0) (min le v) (max g (v + 1)) := by
    intro m2 w t1 t2 t3 t4 t5 rfl
    unfold f_X6_meet_L51
    have t6 : up m2 0 12 (nI (min le v)) 0 13 = nI g - nI 1 := by rw [up_o (Or.inr (by decide))]; exact t5
    simp only [lt1_eq, t6]
    by_cases d : v + 1 ≤ g
    · have e : nI g - nI 1 = nI (g - 1) := nI_sub (by omega)
      simp (disch := omega) only [e, ile_t, ile_f, ilt_t, ilt_f, ieq_t, ieq_f, gd_nI, gn_nI, gz_nI, b1_some, bd_some, lt1_eq, nI_add, nI_mul, nI_clamp, if_true, if_false]
      refine ⟨_, rfl, (t1.tr (SE.up0 (by decide))).tr (SE.up0 (by decide)), by rw [up_c (by decide), up_c (by decide)]; exact t2.1, by rw [up_c (by decide), up_c (by decide)]; exact t2.2, ?_, ?_, ?_, ?_⟩
      · rw [up_o (Or.inr (by decide)), up_o (Or.inr (by decide))]; exact t3
      · rw [up_o (Or.inr (by decide)), up_o (Or.inr (by decide))]; exact t4
      · rw [up_o (Or.inr (by decide)), up_same]
      · rw [up_same, ← e, show max g (v + 1) = g by omega]
    · have hn : ¬ nI v ≤ nI g - nI 1 := by
        by_cases g0 : g = 0
        · subst g0
          rw [Int32.le_iff_toInt_le, nI_toInt (by omega)]
          have : (nI 0 - nI 1).toInt = -1 := by decide
          omega
        · rw [nI_sub (by omega), nI_leI (by omega) (by omega)]
          omega
      rw [if_neg hn]
      refine ⟨_, rfl, (t1.tr (SE.up0 (by decide))).tr (SE.up0 (by decide)), by rw [up_c (by decide), up_c (by decide)]; exact t2.1, by rw [up_c (by decide), up_c (by decide)]; exact t2.2, ?_, ?_, ?_, ?_⟩
      · rw [up_o (Or.inr (by decide)), up_o (Or.inr (by decide))]; exact t3
      · rw [up_o (Or.inr (by decide)), up_o (Or.inr (by decide))]; exact t4
      · rw [up_o (Or.inr (by decide)), up_same]
      · rw [up_same, show max g (v + 1) = v + 1 by omega, nI_sub (by omega), Nat.add_sub_cancel]
  have key30 : ∀ w : Nat, w = (if Q q 2 ≤ v then 1 else 0) → ∃ m', f_X6_meet_L30 (nI q) (nI v) m1 (nI c) (nI w) = some (0, m') ∧ SE m m' ∧ m' 6 = m 6 ∧ m' 7 = m 7 ∧ AC m' (s + v) (c + if Q q 2 ≤ v then 1 else 0) (min le v) (max g (v + 1)) := by
    intro w hw
    unfold f_X6_meet_L30
    have t3 : up m1 0 11 (nI (c + w)) 0 12 = nI le := by rw [up_o (Or.inr (by decide))]; exact b3
    simp only [lt1_eq, nI_add, t3]
    have r1 : SE m (up m1 0 11 (nI (c + w))) := s1.tr (SE.up0 (by decide))
    have r2 : up m1 0 11 (nI (c + w)) 6 = m 6 ∧ up m1 0 11 (nI (c + w)) 7 = m 7 := ⟨by rw [up_c (by decide)]; exact b6.1, by rw [up_c (by decide)]; exact b6.2⟩
    have r3 : up m1 0 11 (nI (c + w)) 0 10 = nI (s + v) := by rw [up_o (Or.inr (by decide))]; exact b1'
    have r4 : up m1 0 11 (nI (c + w)) 0 11 = nI (c + if Q q 2 ≤ v then 1 else 0) := by rw [up_same, hw]
    have r5 : up m1 0 11 (nI (c + w)) 0 13 = nI g - nI 1 := by rw [up_o (Or.inr (by decide))]; exact b4
    by_cases d : le ≤ v
    · rw [ile_t d (by omega)]
      exact key51 _ le r1 r2 r3 r4 r5 (by omega)
    · rw [ile_f (by omega) (by omega)]
      exact key51 _ v r1 r2 r3 r4 r5 (by omega)
  simp only [e1, b1_some, b2]
  by_cases d : v < Q q 2
  · rw [ilt_t d (by omega)]
    exact key30 0 (by rw [if_neg (by omega)])
  · rw [ilt_f (by omega) (by omega)]
    exact key30 1 (by rw [if_pos (by omega)])
theorem ans57 (hI : BI nb B) (hq : q < 6) (h1 : Q q 1 < 16) (hl : Q q 2 ≤ 999) (hb : b < nb) (hh : how < 3) (hc : (Q q 1).testBit (B b 0) = true) {k43 : SM → Int32 → Int32 → Option (Int32 × SM)} {x3 : Int32} {s0 c0 l0 g0 : Nat} (hl0 : l0 ≤ 1000) (hg0 : g0 ≤ 1000) : ∀ n r m, r ≤ B b 3 → B b 3 < r + n → ZB (m 1) nb B → ZQ (m 1) nq Q → LY m nb B nb → AC m (s0 + sumTo (vl nb B b how) r) (c0 + sumTo (fun r => if Q q 2 ≤ vl nb B b how r then 1 else 0) r) (minB l0 (vl nb B b how) r) (maxB g0 (fun r => vl nb B b how r + 1) r) → ∃ m', f_X6_answer_L57 k43 (nI q) (nI how) n m x3 (nI b) (nI r) = k43 m' x3 (nI (b + 1)) ∧ SE m m' ∧ LY m' nb B nb ∧ AC m' (s0 + sumTo (vl nb B b how) (B b 3)) (c0 + sumTo (fun r => if Q q 2 ≤ vl nb B b how r then 1 else 0) (B b 3)) (minB l0 (vl nb B b how) (B b 3)) (maxB g0 (fun r => vl nb B b how r + 1) (B b 3)) := by
  have hn := hI.1
  have hbi := hI.2 b hb
  intro n
  induction n with
  | zero => intro r m h2 h3; omega
  | succ n ih =>
    intro r m h2 h3 hB hQ hL hA
    rw [f_X6_answer_L57.eq_2]
    have e1 := of_s (k := 3) hB (b := b) (by omega) (by decide)
    by_cases c : r = B b 3
    · rw [c] at hA ⊢
      simp (disch := omega) only [ile_t, ile_f, ilt_t, ilt_f, ieq_t, ieq_f, gd_nI, gn_nI, gz_nI, b1_some, bd_some, lt1_eq, nI_add, nI_mul, nI_clamp, if_true, if_false, e1]
      unfold f_X6_answer_L122
      rw [nI_add]
      exact ⟨m, rfl, SE.rf, hL, hA⟩
    · have e2 := isOf_s hB hQ (b := b) (q := q) (by omega) hq h1 hbi.1
      rw [if_pos hc] at e2
      have e3 := of_s (k := 4) hB (b := b) (by omega) (by decide)
      have hvl := vl_le (how := how) hI hb (r := r) (by omega)
      have hle := (minB_le (f := vl nb B b how) (a := l0) r).1
      have hge := maxB_bound (f := fun r => vl nb B b how r + 1) (a := g0) (c := 1000) hg0 r (fun i hi => by have := vl_le (how := how) hI hb (r := i) (by omega); show vl nb B b how i + 1 ≤ 1000; omega)
      obtain ⟨m1, g1, g2, g6, g7, g3⟩ := meet_s (v := vl nb B b how r) hQ hq hl hvl (by omega) hge hA
      obtain ⟨m', p1, p2, p3, p4⟩ := ih (r + 1) m1 (by omega) (by omega) (by rw [g2.2]; exact hB) (by rw [g2.2]; exact hQ) (fun l hl => by rw [g6, g7]; exact hL l hl) (by
        obtain ⟨w1, w2, w3, w4⟩ := g3
        exact ⟨by rw [w1, Nat.add_assoc]; rfl, by rw [w2, Nat.add_assoc]; rfl, by rw [w3]; rfl, by rw [w4]; rfl⟩)
      refine ⟨m', ?_, g2.tr p2, p3, p4⟩
      rw [← p1]
      by_cases d : r < B b 4
      · have e4 := of_s (k := 5 + r) hB (b := b) (by omega) (by omega)
        have ev : vl nb B b how r = B b (5 + r) := by unfold vl; rw [if_pos d]
        rw [ev] at g1
        simp (disch := omega) only [ile_t, ile_f, ilt_t, ilt_f, ieq_t, ieq_f, gd_nI, gn_nI, gz_nI, b1_some, bd_some, lt1_eq, nI_add, nI_mul, nI_clamp, if_true, if_false, e1, e2, e3, e4]
        unfold f_X6_answer_L113
        simp only [g1, bd_some, nI_add]
      · have e4 := taken_s hI hB hL hb hh
        have ev : vl nb B b how r = tk nb B b how := by unfold vl; rw [if_neg d]
        rw [ev] at g1
        simp (disch := omega) only [ile_t, ile_f, ilt_t, ilt_f, ieq_t, ieq_f, gd_nI, gn_nI, gz_nI, b1_some, bd_some, lt1_eq, nI_add, nI_mul, nI_clamp, if_true, if_false, e1, e2, e3, e4]
        unfold f_X6_answer_L113
        simp only [g1, bd_some, nI_add]
theorem ans43 (hI : BI nb B) (hq : q < 6) (h1 : Q q 1 < 16) (hl : Q q 2 ≤ 999) (hh : how < 3) {x3 : Int32} : ∀ n i m, i ≤ nb → nb < i + n → ZB (m 1) nb B → ZQ (m 1) nq Q → LY m nb B nb → AC m (aS nb B (Q q 1) how i) (aC nb B (Q q 1) (Q q 2) how i) (aL nb B (Q q 1) how i) (aG nb B (Q q 1) how i) → ∃ m', f_X6_answer_L43 (nI q) (nI how) n m x3 (nI i) = f_X6_answer_L128 (nI q) (nI how) m' x3 ∧ SE m m' ∧ AC m' (aS nb B (Q q 1) how nb) (aC nb B (Q q 1) (Q q 2) how nb) (aL nb B (Q q 1) how nb) (aG nb B (Q q 1) how nb) := by
  have hn := hI.1
  intro n
  induction n with
  | zero => intro i m h2 h3; omega
  | succ n ih =>
    intro i m h2 h3 hB hQ hL hA
    rw [f_X6_answer_L43.eq_2]
    by_cases c : i = nb
    · subst c
      simp (disch := omega) only [ile_t, ile_f, ilt_t, ilt_f, ieq_t, ieq_f, gd_nI, gn_nI, gz_nI, b1_some, bd_some, lt1_eq, nI_add, nI_mul, nI_clamp, if_true, if_false, hB.1]
      exact ⟨m, rfl, SE.rf, hA⟩
    · have hbi := hI.2 i (by omega)
      simp (disch := omega) only [ile_t, ile_f, ilt_t, ilt_f, ieq_t, ieq_f, gd_nI, gn_nI, gz_nI, b1_some, bd_some, lt1_eq, nI_add, nI_mul, nI_clamp, if_true, if_false, hB.1]
      have t1 : aS nb B (Q q 1) how (i + 1) = aS nb B (Q q 1) how i + (if (Q q 1).testBit (B i 0) then sumTo (vl nb B i how) (B i 3) else 0) := rfl
      have t2 : aC nb B (Q q 1) (Q q 2) how (i + 1) = aC nb B (Q q 1) (Q q 2) how i + (if (Q q 1).testBit (B i 0) then sumTo (fun r => if Q q 2 ≤ vl nb B i how r then 1 else 0) (B i 3) else 0) := rfl
      have t3 : aL nb B (Q q 1) how (i + 1) = if (Q q 1).testBit (B i 0) then minB (aL nb B (Q q 1) how i) (vl nb B i how) (B i 3) else aL nb B (Q q 1) how i := rfl
      have t4 : aG nb B (Q q 1) how (i + 1) = if (Q q 1).testBit (B i 0) then maxB (aG nb B (Q q 1) how i) (fun r => vl nb B i how r + 1) (B i 3) else aG nb B (Q q 1) how i := rfl
      by_cases d : (Q q 1).testBit (B i 0) = true
      · rw [if_pos d] at t1 t2 t3 t4
        obtain ⟨m1, g1, g2, g3, g4⟩ := ans57 (k43 := f_X6_answer_L43 (nI q) (nI how) n) (x3 := x3) hI hq h1 hl (b := i) (by omega) hh d (aL_le i) (aG_le hI i (by omega)) FU 0 m (by omega) (by rw [FU_eq]; omega) hB hQ hL hA
        obtain ⟨m', p1, p2, p3⟩ := ih (i + 1) m1 (by omega) (by omega) (by rw [g2.2]; exact hB) (by rw [g2.2]; exact hQ) g3 (by rw [t1, t2, t3, t4]; exact g4)
        exact ⟨m', by rw [g1]; exact p1, g2.tr p2, p3⟩
      · rw [if_neg d] at t1 t2 t3 t4
        have e1 := of_s (k := 3) hB (b := i) (by omega) (by decide)
        have e2 := isOf_s hB hQ (b := i) (q := q) (by omega) hq h1 hbi.1
        rw [if_neg d] at e2
        obtain ⟨m', p1, p2, p3⟩ := ih (i + 1) m (by omega) (by omega) hB hQ hL (by rw [t1, t2, t3, t4]; exact hA)
        refine ⟨m', ?_, p2, p3⟩
        rw [← p1, show FU = 999 + 1 from rfl, f_X6_answer_L57.eq_2]
        simp (disch := omega) only [ile_t, ile_f, ilt_t, ilt_f, ieq_t, ieq_f, gd_nI, gn_nI, gz_nI, b1_some, bd_some, lt1_eq, nI_add, nI_mul, nI_clamp, if_true, if_false, e1, e2]
        unfold f_X6_answer_L122
        rw [nI_add]
theorem answer_0 (hI : BI nb B) (hQQ : QQ nq Q) (hB : ZB (m 1) nb B) (hQ : ZQ (m 1) nq Q) (hq : q < nq) (hr : rQ nb B (Q q 1) 3 = 0) : f_X6_answer m (nI q) (nI how) = some (-5, m) := by
  have hq6 := hQQ.1
  have hqq := hQQ.2 q hq
  have e1 := rowsOf_s (k := 3) hB hQ hI (q := q) (by omega) (by omega) (by decide)
  unfold f_X6_answer
  rw [hr] at e1
  simp (disch := omega) only [ile_t, ile_f, ilt_t, ilt_f, ieq_t, ieq_f, gd_nI, gn_nI, gz_nI, b1_some, bd_some, lt1_eq, nI_add, nI_mul, nI_clamp, if_true, if_false, e1]
theorem answer_s (hI : BI nb B) (hQQ : QQ nq Q) (hB : ZB (m 1) nb B) (hQ : ZQ (m 1) nq Q) (hq : q < nq) (hh : how < 3) (hr : rQ nb B (Q q 1) 3 ≠ 0) : ∃ m', f_X6_answer m (nI q) (nI how) = some (nI (ans nb B (Q q) how), m') ∧ SE m m' := by
  have hq6 := hQQ.1
  have hqq := hQQ.2 q hq
  have e1 := rowsOf_s (k := 3) hB hQ hI (q := q) (by omega) (by omega) (by decide)
  have hrl : rQ nb B (Q q 1) 3 ≤ 128 := rQ_le hI (Or.inl rfl) (Nat.le_refl _)
  obtain ⟨m1, g1, g2, g3⟩ := layReads_s hI hB
  unfold f_X6_answer
  simp (disch := omega) only [ile_t, ile_f, ilt_t, ilt_f, ieq_t, ieq_f, gd_nI, gn_nI, gz_nI, b1_some, bd_some, lt1_eq, nI_add, nI_mul, nI_clamp, if_true, if_false, e1, g1]
  generalize hm2 : up (up (up (up m1 0 10 (nI 0)) 0 11 (nI 0)) 0 12 (nI 1000)) 0 13 (-1) = m2
  have s2 : SE m1 m2 := by
    rw [← hm2]
    exact (((SE.up0 (by decide)).tr (SE.up0 (by decide))).tr (SE.up0 (by decide))).tr (SE.up0 (by decide))
  have s3 := g2.tr s2
  have hL2 : LY m2 nb B nb := fun l hl => by
    rw [← hm2, up_c (by decide), up_c (by decide), up_c (by decide), up_c (by decide)]
    rw [up_c (by decide), up_c (by decide), up_c (by decide), up_c (by decide)]
    exact g3 l hl
  have hA2 : AC m2 0 0 1000 0 := by
    rw [← hm2]
    refine ⟨?_, ?_, ?_, ?_⟩
    · rw [up_o (Or.inr (by decide)), up_o (Or.inr (by decide)), up_o (Or.inr (by decide)), up_same]
    · rw [up_o (Or.inr (by decide)), up_o (Or.inr (by decide)), up_same]
    · rw [up_o (Or.inr (by decide)), up_same]
    · rw [up_same]; decide
  obtain ⟨m', p1, p2, p3⟩ := ans43 (x3 := nI (rQ nb B (Q q 1) 3)) hI (q := q) (by omega) (by omega) hqq.2.2.2.1 hh FU 0 m2 (by omega) (by rw [FU_eq]; have := hI.1; omega) (by rw [s3.2]; exact hB) (by rw [s3.2]; exact hQ) hL2 hA2
  refine ⟨m', ?_, s3.tr p2⟩
  rw [p1]
  unfold f_X6_answer_L128
  have e2 := asked_s (m := m') (k := 0) (nq := nq) (Q := Q) (by rw [(s3.tr p2).2]; exact hQ) (q := q) (by omega) (by decide)
  obtain ⟨a1, a2, a3, a4⟩ := p3
  have hga := aG_pos (ls := Q q 1) (how := how) hI nb (Nat.le_refl _) hr
  have hS := aS_le (ls := Q q 1) (how := how) hI (Nat.le_refl nb)
  rw [nI_sub hga] at a4
  unfold ans
  have hk : Q q 0 = 0 ∨ Q q 0 = 1 ∨ Q q 0 = 2 ∨ Q q 0 = 3 ∨ Q q 0 = 4 := by omega
  rcases hk with hk | hk | hk | hk | hk
  · rw [hk] at e2 ⊢
    simp (disch := omega) only [ile_t, ile_f, ilt_t, ilt_f, ieq_t, ieq_f, gd_nI, gn_nI, gz_nI, b1_some, bd_some, lt1_eq, nI_add, nI_mul, nI_clamp, if_true, if_false, e2, a1]
    try rfl
  · rw [hk] at e2 ⊢
    simp (disch := omega) only [ile_t, ile_f, ilt_t, ilt_f, ieq_t, ieq_f, gd_nI, gn_nI, gz_nI, b1_some, bd_some, lt1_eq, nI_add, nI_mul, nI_clamp, if_true, if_false, e2, a2]
    try rfl
  · rw [hk] at e2 ⊢
    simp (disch := omega) only [ile_t, ile_f, ilt_t, ilt_f, ieq_t, ieq_f, gd_nI, gn_nI, gz_nI, b1_some, bd_some, lt1_eq, nI_add, nI_mul, nI_clamp, if_true, if_false, e2, a3]
    try rfl
  · rw [hk] at e2 ⊢
    simp (disch := omega) only [ile_t, ile_f, ilt_t, ilt_f, ieq_t, ieq_f, gd_nI, gn_nI, gz_nI, b1_some, bd_some, lt1_eq, nI_add, nI_mul, nI_clamp, if_true, if_false, e2, a4]
    try rfl
  · rw [hk] at e2 ⊢
    simp (disch := omega) only [ile_t, ile_f, ilt_t, ilt_f, ieq_t, ieq_f, gd_nI, gn_nI, gz_nI, b1_some, bd_some, lt1_eq, nI_add, nI_mul, nI_clamp, if_true, if_false, e2, a1, nI_div]
    try rfl
end MB
