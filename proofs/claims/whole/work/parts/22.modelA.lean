/-! THE REFERENCE: its row of numbers holds a state -/
def ZB (z : Nat → Int32) (nb : Nat) (B : BK) : Prop := z 0 = nI nb ∧ ∀ b k, b < 8 → k < 21 → z (4 + 21 * b + k) = nI (B b k)
def ZQ (z : Nat → Int32) (nq : Nat) (Q : BK) : Prop := z 1 = nI nq ∧ ∀ q k, q < 6 → k < 8 → z (172 + 8 * q + k) = nI (Q q k)
def ZH (z : Nat → Int32) (pl tu : Nat) : Prop := z 2 = nI pl ∧ z 3 = nI tu
def upB (B : BK) (b k v : Nat) : BK := fun b' k' => if b' = b ∧ k' = k then v else B b' k'
/-- all but z and what is scratch -/
def SX (m m' : SM) : Prop := m' 2 = m 2 ∧ m' 3 = m 3 ∧ m' 4 = m 4 ∧ m' 5 = m 5 ∧ m' 0 3 = m 0 3 ∧ m' 0 4 = m 0 4 ∧ m' 0 7 = m 0 7
/-- all but what is scratch -/
def SE (m m' : SM) : Prop := SX m m' ∧ m' 1 = m 1
theorem SX.rf {m : SM} : SX m m := ⟨rfl, rfl, rfl, rfl, rfl, rfl, rfl⟩
theorem SX.tr {m m1 m2 : SM} (h : SX m m1) (h2 : SX m1 m2) : SX m m2 := by
  obtain ⟨a1, a2, a3, a4, a5, a6, a7⟩ := h
  obtain ⟨b1, b2, b3, b4, b5, b6, b7⟩ := h2
  exact ⟨b1.trans a1, b2.trans a2, b3.trans a3, b4.trans a4, b5.trans a5, b6.trans a6, b7.trans a7⟩
theorem SE.rf {m : SM} : SE m m := ⟨SX.rf, rfl⟩
theorem SE.tr {m m1 m2 : SM} (h : SE m m1) (h2 : SE m1 m2) : SE m m2 := ⟨h.1.tr h2.1, h2.2.trans h.2⟩
theorem SX.up1 {m : SM} {k : Nat} {v : Int32} : SX m (up m 1 k v) := ⟨up_c (by decide), up_c (by decide), up_c (by decide), up_c (by decide), up_o (Or.inl (by decide)), up_o (Or.inl (by decide)), up_o (Or.inl (by decide))⟩
theorem SE.upC {m : SM} {c k : Nat} {v : Int32} (hc : 6 ≤ c) : SE m (up m c k v) := ⟨⟨up_c (by omega), up_c (by omega), up_c (by omega), up_c (by omega), up_o (Or.inl (by omega)), up_o (Or.inl (by omega)), up_o (Or.inl (by omega))⟩, up_c (by omega)⟩
theorem SE.up0 {m : SM} {k : Nat} {v : Int32} (hk : 8 ≤ k) : SE m (up m 0 k v) := ⟨⟨up_c (by omega), up_c (by omega), up_c (by omega), up_c (by omega), up_o (Or.inr (by omega)), up_o (Or.inr (by omega)), up_o (Or.inr (by omega))⟩, up_c (by omega)⟩
section MA
variable {m : SM} {nb nq pl tu b q k how : Nat} {B Q : BK}
theorem FU_eq : FU = 1000 := rfl
theorem of_s (h : ZB (m 1) nb B) (hb : b < 8) (hk : k < 21) : f_X6_of m (nI b) (nI k) = some (nI (B b k)) := by
  unfold f_X6_of
  simp (disch := omega) only [ile_t, ile_f, ilt_t, ilt_f, ieq_t, ieq_f, gd_nI, gn_nI, gz_nI, b1_some, bd_some, lt1_eq, nI_add, nI_mul, nI_clamp]
  rw [h.2 b k hb hk]
theorem asked_s (h : ZQ (m 1) nq Q) (hq : q < 6) (hk : k < 8) : f_X6_asked m (nI q) (nI k) = some (nI (Q q k)) := by
  unfold f_X6_asked
  simp (disch := omega) only [ile_t, ile_f, ilt_t, ilt_f, ieq_t, ieq_f, gd_nI, gn_nI, gz_nI, b1_some, bd_some, lt1_eq, nI_add, nI_mul, nI_clamp]
  rw [h.2 q k hq hk]
theorem put_s {v : Int32} (hb : b < 8) (hk : k < 21) : f_X6_put m (nI b) (nI k) v = some (0, up m 1 (4 + 21 * b + k) v) := by
  unfold f_X6_put
  simp (disch := omega) only [ile_t, ile_f, ilt_t, ilt_f, ieq_t, ieq_f, gd_nI, gn_nI, gz_nI, b1_some, bd_some, lt1_eq, nI_add, nI_mul, nI_clamp]
theorem putAsked_s {v : Int32} (hq : q < 6) (hk : k < 8) : f_X6_putAsked m (nI q) (nI k) v = some (0, up m 1 (172 + 8 * q + k) v) := by
  unfold f_X6_putAsked
  simp (disch := omega) only [ile_t, ile_f, ilt_t, ilt_f, ieq_t, ieq_f, gd_nI, gn_nI, gz_nI, b1_some, bd_some, lt1_eq, nI_add, nI_mul, nI_clamp]
theorem ZB.put {v : Nat} (h : ZB (m 1) nb B) (hk : k < 21) : ZB (up m 1 (4 + 21 * b + k) (nI v) 1) nb (upB B b k v) := by
  refine ⟨by rw [up_o (Or.inr (by omega))]; exact h.1, fun b' k' hb' hk' => ?_⟩
  unfold upB
  by_cases c : b' = b ∧ k' = k
  · obtain ⟨rfl, rfl⟩ := c
    rw [up_same, if_pos ⟨rfl, rfl⟩]
  · rw [up_o (Or.inr (by omega)), if_neg c]
    exact h.2 b' k' hb' hk'
theorem ZB.putQ {v : Int32} (h : ZB (m 1) nb B) : ZB (up m 1 (172 + k) v 1) nb B :=
  ⟨by rw [up_o (Or.inr (by omega))]; exact h.1, fun b' k' hb' hk' => by rw [up_o (Or.inr (by omega))]; exact h.2 b' k' hb' hk'⟩
theorem ZQ.put {v : Nat} (h : ZQ (m 1) nq Q) (hk : k < 8) : ZQ (up m 1 (172 + 8 * q + k) (nI v) 1) nq (upB Q q k v) := by
  refine ⟨by rw [up_o (Or.inr (by omega))]; exact h.1, fun b' k' hb' hk' => ?_⟩
  unfold upB
  by_cases c : b' = q ∧ k' = k
  · obtain ⟨rfl, rfl⟩ := c
    rw [up_same, if_pos ⟨rfl, rfl⟩]
  · rw [up_o (Or.inr (by omega)), if_neg c]
    exact h.2 b' k' hb' hk'
theorem ZQ.putB {v : Int32} (h : ZQ (m 1) nq Q) (hb : b < 8) (hk : k < 21) : ZQ (up m 1 (4 + 21 * b + k) v 1) nq Q :=
  ⟨by rw [up_o (Or.inr (by omega))]; exact h.1, fun b' k' hb' hk' => by rw [up_o (Or.inr (by omega))]; exact h.2 b' k' hb' hk'⟩
theorem ZH.put {v : Int32} (h : ZH (m 1) pl tu) (hk : 4 ≤ k) : ZH (up m 1 k v 1) pl tu :=
  ⟨by rw [up_o (Or.inr (by omega))]; exact h.1, by rw [up_o (Or.inr (by omega))]; exact h.2⟩
theorem allOf_L {k : Nat} (h : ZB (m 1) nb B) (hn : nb ≤ 8) (hk : k < 21) : ∀ n i, i ≤ nb → nb < i + n → f_X6_allOf_L4 m (nI k) n (nI (sumTo (fun b => B b k) i)) (nI i) = some (nI (sumTo (fun b => B b k) nb)) := by
  intro n
  induction n with
  | zero => intro i h1 h2; omega
  | succ n ih =>
    intro i h1 h2
    rw [f_X6_allOf_L4.eq_2]
    by_cases c : i = nb
    · subst c
      simp (disch := omega) only [ile_t, ile_f, ilt_t, ilt_f, ieq_t, ieq_f, gd_nI, gn_nI, gz_nI, b1_some, bd_some, lt1_eq, nI_add, nI_mul, nI_clamp, h.1]
    · have e := of_s (k := k) h (b := i) (by omega) hk
      simp (disch := omega) only [ile_t, ile_f, ilt_t, ilt_f, ieq_t, ieq_f, gd_nI, gn_nI, gz_nI, b1_some, bd_some, lt1_eq, nI_add, nI_mul, nI_clamp, h.1, e]
      exact ih (i + 1) (by omega) (by omega)
theorem allOf_s {k : Nat} (h : ZB (m 1) nb B) (hn : nb ≤ 8) (hk : k < 21) : f_X6_allOf m (nI k) = some (nI (sumTo (fun b => B b k) nb)) :=
  allOf_L h hn hk FU 0 (by omega) (by rw [FU_eq]; omega)
theorem sumRead_L (h : ZB (m 1) nb B) (hb : b < 8) (hr : B b 4 ≤ 16) : ∀ n i, i ≤ B b 4 → B b 4 < i + n → f_X6_sumRead_L4 m (nI b) n (nI (sumTo (fun r => B b (5 + r)) i)) (nI i) = some (nI (sRd B b)) := by
  intro n
  induction n with
  | zero => intro i h1 h2; omega
  | succ n ih =>
    intro i h1 h2
    have e1 := of_s (k := 4) h hb (by decide)
    rw [f_X6_sumRead_L4.eq_2]
    by_cases c : i = B b 4
    · subst c
      simp (disch := omega) only [ile_t, ile_f, ilt_t, ilt_f, ieq_t, ieq_f, gd_nI, gn_nI, gz_nI, b1_some, bd_some, lt1_eq, nI_add, nI_mul, nI_clamp, e1]
      rfl
    · have e2 := of_s (k := 5 + i) h hb (by omega)
      simp (disch := omega) only [ile_t, ile_f, ilt_t, ilt_f, ieq_t, ieq_f, gd_nI, gn_nI, gz_nI, b1_some, bd_some, lt1_eq, nI_add, nI_mul, nI_clamp, e1, e2]
      exact ih (i + 1) (by omega) (by omega)
theorem sumRead_s (h : ZB (m 1) nb B) (hb : b < 8) (hr : B b 4 ≤ 16) : f_X6_sumRead m (nI b) = some (nI (sRd B b)) :=
  sumRead_L h hb hr FU 0 (by omega) (by rw [FU_eq]; omega)
theorem isOf_s (hB : ZB (m 1) nb B) (hQ : ZQ (m 1) nq Q) (hb : b < 8) (hq : q < 6) (h1 : Q q 1 < 16) (h2 : B b 0 < 4) : f_X6_isOf m (nI q) (nI b) = some (if (Q q 1).testBit (B b 0) then nI 1 else nI 0) := by
  unfold f_X6_isOf
  have e1 := asked_s (k := 1) hQ hq (by decide)
  have e2 := of_s (k := 0) hB hb (by decide)
  simp only [e1, e2, b1_some, cov_nI _ h1 _ h2]
  by_cases c : (Q q 1).testBit (B b 0) = true
  · simp only [c, if_true]
  · simp only [c, if_false]
    rfl
theorem rowsOf_L {k : Nat} (hB : ZB (m 1) nb B) (hQ : ZQ (m 1) nq Q) (hI : BI nb B) (hq : q < 6) (h1 : Q q 1 < 16) (hk : k < 21) : ∀ n i, i ≤ nb → nb < i + n → f_X6_rowsOf_L5 m (nI q) (nI k) n (nI (sumTo (fun b => if (Q q 1).testBit (B b 0) then B b k else 0) i)) (nI i) = some (nI (rQ nb B (Q q 1) k)) := by
  have hn := hI.1
  intro n
  induction n with
  | zero => intro i h1 h2; omega
  | succ n ih =>
    intro i h2 h3
    rw [f_X6_rowsOf_L5.eq_2]
    by_cases c : i = nb
    · subst c
      simp (disch := omega) only [ile_t, ile_f, ilt_t, ilt_f, ieq_t, ieq_f, gd_nI, gn_nI, gz_nI, b1_some, bd_some, lt1_eq, nI_add, nI_mul, nI_clamp, hB.1]
      rfl
    · have e1 := isOf_s hB hQ (b := i) (q := q) (by omega) hq h1 (hI.2 i (by omega)).1
      have e2 := of_s (k := k) hB (b := i) (by omega) hk
      have ih2 := ih (i + 1) (by omega) (by omega)
      have es : sumTo (fun b => if (Q q 1).testBit (B b 0) then B b k else 0) (i + 1) = sumTo (fun b => if (Q q 1).testBit (B b 0) then B b k else 0) i + (if (Q q 1).testBit (B i 0) then B i k else 0) := rfl
      rw [es] at ih2
      by_cases d : (Q q 1).testBit (B i 0) = true
      · rw [if_pos d] at e1 ih2
        simp (disch := omega) only [ile_t, ile_f, ilt_t, ilt_f, ieq_t, ieq_f, gd_nI, gn_nI, gz_nI, b1_some, bd_some, lt1_eq, nI_add, nI_mul, nI_clamp, hB.1, e1, e2]
        exact ih2
      · rw [if_neg d] at e1 ih2
        simp (disch := omega) only [ile_t, ile_f, ilt_t, ilt_f, ieq_t, ieq_f, gd_nI, gn_nI, gz_nI, b1_some, bd_some, lt1_eq, nI_add, nI_mul, nI_clamp, hB.1, e1]
        exact ih2
theorem rowsOf_s {k : Nat} (hB : ZB (m 1) nb B) (hQ : ZQ (m 1) nq Q) (hI : BI nb B) (hq : q < 6) (h1 : Q q 1 < 16) (hk : k < 21) : f_X6_rowsOf m (nI q) (nI k) = some (nI (rQ nb B (Q q 1) k)) := by
  have hn := hI.1
  exact rowsOf_L hB hQ hI hq h1 hk FU 0 (by omega) (by rw [FU_eq]; omega)
/-! the reads by layers -/
def LY (m : SM) (nb : Nat) (B : BK) (i : Nat) : Prop := ∀ l, l < 4 → m 6 l = nI (sumTo (fun b => if B b 0 = l then sRd B b else 0) i) ∧ m 7 l = nI (sumTo (fun b => if B b 0 = l then B b 4 else 0) i)
theorem lay29 (hI : BI nb B) : ∀ n i m, i ≤ nb → nb < i + n → ZB (m 1) nb B → LY m nb B i → ∃ m', f_X6_layReads_L29 n m (nI i) = some (0, m') ∧ SE m m' ∧ LY m' nb B nb := by
  have hn := hI.1
  intro n
  induction n with
  | zero => intro i m h1 h2; omega
  | succ n ih =>
    intro i m h1 h2 hB hL
    rw [f_X6_layReads_L29.eq_2]
    by_cases c : i = nb
    · subst c
      simp (disch := omega) only [ile_t, ile_f, ilt_t, ilt_f, ieq_t, ieq_f, gd_nI, gn_nI, gz_nI, b1_some, bd_some, lt1_eq, nI_add, nI_mul, nI_clamp, hB.1]
      exact ⟨m, rfl, SE.rf, hL⟩
    · have hbi := hI.2 i (by omega)
      have e1 := of_s (k := 0) hB (b := i) (by omega) (by decide)
      have e2 := sumRead_s hB (b := i) (by omega) (by omega)
      obtain ⟨l1, l2⟩ := hL (B i 0) hbi.1
      simp (disch := omega) only [ile_t, ile_f, ilt_t, ilt_f, ieq_t, ieq_f, gd_nI, gn_nI, gz_nI, b1_some, bd_some, lt1_eq, nI_add, nI_mul, nI_clamp, hB.1, e1, e2, l1]
      generalize hm1 : up m 6 (B i 0) (nI (sumTo (fun b => if B b 0 = B i 0 then sRd B b else 0) i + sRd B i)) = m1
      have s1 : SE m m1 := by rw [← hm1]; exact SE.upC (by decide)
      have hB1 : ZB (m1 1) nb B := by rw [s1.2]; exact hB
      have e3 := of_s (k := 0) hB1 (b := i) (by omega) (by decide)
      have e4 := of_s (k := 4) hB1 (b := i) (by omega) (by decide)
      have l3 : m1 7 (B i 0) = m 7 (B i 0) := by rw [← hm1, up_o (Or.inl (by decide))]
      simp (disch := omega) only [ile_t, ile_f, ilt_t, ilt_f, ieq_t, ieq_f, gd_nI, gn_nI, gz_nI, b1_some, bd_some, lt1_eq, nI_add, nI_mul, nI_clamp, e3, e4, l3, l2]
      generalize hm2 : up m1 7 (B i 0) (nI (sumTo (fun b => if B b 0 = B i 0 then B b 4 else 0) i + B i 4)) = m2
      have s2 : SE m1 m2 := by rw [← hm2]; exact SE.upC (by decide)
      obtain ⟨m', g1, g2, g3⟩ := ih (i + 1) m2 (by omega) (by omega) (by rw [s2.2]; exact hB1) (fun l hl => by
        obtain ⟨w1, w2⟩ := hL l hl
        have es : sumTo (fun b => if B b 0 = l then sRd B b else 0) (i + 1) = sumTo (fun b => if B b 0 = l then sRd B b else 0) i + (if B i 0 = l then sRd B i else 0) := rfl
        have et : sumTo (fun b => if B b 0 = l then B b 4 else 0) (i + 1) = sumTo (fun b => if B b 0 = l then B b 4 else 0) i + (if B i 0 = l then B i 4 else 0) := rfl
        rw [es, et]
        by_cases d : B i 0 = l
        · subst d
          rw [if_pos rfl, if_pos rfl]
          refine ⟨?_, by rw [← hm2, up_same]⟩
          rw [← hm2, up_o (Or.inl (by decide)), ← hm1, up_same]
        · rw [if_neg d, if_neg d]
          refine ⟨?_, ?_⟩
          · rw [← hm2, up_o (Or.inl (by decide)), ← hm1, up_o (Or.inr (Ne.symm d))]
            exact w1
          · rw [← hm2, up_o (Or.inr (Ne.symm d)), ← hm1, up_o (Or.inl (by decide))]
            exact w2)
      exact ⟨m', g1, (s1.tr s2).tr g2, g3⟩
theorem lay2 (hI : BI nb B) : ∀ n i m, i ≤ 4 → 4 < i + n → ZB (m 1) nb B → (∀ l, l < i → m 6 l = nI 0 ∧ m 7 l = nI 0) → ∃ m', f_X6_layReads_L2 n m (nI i) = some (0, m') ∧ SE m m' ∧ LY m' nb B nb := by
  have hn := hI.1
  intro n
  induction n with
  | zero => intro i m h1 h2; omega
  | succ n ih =>
    intro i m h1 h2 hB hL
    rw [f_X6_layReads_L2.eq_2]
    by_cases c : i = 4
    · subst c
      simp (disch := omega) only [ile_t, ile_f, ilt_t, ilt_f, ieq_t, ieq_f, gd_nI, gn_nI, gz_nI, b1_some, bd_some, lt1_eq, nI_add, nI_mul, nI_clamp]
      exact lay29 hI FU 0 m (by omega) (by rw [FU_eq]; omega) hB (fun l hl => hL l hl)
    · simp (disch := omega) only [ile_t, ile_f, ilt_t, ilt_f, ieq_t, ieq_f, gd_nI, gn_nI, gz_nI, b1_some, bd_some, lt1_eq, nI_add, nI_mul, nI_clamp]
      obtain ⟨m', g1, g2, g3⟩ := ih (i + 1) (up (up m 6 i (nI 0)) 7 i (nI 0)) (by omega) (by omega) (by rw [up_c (by decide), up_c (by decide)]; exact hB) (fun l hl => by
        by_cases d : l = i
        · subst d
          exact ⟨by rw [up_o (Or.inl (by decide)), up_same], by rw [up_same]⟩
        · obtain ⟨w1, w2⟩ := hL l (by omega)
          exact ⟨by rw [up_o (Or.inl (by decide)), up_o (Or.inr d)]; exact w1, by rw [up_o (Or.inr d), up_o (Or.inl (by decide))]; exact w2⟩)
      exact ⟨m', g1, ((SE.upC (by decide)).tr (SE.upC (by decide))).tr g2, g3⟩
theorem layReads_s (hI : BI nb B) (hB : ZB (m 1) nb B) : ∃ m', f_X6_layReads m = some (0, m') ∧ SE m m' ∧ LY m' nb B nb :=
  lay2 hI FU 0 m (by omega) (by rw [FU_eq]; omega) hB (fun l hl => by omega)
theorem taken_s (hI : BI nb B) (hB : ZB (m 1) nb B) (hL : LY m nb B nb) (hb : b < nb) (hh : how < 3) : f_X6_taken m (nI b) (nI how) = some (nI (tk nb B b how)) := by
  have hn := hI.1
  have hbi := hI.2 b hb
  unfold f_X6_taken tk
  by_cases c : how = 2
  · subst c
    have e0 := of_s (k := 0) hB (b := b) (by omega) (by decide)
    have e1 := of_s (k := 1) hB (b := b) (by omega) (by decide)
    have e2 := of_s (k := 2) hB (b := b) (by omega) (by decide)
    obtain ⟨l1, l2⟩ := hL (B b 0) hbi.1
    have q1 := lS_le (l := B b 0) hI (Nat.le_refl nb)
    have q2 := lM_le (l := B b 0) hI (Nat.le_refl nb)
    have t1 : ¬ (2 : Nat) = 0 := by decide
    have t2 : ¬ (2 : Nat) = 1 := by decide
    simp (disch := omega) only [ile_t, ile_f, ilt_t, ilt_f, ieq_t, ieq_f, gd_nI, gn_nI, gz_nI, b1_some, bd_some, lt1_eq, nI_add, nI_mul, nI_clamp, e0, l2, t1, t2, if_false]
    have w1 : sumTo (fun x => if B x 0 = B b 0 then sRd B x else 0) nb = lS nb B (B b 0) := rfl
    have w2 : sumTo (fun x => if B x 0 = B b 0 then B x 4 else 0) nb = lM nb B (B b 0) := rfl
    rw [w1] at q1 l1
    rw [w2] at q2 l2 ⊢
    by_cases d : lM nb B (B b 0) = 0
    · rw [if_pos d]
      simp (disch := omega) only [ile_t, ile_f, ilt_t, ilt_f, ieq_t, ieq_f, gd_nI, gn_nI, gz_nI, b1_some, bd_some, lt1_eq, nI_add, nI_mul, nI_clamp, e1, e2, nI_div]
    · rw [if_neg d]
      have hd : lS nb B (B b 0) / lM nb B (B b 0) ≤ lS nb B (B b 0) := Nat.div_le_self _ _
      simp (disch := omega) only [ile_t, ile_f, ilt_t, ilt_f, ieq_t, ieq_f, gd_nI, gn_nI, gz_nI, b1_some, bd_some, lt1_eq, nI_add, nI_mul, nI_clamp, e1, e2, l1, nI_div]
      by_cases d1 : lS nb B (B b 0) / lM nb B (B b 0) < B b 1
      · simp (disch := omega) only [ile_t, ile_f, ilt_t, ilt_f, ieq_t, ieq_f, gd_nI, gn_nI, gz_nI, b1_some, bd_some, lt1_eq, nI_add, nI_mul, nI_clamp]
        congr 2; omega
      · by_cases d2 : B b 2 < lS nb B (B b 0) / lM nb B (B b 0)
        · simp (disch := omega) only [ile_t, ile_f, ilt_t, ilt_f, ieq_t, ieq_f, gd_nI, gn_nI, gz_nI, b1_some, bd_some, lt1_eq, nI_add, nI_mul, nI_clamp]
          congr 2; omega
        · simp (disch := omega) only [ile_t, ile_f, ilt_t, ilt_f, ieq_t, ieq_f, gd_nI, gn_nI, gz_nI, b1_some, bd_some, lt1_eq, nI_add, nI_mul, nI_clamp]
          congr 2; omega
  · have hc : how = 0 ∨ how = 1 := by omega
    rcases hc with rfl | rfl
    · have e1 := of_s (k := 1 + 0) hB (b := b) (by omega) (by decide)
      simp (disch := omega) only [ile_t, ile_f, ilt_t, ilt_f, ieq_t, ieq_f, gd_nI, gn_nI, gz_nI, b1_some, bd_some, lt1_eq, nI_add, nI_mul, nI_clamp, e1, if_true]
    · have e1 := of_s (k := 1 + 1) hB (b := b) (by omega) (by decide)
      simp (disch := omega) only [ile_t, ile_f, ilt_t, ilt_f, ieq_t, ieq_f, gd_nI, gn_nI, gz_nI, b1_some, bd_some, lt1_eq, nI_add, nI_mul, nI_clamp, e1]
      rfl
end MA
