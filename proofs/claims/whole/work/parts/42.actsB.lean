/-! THE STEPS: narrow, forget -/
section SB
variable {m m' : SM} {nb nq pl tu b q k how ls n v t : Nat} {B B2 Q : BK} {f : Nat → Nat}
theorem minB_top (h1 : 1 ≤ n) (ht : t ≤ 999) (hf : ∀ i, i < n → f i ≤ t) : minB t f n = minB 999 f n := by
  have e : minB (min t 999) f n = min t (minB 999 f n) := minB_min n
  rw [Nat.min_eq_left ht] at e
  have h2 := (minB_le (f := f) (a := 999) n).2 0 (by omega)
  have h3 := hf 0 (by omega)
  omega
theorem maxB_max {a : Nat} : ∀ n : Nat, maxB a f n = max a (maxB 0 f n)
  | 0 => by show a = max a 0; omega
  | n + 1 => by
    have e := maxB_max (a := a) n
    show max (maxB a f n) (f n) = max a (max (maxB 0 f n) (f n))
    omega
theorem maxB_bot (h1 : 1 ≤ n) (hf : ∀ i, i < n → t ≤ f i) : maxB t f n = maxB 0 f n := by
  have e := maxB_max (f := f) (a := t) n
  have h2 := (maxB_le (f := f) (a := 0) n).2 0 (by omega)
  have h3 := hf 0 (by omega)
  omega
theorem nar_L {lo hi : Nat} (hI : BI nb B) (hz : ZB (m 1) nb B) (hb : b < nb) (hlo : lo ≤ 999) (hhi : hi ≤ 999) : ∀ n i, i ≤ B b 3 → B b 3 < i + n → f_X6_narrow_L27 (nI b) n m (nI (minB hi (fun r => B b (5 + r)) i)) (nI (maxB lo (fun r => B b (5 + r)) i)) (nI i) = f_X6_narrow_L81 (nI b) m (nI (minB hi (fun r => B b (5 + r)) (B b 3))) (nI (maxB lo (fun r => B b (5 + r)) (B b 3))) := by
  have h8 := hI.1
  have hbi := hI.2 b hb
  have o3 := of_s (k := 3) hz (b := b) (by omega) (by decide)
  intro n
  induction n with
  | zero => intro i h1 h2; omega
  | succ n ih =>
    intro i h1 h2
    rw [f_X6_narrow_L27.eq_2]
    by_cases c : i = B b 3
    · rw [← c]
      rw [← c] at o3
      simp (disch := omega) only [ile_t, ile_f, ilt_t, ilt_f, ieq_t, ieq_f, gd_nI, gn_nI, gz_nI, b1_some, bd_some, lt1_eq, nI_add, nI_mul, nI_clamp, if_true, if_false, o3]
    · have o5 := of_s (k := 5 + i) hz (b := b) (by omega) (by omega)
      have hv := hbi.2.2.2.2.2.2 i (by omega)
      have l1 := (minB_le (f := fun r => B b (5 + r)) (a := hi) i).1
      have l2 := maxB_bound (f := fun r => B b (5 + r)) (a := lo) (c := 999) hlo i (fun j hj => by have := hbi.2.2.2.2.2.2 j (by omega); show B b (5 + j) ≤ 999; omega)
      have ih2 := ih (i + 1) (by omega) (by omega)
      have em : minB hi (fun r => B b (5 + r)) (i + 1) = min (minB hi (fun r => B b (5 + r)) i) (B b (5 + i)) := rfl
      have eM : maxB lo (fun r => B b (5 + r)) (i + 1) = max (maxB lo (fun r => B b (5 + r)) i) (B b (5 + i)) := rfl
      rw [em, eM] at ih2
      have key : ∀ w : Nat, w = min (minB hi (fun r => B b (5 + r)) i) (B b (5 + i)) → f_X6_narrow_L61 (f_X6_narrow_L27 (nI b) n) (nI b) m (nI (maxB lo (fun r => B b (5 + r)) i)) (nI i) (nI (B b (5 + i))) (nI w) = f_X6_narrow_L81 (nI b) m (nI (minB hi (fun r => B b (5 + r)) (B b 3))) (nI (maxB lo (fun r => B b (5 + r)) (B b 3))) := by
        intro w hw
        rw [← hw] at ih2
        unfold f_X6_narrow_L61
        rw [nI_add]
        by_cases d : B b (5 + i) ≤ maxB lo (fun r => B b (5 + r)) i
        · rw [ile_t d (by omega)]
          rw [Nat.max_eq_left d] at ih2
          exact ih2
        · rw [ile_f (by omega) (by omega)]
          rw [Nat.max_eq_right (by omega)] at ih2
          exact ih2
      simp (disch := omega) only [ile_t, ile_f, ilt_t, ilt_f, ieq_t, ieq_f, gd_nI, gn_nI, gz_nI, b1_some, bd_some, lt1_eq, nI_add, nI_mul, nI_clamp, if_true, if_false, o3, o5]
      by_cases d : minB hi (fun r => B b (5 + r)) i ≤ B b (5 + i)
      · rw [ile_t d (by omega)]
        exact key _ (by omega)
      · rw [ile_f (by omega) (by omega)]
        exact key _ (by omega)
theorem st_narrow (a0 : Int32) : stepOK Rel (fun M => f_X5_narrow M a0) (fun m => f_X6_narrow m a0) := by
  refine mkStep fun M S hn Hs ks K tl tx hI hC hR => ?_
  obtain ⟨nb, nq, pl, tu, B, Q⟩ := S
  have hI0 : BI nb B := hI.1.1
  have hQ0 : QQ nq Q := hI.1.2.1
  have hpl : pl ≤ 2 := hI.1.2.2.1
  have htu : tu < 8 := hI.1.2.2.2.1
  have hSD : SD nb B nq Q := hI.1.2.2.2.2
  have cB : CB (M 0) nb B := hC.1.1
  have cQ : CQ (M 0) nq Q := hC.1.2.1
  have cH : CH (M 0) pl tu := hC.1.2.2.1
  have cW : CW (M 0) nb B nq Q := hC.1.2.2.2
  have zB : ZB (M 9 1) nb B := hR.1.1
  have zQ : ZQ (M 9 1) nq Q := hR.1.2.1
  have zH : ZH (M 9 1) pl tu := hR.1.2.2
  have h8 := hI0.1
  have h6 := hQ0.1
  rcases blk a0 h8 cB zB with ⟨e1, e2⟩ | ⟨b, hb, rfl, e1, e2⟩
  · refine ref_fin (r := -1) hI hC hR ?_ ?_
    · unfold f_X5_narrow
      simp (disch := omega) only [ile_t, ile_f, ilt_t, ilt_f, ieq_t, ieq_f, gd_nI, gn_nI, gz_nI, b1_some, bd_some, lt1_eq, nI_add, nI_mul, nI_clamp, if_true, if_false, e1]
    · unfold f_X6_narrow
      simp (disch := omega) only [ile_t, ile_f, ilt_t, ilt_f, ieq_t, ieq_f, gd_nI, gn_nI, gz_nI, b1_some, bd_some, lt1_eq, nI_add, nI_mul, nI_clamp, if_true, if_false, e2]
  · have hbi := hI0.2 b hb
    have hv9 : ∀ r, r < B b 3 → B b (5 + r) ≤ 999 := fun r hr => by have := hbi.2.2.2.2.2.2 r hr; omega
    obtain ⟨c1, c2, c3, c4, c5, c6, c7, c8, c9⟩ := cB.2 b hb
    have o1 := of_s (k := 1) zB (b := b) (by omega) (by decide)
    have o2 := of_s (k := 2) zB (b := b) (by omega) (by decide)
    have u1 := leastValue_s hbi.2.2.2.2.1 hv9 (cB.2 b hb)
    have u2 := greatestValue_s hbi.2.2.2.2.1 hv9 (cB.2 b hb)
    have n1 := nar_L (lo := B b 1) (hi := B b 2) hI0 zB hb (by omega) (by omega) FU 0 (Nat.zero_le _) (by rw [FU_eq]; omega)
    have n2 : f_X6_narrow_L27 (nI b) FU (M 9) (nI (B b 2)) (nI (B b 1)) (nI 0) = _ := n1
    have f1 : minB (B b 2) (fun r => B b (5 + r)) (B b 3) = minB 999 (fun r => B b (5 + r)) (B b 3) := minB_top hbi.2.2.2.1 hbi.2.2.1 (fun i hi => (hbi.2.2.2.2.2.2 i hi).2)
    have f2 : maxB (B b 1) (fun r => B b (5 + r)) (B b 3) = maxB 0 (fun r => B b (5 + r)) (B b 3) := maxB_bot hbi.2.2.2.1 (fun i hi => (hbi.2.2.2.2.2.2 i hi).1)
    rw [f1, f2] at n2
    have l1 := minB_le (f := fun r => B b (5 + r)) (a := 999) (B b 3)
    have l2 := maxB_le (f := fun r => B b (5 + r)) (a := 0) (B b 3)
    have l3 := maxB_bound (f := fun r => B b (5 + r)) (a := 0) (c := 999) (by omega) (B b 3) hv9
    generalize minB 999 (fun r => B b (5 + r)) (B b 3) = le at u1 n2 l1
    generalize maxB 0 (fun r => B b (5 + r)) (B b 3) = gr at u2 n2 l2 l3
    by_cases d : nI (B b 2) - nI (B b 1) - (nI gr - nI le) = nI 0
    · refine ref_fin (r := -5) hI hC hR ?_ ?_
      · unfold f_X5_narrow
        simp (disch := omega) only [ile_t, ile_f, ilt_t, ilt_f, ieq_t, ieq_f, gd_nI, gn_nI, gz_nI, b1_some, bd_some, lt1_eq, nI_add, nI_mul, nI_clamp, if_true, if_false, e1, u1, u2, c2, c3]
        rw [if_pos d]
      · unfold f_X6_narrow
        simp (disch := omega) only [ile_t, ile_f, ilt_t, ilt_f, ieq_t, ieq_f, gd_nI, gn_nI, gz_nI, b1_some, bd_some, lt1_eq, nI_add, nI_mul, nI_clamp, if_true, if_false, e2, o1, o2, n2]
        unfold f_X6_narrow_L81
        simp (disch := omega) only [ile_t, ile_f, ilt_t, ilt_f, ieq_t, ieq_f, gd_nI, gn_nI, gz_nI, b1_some, bd_some, lt1_eq, nI_add, nI_mul, nI_clamp, if_true, if_false, o1, o2]
        rw [if_pos d]
    · obtain ⟨M1, m1, p1, p2, p0, p9, p7, p22, q1, q3, q8, q15, fin⟩ := act_rec hI hC hR
      have g3 := boundC_s (m := M1 0) (x := le) (y := gr) hI0 (by rw [p0]; exact cB) hb
      have ao : ∀ k, k ≠ 1 → k ≠ 2 → upB (upB B b 1 le) b 2 gr b k = B b k := fun k h1 h2 => by rw [upB_o (Or.inr h2), upB_o (Or.inr h1)]
      have hB2 : BI nb (upB (upB B b 1 le) b 2 gr) := BI_one (b := b) hI0 (fun x hx => by rw [upB_x hx, upB_x hx]) (by
        have a1 : upB (upB B b 1 le) b 2 gr b 1 = le := by rw [upB_o (Or.inr (by decide)), upB_at]
        have a2 : upB (upB B b 1 le) b 2 gr b 2 = gr := upB_at
        have w1 := l1.2 0 (by omega)
        have w2 := l2.2 0 (by omega)
        unfold BR
        rw [a1, a2, ao 0 (by decide) (by decide), ao 3 (by decide) (by decide), ao 4 (by decide) (by decide)]
        refine ⟨hbi.1, Nat.le_trans w1 w2, l3, hbi.2.2.2.1, hbi.2.2.2.2.1, hbi.2.2.2.2.2.1, fun i hi => ?_⟩
        rw [ao _ (by omega) (by omega)]
        exact ⟨l1.2 i hi, l2.2 i hi⟩)
      have fr : ∀ c, c ≠ 3 + b → up (up (M1 0) (3 + b) 2 (nI le)) (3 + b) 3 (nI gr) c = M 0 c := fun c hc => by rw [up_c hc, up_c hc, p0]
      obtain ⟨m3, s1, s2, s3⟩ := setM hB2 hQ0 g3 (cQ.fr (by rw [fr 0 (by omega)]) (fun q hq => fr _ (by omega))) (show CH _ pl tu by unfold CH; rw [fr 0 (by omega)]; exact cH)
      have zB1 : ZB (m1 1) nb B := by rw [q1]; exact zB
      have w1 := put_s (m := m1) (b := b) (k := 1) (v := nI le) (by omega) (by omega)
      have w2 := put_s (m := up m1 1 (4 + 21 * b + 1) (nI le)) (b := b) (k := 2) (v := nI gr) (by omega) (by omega)
      obtain ⟨m4, t1, t2, t3, t4, t5⟩ := settle_s (m := up (up m1 1 (4 + 21 * b + 1) (nI le)) 1 (4 + 21 * b + 2) (nI gr)) hB2 hQ0 ((zB1.put (by omega)).put (by decide)) (ZQ.putB (ZQ.putB (by rw [q1]; exact zQ) (by omega) (by omega)) (by omega) (by decide)) (ZH.put (ZH.put (by rw [q1]; exact zH) (by omega)) (by omega))
      refine fin (r := nI (B b 2) - nI (B b 1) - (nI gr - nI le)) (M2 := gs M1 0 m3) (S2 := (nb, nq, pl, tu, upB (upB B b 1 le) b 2 gr, stl nb (upB (upB B b 1 le) b 2 gr) nq Q)) (SI_mk hB2 hQ0 hpl htu) (fun g hg => gs_ne hg) (by rw [gs_at]; exact s2) ((SX.up1.tr SX.up1).tr t2) ⟨t3, t4, t5⟩ ?_ ?_
      · unfold f_X5_narrow
        simp (disch := omega) only [ile_t, ile_f, ilt_t, ilt_f, ieq_t, ieq_f, gd_nI, gn_nI, gz_nI, b1_some, bd_some, lt1_eq, nI_add, nI_mul, nI_clamp, if_true, if_false, e1, u1, u2, c2, c3]
        rw [if_neg d]
        simp (disch := omega) only [ile_t, ile_f, ilt_t, ilt_f, ieq_t, ieq_f, gd_nI, gn_nI, gz_nI, b1_some, bd_some, lt1_eq, nI_add, nI_mul, nI_clamp, if_true, if_false, p1, gs_at, gs_gs, s1]
      · unfold f_X6_narrow
        simp (disch := omega) only [ile_t, ile_f, ilt_t, ilt_f, ieq_t, ieq_f, gd_nI, gn_nI, gz_nI, b1_some, bd_some, lt1_eq, nI_add, nI_mul, nI_clamp, if_true, if_false, e2, o1, o2, n2]
        unfold f_X6_narrow_L81
        simp (disch := omega) only [ile_t, ile_f, ilt_t, ilt_f, ieq_t, ieq_f, gd_nI, gn_nI, gz_nI, b1_some, bd_some, lt1_eq, nI_add, nI_mul, nI_clamp, if_true, if_false, o1, o2]
        rw [if_neg d]
        simp (disch := omega) only [ile_t, ile_f, ilt_t, ilt_f, ieq_t, ieq_f, gd_nI, gn_nI, gz_nI, b1_some, bd_some, lt1_eq, nI_add, nI_mul, nI_clamp, if_true, if_false, p2, w1, w2, t1]
theorem tb15 : ∀ l, l < 4 → (15 : Nat).testBit l = true := by decide
theorem rQ15 (hI : BI nb B) : rQ nb B 15 k = sumTo (fun b => B b k) nb := by
  unfold rQ
  exact sumTo_congr _ (fun i hi => by rw [if_pos (tb15 _ (hI.2 i hi).1)])
theorem fgB_s {i : Nat} : upB (fgB B i) i 4 0 = fgB B (i + 1) := by
  funext b k
  unfold upB fgB
  by_cases c : b = i
  · subst c
    by_cases d : k = 4
    · subst d; simp
    · simp [d]
  · by_cases d : b < i
    · simp [c, d, show b < i + 1 by omega]
    · simp [c, d, show ¬ b < i + 1 by omega]
theorem BI_fg (hI : BI nb B) {i : Nat} : BI nb (fgB B i) := by
  refine ⟨hI.1, fun b hb => ?_⟩
  have hbi := hI.2 b hb
  have a4 : fgB B i b 4 ≤ B b 4 := by unfold fgB; split <;> omega
  have ao : ∀ k, k ≠ 4 → fgB B i b k = B b k := fun k hk => by unfold fgB; rw [if_neg (fun z => hk z.2)]
  rw [ao 0 (by decide), ao 1 (by decide), ao 2 (by decide), ao 3 (by decide)]
  refine ⟨hbi.1, hbi.2.1, hbi.2.2.1, hbi.2.2.2.1, hbi.2.2.2.2.1, by omega, fun r hr => ?_⟩
  rw [ao _ (by omega)]
  exact hbi.2.2.2.2.2.2 r hr
theorem forg_L {x1 : Int32} (hI : BI nb B) (hQQ : QQ nq Q) : ∀ n i m, i ≤ nb → nb < i + n → ZB (m 1) nb (fgB B i) → ZQ (m 1) nq Q → ZH (m 1) pl tu → ∃ m', f_X6_forget_L19 n m x1 (nI i) = some (x1, m') ∧ SX m m' ∧ ZB (m' 1) nb (fgB B nb) ∧ ZQ (m' 1) nq (stl nb (fgB B nb) nq Q) ∧ ZH (m' 1) pl tu := by
  have h8 := hI.1
  intro n
  induction n with
  | zero => intro i m h2 h3; omega
  | succ n ih =>
    intro i m h2 h3 hB hQ hH
    rw [f_X6_forget_L19.eq_2]
    by_cases c : i = nb
    · subst c
      obtain ⟨m', p1, p2⟩ := settle_s (BI_fg hI) hQQ hB hQ hH
      simp (disch := omega) only [ile_t, ile_f, ilt_t, ilt_f, ieq_t, ieq_f, gd_nI, gn_nI, gz_nI, b1_some, bd_some, lt1_eq, nI_add, nI_mul, nI_clamp, if_true, if_false, hB.1, p1]
      exact ⟨m', rfl, p2⟩
    · have w1 := put_s (m := m) (b := i) (k := 4) (v := nI 0) (by omega) (by omega)
      obtain ⟨m', p1, p2, p3⟩ := ih (i + 1) (up m 1 (4 + 21 * i + 4) (nI 0)) (by omega) (by omega) (by rw [← fgB_s]; exact hB.put (by decide)) (hQ.putB (by omega) (by decide)) (hH.put (by omega))
      simp (disch := omega) only [ile_t, ile_f, ilt_t, ilt_f, ieq_t, ieq_f, gd_nI, gn_nI, gz_nI, b1_some, bd_some, lt1_eq, nI_add, nI_mul, nI_clamp, if_true, if_false, hB.1, w1]
      exact ⟨m', p1, SX.up1.tr p2, p3⟩
theorem s4_le (hI : BI nb B) : sumTo (fun b => B b 4) nb ≤ 128 := by
  have h8 := hI.1
  have := sumTo_le (f := fun b => B b 4) (c := 16) nb (fun i hi => by have := hI.2 i hi; show B i 4 ≤ 16; omega)
  omega
theorem st_forget : stepOK Rel (fun M => f_X5_forget M) (fun m => f_X6_forget m) := by
  refine mkStep fun M S hn Hs ks K tl tx hI hC hR => ?_
  obtain ⟨nb, nq, pl, tu, B, Q⟩ := S
  have hI0 : BI nb B := hI.1.1
  have hQ0 : QQ nq Q := hI.1.2.1
  have hpl : pl ≤ 2 := hI.1.2.2.1
  have htu : tu < 8 := hI.1.2.2.2.1
  have hSD : SD nb B nq Q := hI.1.2.2.2.2
  have cB : CB (M 0) nb B := hC.1.1
  have cQ : CQ (M 0) nq Q := hC.1.2.1
  have cH : CH (M 0) pl tu := hC.1.2.2.1
  have cW : CW (M 0) nb B nq Q := hC.1.2.2.2
  have zB : ZB (M 9 1) nb B := hR.1.1
  have zQ : ZQ (M 9 1) nq Q := hR.1.2.1
  have zH : ZH (M 9 1) pl tu := hR.1.2.2
  have h8 := hI0.1
  have h6 := hQ0.1
  have e1 := readsC_s (ls := 15) hI0 (by decide) cB
  rw [rQ15 hI0] at e1
  have e2 := allOf_s (k := 4) zB h8 (by decide)
  have l4 := s4_le hI0
  by_cases d : sumTo (fun b => B b 4) nb = 0
  · rw [d] at e1 e2
    refine ref_fin (r := -5) hI hC hR ?_ ?_
    · unfold f_X5_forget
      simp (disch := omega) only [ile_t, ile_f, ilt_t, ilt_f, ieq_t, ieq_f, gd_nI, gn_nI, gz_nI, b1_some, bd_some, lt1_eq, nI_add, nI_mul, nI_clamp, if_true, if_false, e1]
    · unfold f_X6_forget
      simp (disch := omega) only [ile_t, ile_f, ilt_t, ilt_f, ieq_t, ieq_f, gd_nI, gn_nI, gz_nI, b1_some, bd_some, lt1_eq, nI_add, nI_mul, nI_clamp, if_true, if_false, e2]
  · obtain ⟨M1, m1, p1, p2, p0, p9, p7, p22, q1, q3, q8, q15, fin⟩ := act_rec hI hC hR
    obtain ⟨m2, g1, g2, g3⟩ := forgetC_s (m := M1 0) hI0 (by rw [p0]; exact cB)
    obtain ⟨m3, s1, s2, s3⟩ := setM (BI_fg hI0) hQ0 g3 (cQ.fr (by rw [g2 0 (by omega), p0]) (fun q hq => by rw [g2 _ (by omega), p0])) (show CH m2 pl tu by unfold CH; rw [g2 0 (by omega), p0]; exact cH)
    obtain ⟨m4, t1, t2, t3, t4, t5⟩ := forg_L (x1 := nI (sumTo (fun b => B b 4) nb)) hI0 hQ0 FU 0 m1 (Nat.zero_le _) (by rw [FU_eq]; omega) (by rw [q1, fgB_0]; exact zB) (by rw [q1]; exact zQ) (by rw [q1]; exact zH)
    refine fin (r := nI (sumTo (fun b => B b 4) nb)) (M2 := gs M1 0 m3) (S2 := (nb, nq, pl, tu, fgB B nb, stl nb (fgB B nb) nq Q)) (SI_mk (BI_fg hI0) hQ0 hpl htu) (fun g hg => gs_ne hg) (by rw [gs_at]; exact s2) t2 ⟨t3, t4, t5⟩ ?_ ?_
    · unfold f_X5_forget
      simp (disch := omega) only [ile_t, ile_f, ilt_t, ilt_f, ieq_t, ieq_f, gd_nI, gn_nI, gz_nI, b1_some, bd_some, lt1_eq, nI_add, nI_mul, nI_clamp, if_true, if_false, e1, p1, g1, gs_at, gs_gs, s1]
    · unfold f_X6_forget
      simp (disch := omega) only [ile_t, ile_f, ilt_t, ilt_f, ieq_t, ieq_f, gd_nI, gn_nI, gz_nI, b1_some, bd_some, lt1_eq, nI_add, nI_mul, nI_clamp, if_true, if_false, e2, p2, t1]
end SB
