/-! THE STEPS: drop, setPlan, readFrom -/
section SDd
variable {m m' : SM} {M : MM} {nb nq pl tu b q k how ls n v t : Nat} {B B2 Q Q2 : BK} {f : Nat → Nat}
theorem CQ.cg (h : CQ m nq Q) (hQ : ∀ x, x < nq → Q2 x = Q x) : CQ m nq Q2 := ⟨h.1, fun x hx => by rw [hQ x hx]; exact h.2 x hx⟩
theorem drop47 (hq : q < nq) (h6 : nq ≤ 6) : ∀ n i m, 172 + 8 * q ≤ i → i ≤ 172 + 8 * (nq - 1) → 172 + 8 * (nq - 1) < i + n → ∃ m', f_X6_drop_L47 (nI q) n m (nI (172 + 8 * (nq - 1))) (nI i) = f_X6_drop_L73 (nI q) m' (nI (172 + 8 * (nq - 1))) ∧ (∀ c, c ≠ 1 → m' c = m c) ∧ ∀ j, m' 1 j = if i ≤ j ∧ j < 172 + 8 * (nq - 1) then m 1 (j + 8) else m 1 j := by
  intro n
  induction n with
  | zero => intro i m h1 h2 h3; omega
  | succ n ih =>
    intro i m h1 h2 h3
    rw [f_X6_drop_L47.eq_2]
    by_cases c : i = 172 + 8 * (nq - 1)
    · rw [ile_t (by omega) (by omega)]
      exact ⟨m, rfl, fun _ _ => rfl, fun j => by rw [if_neg (by omega)]⟩
    · obtain ⟨m', p1, p2, p3⟩ := ih (i + 1) (up m 1 i (m 1 (i + 8))) (by omega) (by omega) (by omega)
      simp (disch := omega) only [ile_t, ile_f, ilt_t, ilt_f, ieq_t, ieq_f, gd_nI, gn_nI, gz_nI, b1_some, bd_some, lt1_eq, nI_add, nI_mul, nI_clamp, if_true, if_false]
      refine ⟨m', p1, fun c hc => by rw [p2 c hc, up_c hc], fun j => ?_⟩
      rw [p3 j]
      by_cases d : j = i
      · subst d
        rw [if_neg (by omega), up_same, if_pos (by omega)]
      · by_cases e : i + 1 ≤ j ∧ j < 172 + 8 * (nq - 1)
        · rw [if_pos e, up_o (Or.inr (by omega)), if_pos (by omega)]
        · rw [if_neg e, up_o (Or.inr d), if_neg (by omega)]
theorem drop75 {e : Nat} (he : e + 8 ≤ 220) (h0 : m 1 1 = nI nq) : ∀ n i m, m 1 1 = nI nq → 2 ≤ e → e ≤ i → i ≤ e + 8 → e + 8 < i + n → ∃ m', f_X6_drop_L75 (nI q) n m (nI e) (nI i) = some (nI nq, m') ∧ (∀ c, c ≠ 1 → m' c = m c) ∧ ∀ j, m' 1 j = if i ≤ j ∧ j < e + 8 then nI 0 else m 1 j := by
  intro n
  induction n with
  | zero => intro i m h0 h1 h2 h3; omega
  | succ n ih =>
    intro i m h0 he2 h1 h2 h3
    rw [f_X6_drop_L75.eq_2]
    by_cases c : i = e + 8
    · subst c
      simp (disch := omega) only [ile_t, ile_f, ilt_t, ilt_f, ieq_t, ieq_f, gd_nI, gn_nI, gz_nI, b1_some, bd_some, lt1_eq, nI_add, nI_mul, nI_clamp, if_true, if_false, h0]
      exact ⟨m, rfl, fun _ _ => rfl, fun j => by rw [if_neg (by omega)]⟩
    · obtain ⟨m', p1, p2, p3⟩ := ih (i + 1) (up m 1 i (nI 0)) (by rw [up_o (Or.inr (by omega))]; exact h0) he2 (by omega) (by omega) (by omega)
      simp (disch := omega) only [ile_t, ile_f, ilt_t, ilt_f, ieq_t, ieq_f, gd_nI, gn_nI, gz_nI, b1_some, bd_some, lt1_eq, nI_add, nI_mul, nI_clamp, if_true, if_false]
      refine ⟨m', p1, fun c hc => by rw [p2 c hc, up_c hc], fun j => ?_⟩
      rw [p3 j]
      by_cases d : j = i
      · subst d
        rw [if_neg (by omega), up_same, if_pos (by omega)]
      · by_cases f : i + 1 ≤ j ∧ j < e + 8
        · rw [if_pos f, if_pos (by omega)]
        · rw [if_neg f, up_o (Or.inr d), if_neg (by omega)]
/-- the questions when q is taken away, the last row empty -/
def drQ (Q : BK) (nq q : Nat) : BK := fun x k => if x = nq - 1 then 0 else if q ≤ x ∧ x < nq - 1 then Q (x + 1) k else Q x k
theorem drop_s (h6 : nq ≤ 6) (hq : q < nq) (hB : ZB (m 1) nb B) (hQ : ZQ (m 1) nq Q) (hH : ZH (m 1) pl tu) : ∃ m', f_X6_drop_L47 (nI q) FU (up m 1 1 (nI (nq - 1))) (nI (172 + 8 * (nq - 1))) (nI (172 + 8 * q)) = some (nI (nq - 1), m') ∧ SX m m' ∧ ZB (m' 1) nb B ∧ ZQ (m' 1) (nq - 1) (drQ Q nq q) ∧ ZH (m' 1) pl tu := by
  obtain ⟨m1, p1, p2, p3⟩ := drop47 hq h6 FU (172 + 8 * q) (up m 1 1 (nI (nq - 1))) (Nat.le_refl _) (by omega) (by rw [FU_eq]; omega)
  have r1 : m1 1 1 = nI (nq - 1) := by rw [p3, if_neg (by omega), up_same]
  obtain ⟨m2, g1, g2, g3⟩ := drop75 (q := q) (e := 172 + 8 * (nq - 1)) (by omega) r1 FU (172 + 8 * (nq - 1)) m1 r1 (by omega) (Nat.le_refl _) (by omega) (by rw [FU_eq]; omega)
  have e : ∀ j, m2 1 j = if 172 + 8 * (nq - 1) ≤ j ∧ j < 172 + 8 * (nq - 1) + 8 then nI 0 else if 172 + 8 * q ≤ j ∧ j < 172 + 8 * (nq - 1) then up m 1 1 (nI (nq - 1)) 1 (j + 8) else up m 1 1 (nI (nq - 1)) 1 j := fun j => by rw [g3, p3]
  have ee : ∀ j, j ≠ 1 → j < 172 + 8 * q ∨ 172 + 8 * (nq - 1) + 8 ≤ j → m2 1 j = m 1 j := fun j h1 h2 => by rw [e, if_neg (by omega), if_neg (by omega), up_o (Or.inr h1)]
  have fr : ∀ c, c ≠ 1 → m2 c = m c := fun c hc => by rw [g2 c hc, p2 c hc, up_c hc]
  refine ⟨m2, ?_, ⟨fr 2 (by decide), fr 3 (by decide), fr 4 (by decide), fr 5 (by decide), by rw [fr 0 (by decide)], by rw [fr 0 (by decide)], by rw [fr 0 (by decide)]⟩, ⟨?_, fun b k hb hk => ?_⟩, ⟨?_, fun x k hx hk => ?_⟩, ?_, ?_⟩
  · rw [p1]
    exact g1
  · rw [ee 0 (by decide) (by omega)]; exact hB.1
  · rw [ee _ (by omega) (by omega)]; exact hB.2 b k hb hk
  · rw [e, if_neg (by omega), if_neg (by omega), up_same]
  · unfold drQ
    rw [e]
    by_cases c1 : x = nq - 1
    · rw [if_pos c1, if_pos (by omega)]
    · rw [if_neg c1, if_neg (by omega)]
      by_cases c2 : q ≤ x ∧ x < nq - 1
      · rw [if_pos c2, if_pos (by omega), up_o (Or.inr (by omega)), show 172 + 8 * x + k + 8 = 172 + 8 * (x + 1) + k by omega]
        exact hQ.2 (x + 1) k (by omega) hk
      · rw [if_neg c2, if_neg (by omega), up_o (Or.inr (by omega))]
        exact hQ.2 x k hx hk
  · rw [ee 2 (by decide) (by omega)]; exact hH.1
  · rw [ee 3 (by decide) (by omega)]; exact hH.2
theorem drQ_rm {x : Nat} (hx : x < nq - 1) : drQ Q nq q x = rmQ Q q x := by
  funext k
  unfold drQ rmQ
  rw [if_neg (by omega)]
  by_cases c : x < q
  · rw [if_neg (by omega), if_pos c]
  · rw [if_pos (by omega), if_neg c]
theorem st_drop (a0 : Int32) : stepOK Rel (fun M => f_X5_drop M a0) (fun m => f_X6_drop m a0) := by
  refine mkStep fun M S hn Hs ks K tl tx hI hC hR => ?_
  obtain ⟨nb, nq, pl, tu, B, Q⟩ := S
  have hI0 : BI nb B := hI.1.1
  have hQ0 : QQ nq Q := hI.1.2.1
  have hpl : pl ≤ 2 := hI.1.2.2.1
  have htu : tu < 8 := hI.1.2.2.2.1
  have hSD : SD nb B nq Q := hI.1.2.2.2.2
  have cB : CB (M 0) nb B := hC.1.1
  have cQ : CQ (M 0) nq Q := hC.1.2.1
  have cH : CH (M 0) pl tu := hC.1.2.2.1
  have cW : CW (M 0) nb B nq Q := hC.1.2.2.2
  have zB : ZB (M 9 1) nb B := hR.1.1
  have zQ : ZQ (M 9 1) nq Q := hR.1.2.1
  have zH : ZH (M 9 1) pl tu := hR.1.2.2
  have h8 := hI0.1
  have h6 := hQ0.1
  rcases qst a0 h6 cQ zQ with ⟨e1, e2⟩ | ⟨q, hq, rfl, e1, e2⟩
  · refine ref_fin (r := -1) hI hC hR ?_ ?_
    · unfold f_X5_drop
      simp (disch := omega) only [ile_t, ile_f, ilt_t, ilt_f, ieq_t, ieq_f, gd_nI, gn_nI, gz_nI, b1_some, bd_some, lt1_eq, nI_add, nI_mul, nI_clamp, if_true, if_false, e1]
    · unfold f_X6_drop
      simp (disch := omega) only [ile_t, ile_f, ilt_t, ilt_f, ieq_t, ieq_f, gd_nI, gn_nI, gz_nI, b1_some, bd_some, lt1_eq, nI_add, nI_mul, nI_clamp, if_true, if_false, e2]
  · obtain ⟨M1, m1, p1, p2, p0, p9, p7, p22, q1, q3, q8, q15, fin⟩ := act_rec hI hC hR
    obtain ⟨m2, g1, g2, g3, g4⟩ := dropC_s (m := M1 0) hQ0 (by rw [p0]; exact cQ) hq
    have g5 : CQ m2 (nq - 1) (drQ Q nq q) := g4.cg (fun x hx => drQ_rm hx)
    have row : ∀ x, x < nq - 1 → ∃ y, y < nq ∧ drQ Q nq q x = Q y := fun x hx => by
      rw [drQ_rm hx]
      unfold rmQ
      by_cases c : x < q
      · exact ⟨x, by omega, by rw [if_pos c]⟩
      · exact ⟨x + 1, by omega, by rw [if_neg c]⟩
    have hQQ2 : QQ (nq - 1) (drQ Q nq q) := ⟨by omega, fun x hx => by
      obtain ⟨y, hy, e⟩ := row x hx
      rw [e]
      exact hQ0.2 y hy⟩
    have hSD2 : SD nb B (nq - 1) (drQ Q nq q) := fun x hx => by
      obtain ⟨y, hy, e⟩ := row x hx
      rw [e]
      exact hSD y hy
    obtain ⟨m3, s1, s2, s3⟩ := setM hI0 hQQ2 (cB.cp h8 (by rw [g3 2 (by decide), p0]) (fun c h1 h2 => by rw [g2 c (by omega) h2, p0])) g5 (show CH m2 pl tu by unfold CH; rw [g3 4 (by decide), g3 5 (by decide), p0]; exact cH)
    rw [stl_SD hSD2] at s2
    obtain ⟨m4, t1, t2, t3, t4, t5⟩ := drop_s (m := m1) (pl := pl) (tu := tu) h6 hq (by rw [q1]; exact zB) (by rw [q1]; exact zQ) (by rw [q1]; exact zH)
    refine fin (r := nI (nq - 1)) (M2 := gs M1 0 m3) (S2 := (nb, nq - 1, pl, tu, B, drQ Q nq q)) ⟨hI0, hQQ2, hpl, htu, hSD2⟩ (fun g hg => gs_ne hg) (by rw [gs_at]; exact s2) t2 ⟨t3, t4, t5⟩ ?_ ?_
    · unfold f_X5_drop
      have e3 : m3 0 3 = nI (nq - 1) := s2.2.1.1
      simp (disch := omega) only [ile_t, ile_f, ilt_t, ilt_f, ieq_t, ieq_f, gd_nI, gn_nI, gz_nI, b1_some, bd_some, lt1_eq, nI_add, nI_mul, nI_clamp, if_true, if_false, e1, p1, g1, gs_at, gs_gs, s1, e3]
    · unfold f_X6_drop
      have z1 : m1 1 1 = nI nq := by rw [q1]; exact zQ.1
      have e4 : nI nq - nI 1 = nI (nq - 1) := nI_sub (by omega)
      simp (disch := omega) only [ile_t, ile_f, ilt_t, ilt_f, ieq_t, ieq_f, gd_nI, gn_nI, gz_nI, b1_some, bd_some, lt1_eq, nI_add, nI_mul, nI_clamp, if_true, if_false, e2, p2, z1, e4, up_same, t1]
theorem st_setPlan (a0 : Int32) : stepOK Rel (fun M => f_X5_setPlan M a0) (fun m => f_X6_setPlan m a0) := by
  refine mkStep fun M S hn Hs ks K tl tx hI hC hR => ?_
  obtain ⟨nb, nq, pl, tu, B, Q⟩ := S
  have hI0 : BI nb B := hI.1.1
  have hQ0 : QQ nq Q := hI.1.2.1
  have hpl : pl ≤ 2 := hI.1.2.2.1
  have htu : tu < 8 := hI.1.2.2.2.1
  have hSD : SD nb B nq Q := hI.1.2.2.2.2
  have cB : CB (M 0) nb B := hC.1.1
  have cQ : CQ (M 0) nq Q := hC.1.2.1
  have cH : CH (M 0) pl tu := hC.1.2.2.1
  have cW : CW (M 0) nb B nq Q := hC.1.2.2.2
  have zB : ZB (M 9 1) nb B := hR.1.1
  have zQ : ZQ (M 9 1) nq Q := hR.1.2.1
  have zH : ZH (M 9 1) pl tu := hR.1.2.2
  have h8 := hI0.1
  have h6 := hQ0.1
  rcases ftN (x := 0) (y := 2) a0 (by decide) (by decide) with e | ⟨p, rfl, t1, t2, e⟩
  · refine ref_fin (r := -2) hI hC hR ?_ ?_
    · unfold f_X5_setPlan
      simp (disch := omega) only [ile_t, ile_f, ilt_t, ilt_f, ieq_t, ieq_f, gd_nI, gn_nI, gz_nI, b1_some, bd_some, lt1_eq, nI_add, nI_mul, nI_clamp, if_true, if_false, e]
    · unfold f_X6_setPlan
      simp (disch := omega) only [ile_t, ile_f, ilt_t, ilt_f, ieq_t, ieq_f, gd_nI, gn_nI, gz_nI, b1_some, bd_some, lt1_eq, nI_add, nI_mul, nI_clamp, if_true, if_false, in_eq, e]
  · by_cases d : pl = p
    · refine ref_fin (r := -5) hI hC hR ?_ ?_
      · unfold f_X5_setPlan
        simp (disch := omega) only [ile_t, ile_f, ilt_t, ilt_f, ieq_t, ieq_f, gd_nI, gn_nI, gz_nI, b1_some, bd_some, lt1_eq, nI_add, nI_mul, nI_clamp, if_true, if_false, e, cH.1]
      · unfold f_X6_setPlan
        simp (disch := omega) only [ile_t, ile_f, ilt_t, ilt_f, ieq_t, ieq_f, gd_nI, gn_nI, gz_nI, b1_some, bd_some, lt1_eq, nI_add, nI_mul, nI_clamp, if_true, if_false, in_eq, e, zH.1]
    · obtain ⟨M1, m1, p1, p2, p0, p9, p7, p22, q1, q3, q8, q15, fin⟩ := act_rec hI hC hR
      have fr : ∀ c, c ≠ 0 → up (M1 0) 0 4 (nI p) c = M 0 c := fun c hc => by rw [up_c hc, p0]
      have kr : ∀ k, k ≠ 4 → up (M1 0) 0 4 (nI p) 0 k = M 0 0 k := fun k hk => by rw [up_o (Or.inr hk), p0]
      obtain ⟨m3, s1, s2, s3⟩ := setM (pl := p) (tu := tu) hI0 hQ0 (cB.cp h8 (kr 2 (by decide)) (fun c h1 h2 => fr c (by omega))) (cQ.fr (kr 3 (by decide)) (fun x hx => fr _ (by omega))) ⟨up_same, by rw [kr 5 (by decide)]; exact cH.2⟩
      rw [stl_SD hSD] at s2
      refine fin (r := nI pl) (M2 := gs M1 0 m3) (m2 := up m1 1 2 (nI p)) (S2 := (nb, nq, p, tu, B, Q)) ⟨hI0, hQ0, t2, htu, hSD⟩ (fun g hg => gs_ne hg) (by rw [gs_at]; exact s2) SX.up1 ⟨?_, ?_, ?_⟩ ?_ ?_
      · exact ⟨by rw [up_o (Or.inr (by decide)), q1]; exact zB.1, fun b k hb hk => by rw [up_o (Or.inr (by omega)), q1]; exact zB.2 b k hb hk⟩
      · exact ⟨by rw [up_o (Or.inr (by decide)), q1]; exact zQ.1, fun b k hb hk => by rw [up_o (Or.inr (by omega)), q1]; exact zQ.2 b k hb hk⟩
      · exact ⟨up_same, by rw [up_o (Or.inr (by decide)), q1]; exact zH.2⟩
      · unfold f_X5_setPlan
        simp (disch := omega) only [ile_t, ile_f, ilt_t, ilt_f, ieq_t, ieq_f, gd_nI, gn_nI, gz_nI, b1_some, bd_some, lt1_eq, nI_add, nI_mul, nI_clamp, if_true, if_false, e, cH.1, p1, gs_at, gs_gs, s1]
      · unfold f_X6_setPlan
        simp (disch := omega) only [ile_t, ile_f, ilt_t, ilt_f, ieq_t, ieq_f, gd_nI, gn_nI, gz_nI, b1_some, bd_some, lt1_eq, nI_add, nI_mul, nI_clamp, if_true, if_false, in_eq, e, zH.1, p2]
theorem st_readFrom (a0 : Int32) : stepOK Rel (fun M => f_X5_readFrom M a0) (fun m => f_X6_readFrom m a0) := by
  refine mkStep fun M S hn Hs ks K tl tx hI hC hR => ?_
  obtain ⟨nb, nq, pl, tu, B, Q⟩ := S
  have hI0 : BI nb B := hI.1.1
  have hQ0 : QQ nq Q := hI.1.2.1
  have hpl : pl ≤ 2 := hI.1.2.2.1
  have htu : tu < 8 := hI.1.2.2.2.1
  have hSD : SD nb B nq Q := hI.1.2.2.2.2
  have cB : CB (M 0) nb B := hC.1.1
  have cQ : CQ (M 0) nq Q := hC.1.2.1
  have cH : CH (M 0) pl tu := hC.1.2.2.1
  have cW : CW (M 0) nb B nq Q := hC.1.2.2.2
  have zB : ZB (M 9 1) nb B := hR.1.1
  have zQ : ZQ (M 9 1) nq Q := hR.1.2.1
  have zH : ZH (M 9 1) pl tu := hR.1.2.2
  have h8 := hI0.1
  have h6 := hQ0.1
  rcases blk a0 h8 cB zB with ⟨e1, e2⟩ | ⟨b, hb, rfl, e1, e2⟩
  · refine ref_fin (r := -1) hI hC hR ?_ ?_
    · unfold f_X5_readFrom
      simp (disch := omega) only [ile_t, ile_f, ilt_t, ilt_f, ieq_t, ieq_f, gd_nI, gn_nI, gz_nI, b1_some, bd_some, lt1_eq, nI_add, nI_mul, nI_clamp, if_true, if_false, e1]
    · unfold f_X6_readFrom
      simp (disch := omega) only [ile_t, ile_f, ilt_t, ilt_f, ieq_t, ieq_f, gd_nI, gn_nI, gz_nI, b1_some, bd_some, lt1_eq, nI_add, nI_mul, nI_clamp, if_true, if_false, e2]
  · have hbi := hI0.2 b hb
    have e3 := unreadC_s (cB.2 b hb) hbi.2.2.2.2.2.1
    have o3 := unread_s hI0 zB hb
    by_cases d : B b 4 < B b 3
    · have hu : urd B b = true := decide_eq_true d
      obtain ⟨M1, m1, p1, p2, p0, p9, p7, p22, q1, q3, q8, q15, fin⟩ := act_rec hI hC hR
      obtain ⟨m2, g1, g2, g3, g4⟩ := readC_s (m := M1 0) hI0 hQ0 (by rw [p0]; exact cB) (by rw [p0]; exact cQ) hb hu
      have hB2 := BI_rdB hI0 hu
      obtain ⟨m3, s1, s2, s3⟩ := setM hB2 hQ0 g3 g4 (show CH m2 pl tu by unfold CH; rw [g2 0 (by omega), p0]; exact cH)
      have zB1 : ZB (m1 1) nb B := by rw [q1]; exact zB
      obtain ⟨m4, t1, t2, t3, t4, t5⟩ := readOne_s (m := m1) (pl := pl) (tu := tu) hI0 hQ0 zB1 (by rw [q1]; exact zQ) (by rw [q1]; exact zH) hb hu
      have o4 := of_s (k := 4) zB1 (b := b) (by omega) (by decide)
      have o5 := of_s (k := 5 + B b 4) zB1 (b := b) (by omega) (by omega)
      refine fin (r := nI (B b (5 + B b 4))) (M2 := gs M1 0 m3) (S2 := (nb, nq, pl, tu, rdB B b, stl nb (rdB B b) nq Q)) (SI_mk hB2 hQ0 hpl htu) (fun g hg => gs_ne hg) (by rw [gs_at]; exact s2) t2 ⟨t3, t4, t5⟩ ?_ ?_
      · unfold f_X5_readFrom
        simp (disch := omega) only [ile_t, ile_f, ilt_t, ilt_f, ieq_t, ieq_f, gd_nI, gn_nI, gz_nI, b1_some, bd_some, lt1_eq, nI_add, nI_mul, nI_clamp, if_true, if_false, e1, e3, p1, g1, gs_at, gs_gs, s1]
      · unfold f_X6_readFrom
        simp (disch := omega) only [ile_t, ile_f, ilt_t, ilt_f, ieq_t, ieq_f, gd_nI, gn_nI, gz_nI, b1_some, bd_some, lt1_eq, nI_add, nI_mul, nI_clamp, if_true, if_false, e2, o3, p2, o4, o5, t1]
    · have z : B b 3 - B b 4 = 0 := by omega
      rw [z] at e3 o3
      refine ref_fin (r := -5) hI hC hR ?_ ?_
      · unfold f_X5_readFrom
        simp (disch := omega) only [ile_t, ile_f, ilt_t, ilt_f, ieq_t, ieq_f, gd_nI, gn_nI, gz_nI, b1_some, bd_some, lt1_eq, nI_add, nI_mul, nI_clamp, if_true, if_false, e1, e3]
      · unfold f_X6_readFrom
        simp (disch := omega) only [ile_t, ile_f, ilt_t, ilt_f, ieq_t, ieq_f, gd_nI, gn_nI, gz_nI, b1_some, bd_some, lt1_eq, nI_add, nI_mul, nI_clamp, if_true, if_false, e2, o3]
end SDd
