/-! THE STEPS: rows are added and changed, blocks narrowed, reads forgotten -/
def BR (f : Nat → Nat) : Prop := f 0 < 4 ∧ f 1 ≤ f 2 ∧ f 2 ≤ 999 ∧ 1 ≤ f 3 ∧ f 3 ≤ 16 ∧ f 4 ≤ f 3 ∧ ∀ r, r < f 3 → f 1 ≤ f (5 + r) ∧ f (5 + r) ≤ f 2
section SA
variable {m m' : SM} {nb nq pl tu b q k how ls n v : Nat} {B B2 Q : BK}
theorem BI_one (h : BI nb B) (ho : ∀ x, x ≠ b → B2 x = B x) (hb : BR (B2 b)) : BI nb B2 := by
  refine ⟨h.1, fun x hx => ?_⟩
  by_cases c : x = b
  · subst c; exact hb
  · rw [ho x c]; exact h.2 x hx
theorem upB_x {x : Nat} (h : x ≠ b) : upB B b k v x = B x := by
  funext j
  exact upB_o (Or.inl h)
theorem setM (hI : BI nb B) (hQQ : QQ nq Q) (hB : CB m nb B) (hQ : CQ m nq Q) (hH : CH m pl tu) : ∃ m', f_X4_settle m = some (0, m') ∧ RC m' (nb, nq, pl, tu, B, stl nb B nq Q) ∧ ∀ c, c < 19 → m' c = m c := by
  obtain ⟨m', p1, p2, p3, p4⟩ := settleC_s hI hQQ hB hQ
  exact ⟨m', p1, ⟨hB.fr hI.1 p2, p3, hH.fr p2, p4⟩, p2⟩
theorem st_addRow (a0 a1 : Int32) : stepOK Rel (fun M => f_X5_addRow M a0 a1) (fun m => f_X6_addRow m a0 a1) := by
  refine mkStep fun M S hn Hs ks K tl tx hI hC hR => ?_
  obtain ⟨nb, nq, pl, tu, B, Q⟩ := S
  have hI0 : BI nb B := hI.1.1
  have hQ0 : QQ nq Q := hI.1.2.1
  have hpl : pl ≤ 2 := hI.1.2.2.1
  have htu : tu < 8 := hI.1.2.2.2.1
  have hSD : SD nb B nq Q := hI.1.2.2.2.2
  have cB : CB (M 0) nb B := hC.1.1
  have cQ : CQ (M 0) nq Q := hC.1.2.1
  have cH : CH (M 0) pl tu := hC.1.2.2.1
  have cW : CW (M 0) nb B nq Q := hC.1.2.2.2
  have zB : ZB (M 9 1) nb B := hR.1.1
  have zQ : ZQ (M 9 1) nq Q := hR.1.2.1
  have zH : ZH (M 9 1) pl tu := hR.1.2.2
  have h8 := hI0.1
  have h6 := hQ0.1
  rcases blk a0 h8 cB zB with ⟨e1, e2⟩ | ⟨b, hb, rfl, e1, e2⟩
  · refine ref_fin (r := -1) hI hC hR ?_ ?_
    · unfold f_X5_addRow
      simp (disch := omega) only [ile_t, ile_f, ilt_t, ilt_f, ieq_t, ieq_f, gd_nI, gn_nI, gz_nI, b1_some, bd_some, lt1_eq, nI_add, nI_mul, nI_clamp, if_true, if_false, e1]
    · unfold f_X6_addRow
      simp (disch := omega) only [ile_t, ile_f, ilt_t, ilt_f, ieq_t, ieq_f, gd_nI, gn_nI, gz_nI, b1_some, bd_some, lt1_eq, nI_add, nI_mul, nI_clamp, if_true, if_false, e2]
  · have hbi := hI0.2 b hb
    obtain ⟨c1, c2, c3, c4, c5, c6, c7, c8, c9⟩ := cB.2 b hb
    have o1 := of_s (k := 1) zB (b := b) (by omega) (by decide)
    have o2 := of_s (k := 2) zB (b := b) (by omega) (by decide)
    have o3 := of_s (k := 3) zB (b := b) (by omega) (by decide)
    rcases ftN (x := B b 1) (y := B b 2) a1 (by omega) (by omega) with e | ⟨v, rfl, v1, v2, e⟩
    · refine ref_fin (r := -2) hI hC hR ?_ ?_
      · unfold f_X5_addRow f_X0_allows
        simp (disch := omega) only [ile_t, ile_f, ilt_t, ilt_f, ieq_t, ieq_f, gd_nI, gn_nI, gz_nI, b1_some, bd_some, lt1_eq, nI_add, nI_mul, nI_clamp, if_true, if_false, e1, c2, c3, e]
      · unfold f_X6_addRow
        simp (disch := omega) only [ile_t, ile_f, ilt_t, ilt_f, ieq_t, ieq_f, gd_nI, gn_nI, gz_nI, b1_some, bd_some, lt1_eq, nI_add, nI_mul, nI_clamp, if_true, if_false, e2, o1, o2, in_eq, e]
    · by_cases d : B b 3 = 16
      · refine ref_fin (r := -3) hI hC hR ?_ ?_
        · unfold f_X5_addRow f_X0_allows
          simp (disch := omega) only [ile_t, ile_f, ilt_t, ilt_f, ieq_t, ieq_f, gd_nI, gn_nI, gz_nI, b1_some, bd_some, lt1_eq, nI_add, nI_mul, nI_clamp, if_true, if_false, e1, c2, c3, e, c4]
        · unfold f_X6_addRow
          simp (disch := omega) only [ile_t, ile_f, ilt_t, ilt_f, ieq_t, ieq_f, gd_nI, gn_nI, gz_nI, b1_some, bd_some, lt1_eq, nI_add, nI_mul, nI_clamp, if_true, if_false, e2, o1, o2, o3, in_eq, e]
      · obtain ⟨M1, m1, p1, p2, p0, p9, p7, p22, q1, q3, q8, q15, fin⟩ := act_rec hI hC hR
        obtain ⟨m2, g1, g2, g3, g4⟩ := appendC_s (m := M1 0) (v := v) hI0 (by rw [p0]; exact cB) hb (by omega)
        have hB2 : BI nb (upB (upB B b (5 + B b 3) v) b 3 (B b 3 + 1)) := BI_one (b := b) hI0 (fun x hx => by rw [upB_x hx, upB_x hx]) (by
          have a3 : upB (upB B b (5 + B b 3) v) b 3 (B b 3 + 1) b 3 = B b 3 + 1 := upB_at
          have ao : ∀ k, k ≠ 3 → k ≠ 5 + B b 3 → upB (upB B b (5 + B b 3) v) b 3 (B b 3 + 1) b k = B b k := fun k h1 h2 => by rw [upB_o (Or.inr h1), upB_o (Or.inr h2)]
          have a5 : upB (upB B b (5 + B b 3) v) b 3 (B b 3 + 1) b (5 + B b 3) = v := by rw [upB_o (Or.inr (by omega)), upB_at]
          unfold BR
          rw [a3, ao 0 (by decide) (by omega), ao 1 (by decide) (by omega), ao 2 (by decide) (by omega), ao 4 (by decide) (by omega)]
          refine ⟨hbi.1, hbi.2.1, hbi.2.2.1, by omega, by omega, by omega, fun r hr => ?_⟩
          by_cases f : r = B b 3
          · subst f
            rw [a5]
            exact ⟨v1, v2⟩
          · rw [ao _ (by omega) (by omega)]
            exact hbi.2.2.2.2.2.2 r (by omega))
        obtain ⟨m3, s1, s2, s3⟩ := setM hB2 hQ0 g3 (cQ.fr (by rw [g2 0 (by omega) (by omega), p0]) (fun q hq => by rw [g2 _ (by omega) (by omega), p0])) (show CH m2 pl tu by unfold CH; rw [g2 0 (by omega) (by omega), p0]; exact cH)
        have zB1 : ZB (m1 1) nb B := by rw [q1]; exact zB
        have w1 := put_s (m := m1) (b := b) (k := 5 + B b 3) (v := nI v) (by omega) (by omega)
        have w2 := put_s (m := up m1 1 (4 + 21 * b + (5 + B b 3)) (nI v)) (b := b) (k := 3) (v := nI (B b 3 + 1)) (by omega) (by omega)
        obtain ⟨m4, t1, t2, t3, t4, t5⟩ := settle_s (m := up (up m1 1 (4 + 21 * b + (5 + B b 3)) (nI v)) 1 (4 + 21 * b + 3) (nI (B b 3 + 1))) hB2 hQ0 ((zB1.put (by omega)).put (by decide)) (ZQ.putB (ZQ.putB (by rw [q1]; exact zQ) (by omega) (by omega)) (by omega) (by decide)) (ZH.put (ZH.put (by rw [q1]; exact zH) (by omega)) (by omega))
        refine fin (r := nI (B b 3 + 1)) (M2 := gs M1 0 m3) (S2 := (nb, nq, pl, tu, upB (upB B b (5 + B b 3) v) b 3 (B b 3 + 1), stl nb (upB (upB B b (5 + B b 3) v) b 3 (B b 3 + 1)) nq Q)) (SI_mk hB2 hQ0 hpl htu) (fun g hg => gs_ne hg) (by rw [gs_at]; exact s2) ((SX.up1.tr SX.up1).tr t2) ⟨t3, t4, t5⟩ ?_ ?_
        · unfold f_X5_addRow f_X0_allows
          have e4 : m3 (3 + b) 4 = nI (B b 3 + 1) := by rw [s3 _ (by omega)]; exact g4
          simp (disch := omega) only [ile_t, ile_f, ilt_t, ilt_f, ieq_t, ieq_f, gd_nI, gn_nI, gz_nI, b1_some, bd_some, lt1_eq, nI_add, nI_mul, nI_clamp, if_true, if_false, e1, c2, c3, e, c4, p1, g1, gs_at, gs_gs, s1, e4]
        · unfold f_X6_addRow
          simp (disch := omega) only [ile_t, ile_f, ilt_t, ilt_f, ieq_t, ieq_f, gd_nI, gn_nI, gz_nI, b1_some, bd_some, lt1_eq, nI_add, nI_mul, nI_clamp, if_true, if_false, e2, o1, o2, o3, in_eq, e, p2, w1, w2, t1]
theorem hasR_f (h : f_X4_hasBlock m (nI b) = some (nI 1)) (hb : b < 8) (h4 : m (3 + b) 4 = nI n) (hn : n ≤ 16) (p : Int32) : (f_X4_hasRow m (nI b) p = some (nI 0) ∧ (p < 0 ∨ ∃ r, n ≤ r ∧ r < 2 ^ 31 ∧ p = nI r)) ∨ ∃ r, r < n ∧ p = nI r ∧ f_X4_hasRow m (nI b) p = some (nI 1) := by
  unfold f_X4_hasRow
  rcases nI_ex p with ⟨r, hr, rfl⟩ | hp
  · by_cases c : r < n
    · right
      refine ⟨r, c, rfl, ?_⟩
      have e := ft_t c (by omega)
      simp (disch := omega) only [ile_t, ile_f, ilt_t, ilt_f, ieq_t, ieq_f, gd_nI, gn_nI, gz_nI, b1_some, bd_some, lt1_eq, nI_add, nI_mul, nI_clamp, if_true, if_false, h, h4, e]
    · left
      refine ⟨?_, Or.inr ⟨r, by omega, hr, rfl⟩⟩
      have e := ft_f (n := n) (b := r) (by omega) (by omega) hr
      simp (disch := omega) only [ile_t, ile_f, ilt_t, ilt_f, ieq_t, ieq_f, gd_nI, gn_nI, gz_nI, b1_some, bd_some, lt1_eq, nI_add, nI_mul, nI_clamp, if_true, if_false, h, h4, e]
  · left
    refine ⟨?_, Or.inl hp⟩
    have e := ft_n (y := nI n - nI 1) hp
    simp (disch := omega) only [ile_t, ile_f, ilt_t, ilt_f, ieq_t, ieq_f, gd_nI, gn_nI, gz_nI, b1_some, bd_some, lt1_eq, nI_add, nI_mul, nI_clamp, if_true, if_false, h, h4, e]
theorem st_change (a0 a1 a2 : Int32) : stepOK Rel (fun M => f_X5_change M a0 a1 a2) (fun m => f_X6_change m a0 a1 a2) := by
  refine mkStep fun M S hn Hs ks K tl tx hI hC hR => ?_
  obtain ⟨nb, nq, pl, tu, B, Q⟩ := S
  have hI0 : BI nb B := hI.1.1
  have hQ0 : QQ nq Q := hI.1.2.1
  have hpl : pl ≤ 2 := hI.1.2.2.1
  have htu : tu < 8 := hI.1.2.2.2.1
  have hSD : SD nb B nq Q := hI.1.2.2.2.2
  have cB : CB (M 0) nb B := hC.1.1
  have cQ : CQ (M 0) nq Q := hC.1.2.1
  have cH : CH (M 0) pl tu := hC.1.2.2.1
  have cW : CW (M 0) nb B nq Q := hC.1.2.2.2
  have zB : ZB (M 9 1) nb B := hR.1.1
  have zQ : ZQ (M 9 1) nq Q := hR.1.2.1
  have zH : ZH (M 9 1) pl tu := hR.1.2.2
  have h8 := hI0.1
  have h6 := hQ0.1
  rcases blk a0 h8 cB zB with ⟨e1, e2⟩ | ⟨b, hb, rfl, e1, e2⟩
  · refine ref_fin (r := -1) hI hC hR ?_ ?_
    · unfold f_X5_change f_X4_hasRow
      simp (disch := omega) only [ile_t, ile_f, ilt_t, ilt_f, ieq_t, ieq_f, gd_nI, gn_nI, gz_nI, b1_some, bd_some, lt1_eq, nI_add, nI_mul, nI_clamp, if_true, if_false, e1]
    · unfold f_X6_change
      simp (disch := omega) only [ile_t, ile_f, ilt_t, ilt_f, ieq_t, ieq_f, gd_nI, gn_nI, gz_nI, b1_some, bd_some, lt1_eq, nI_add, nI_mul, nI_clamp, if_true, if_false, e2]
  · have hbi := hI0.2 b hb
    obtain ⟨c1, c2, c3, c4, c5, c6, c7, c8, c9⟩ := cB.2 b hb
    have o1 := of_s (k := 1) zB (b := b) (by omega) (by decide)
    have o2 := of_s (k := 2) zB (b := b) (by omega) (by decide)
    have o3 := of_s (k := 3) zB (b := b) (by omega) (by decide)
    rcases hasR_f e1 (by omega) c4 hbi.2.2.2.2.1 a1 with ⟨x1, x2⟩ | ⟨r, hr, rfl, x1⟩
    · refine ref_fin (r := -1) hI hC hR ?_ ?_
      · unfold f_X5_change
        simp (disch := omega) only [ile_t, ile_f, ilt_t, ilt_f, ieq_t, ieq_f, gd_nI, gn_nI, gz_nI, b1_some, bd_some, lt1_eq, nI_add, nI_mul, nI_clamp, if_true, if_false, x1]
      · unfold f_X6_change
        rcases x2 with x2 | ⟨r, r1, r2, rfl⟩
        · have x3 := lt_nI_neg x2 (n := 0) (by decide)
          simp (disch := omega) only [ile_t, ile_f, ilt_t, ilt_f, ieq_t, ieq_f, gd_nI, gn_nI, gz_nI, b1_some, bd_some, lt1_eq, nI_add, nI_mul, nI_clamp, if_true, if_false, e2]
          rw [if_pos x3]
        · simp (disch := omega) only [ile_t, ile_f, ilt_t, ilt_f, ieq_t, ieq_f, gd_nI, gn_nI, gz_nI, b1_some, bd_some, lt1_eq, nI_add, nI_mul, nI_clamp, if_true, if_false, e2, o3]
    · have o5 := of_s (k := 5 + r) zB (b := b) (by omega) (by omega)
      have hv := hbi.2.2.2.2.2.2 r hr
      have c9 := c9 r hr
      rcases ftN (x := B b 1) (y := B b 2) a2 (by omega) (by omega) with e | ⟨v, rfl, v1, v2, e⟩
      · refine ref_fin (r := -2) hI hC hR ?_ ?_
        · unfold f_X5_change f_X0_allows
          simp (disch := omega) only [ile_t, ile_f, ilt_t, ilt_f, ieq_t, ieq_f, gd_nI, gn_nI, gz_nI, b1_some, bd_some, lt1_eq, nI_add, nI_mul, nI_clamp, if_true, if_false, x1, c2, c3, e]
        · unfold f_X6_change
          simp (disch := omega) only [ile_t, ile_f, ilt_t, ilt_f, ieq_t, ieq_f, gd_nI, gn_nI, gz_nI, b1_some, bd_some, lt1_eq, nI_add, nI_mul, nI_clamp, if_true, if_false, e2, o1, o2, o3, in_eq, e]
      · by_cases d : B b (5 + r) = v
        · refine ref_fin (r := -5) hI hC hR ?_ ?_
          · unfold f_X5_change f_X0_allows
            simp (disch := omega) only [ile_t, ile_f, ilt_t, ilt_f, ieq_t, ieq_f, gd_nI, gn_nI, gz_nI, b1_some, bd_some, lt1_eq, nI_add, nI_mul, nI_clamp, if_true, if_false, x1, c2, c3, e, c9]
          · unfold f_X6_change
            simp (disch := omega) only [ile_t, ile_f, ilt_t, ilt_f, ieq_t, ieq_f, gd_nI, gn_nI, gz_nI, b1_some, bd_some, lt1_eq, nI_add, nI_mul, nI_clamp, if_true, if_false, e2, o1, o2, o3, o5, in_eq, e]
        · obtain ⟨M1, m1, p1, p2, p0, p9, p7, p22, q1, q3, q8, q15, fin⟩ := act_rec hI hC hR
          obtain ⟨m2, g1, g2, g3⟩ := putC_s (m := M1 0) (v := v) hI0 (by rw [p0]; exact cB) hb hr (by omega)
          have ao : ∀ k, k ≠ 5 + r → upB B b (5 + r) v b k = B b k := fun k h1 => upB_o (Or.inr h1)
          have hB2 : BI nb (upB B b (5 + r) v) := BI_one (b := b) hI0 (fun x hx => upB_x hx) (by
            have a5 : upB B b (5 + r) v b (5 + r) = v := upB_at
            unfold BR
            rw [ao 0 (by omega), ao 1 (by omega), ao 2 (by omega), ao 3 (by omega), ao 4 (by omega)]
            refine ⟨hbi.1, hbi.2.1, hbi.2.2.1, hbi.2.2.2.1, hbi.2.2.2.2.1, hbi.2.2.2.2.2.1, fun i hi => ?_⟩
            by_cases f : i = r
            · subst f
              rw [a5]
              exact ⟨v1, v2⟩
            · rw [ao _ (by omega)]
              exact hbi.2.2.2.2.2.2 i hi)
          obtain ⟨m3, s1, s2, s3⟩ := setM hB2 hQ0 g3 (cQ.fr (by rw [g2 0 (by omega) (by omega), p0]) (fun q hq => by rw [g2 _ (by omega) (by omega), p0])) (show CH m2 pl tu by unfold CH; rw [g2 0 (by omega) (by omega), p0]; exact cH)
          have zB1 : ZB (m1 1) nb B := by rw [q1]; exact zB
          have w1 := put_s (m := m1) (b := b) (k := 5 + r) (v := nI v) (by omega) (by omega)
          obtain ⟨m4, t1, t2, t3, t4, t5⟩ := settle_s (m := up m1 1 (4 + 21 * b + (5 + r)) (nI v)) hB2 hQ0 (zB1.put (by omega)) (ZQ.putB (by rw [q1]; exact zQ) (by omega) (by omega)) (ZH.put (by rw [q1]; exact zH) (by omega))
          have o4 := of_s (k := 4) t3 (b := b) (by omega) (by decide)
          rw [ao 4 (by omega)] at o4
          have e5 : m3 (3 + b) 5 = nI (B b 4) := by
            have := (g3.2 b hb).2.2.2.2.1
            rw [ao 4 (by omega)] at this
            rw [s3 _ (by omega)]
            exact this
          refine fin (r := if B b 4 ≤ r then nI 0 else nI 1) (M2 := gs M1 0 m3) (S2 := (nb, nq, pl, tu, upB B b (5 + r) v, stl nb (upB B b (5 + r) v) nq Q)) (SI_mk hB2 hQ0 hpl htu) (fun g hg => gs_ne hg) (by rw [gs_at]; exact s2) (SX.up1.tr t2) ⟨t3, t4, t5⟩ ?_ ?_
          · unfold f_X5_change f_X0_allows
            by_cases f : B b 4 ≤ r
            · simp (disch := omega) only [ile_t, ile_f, ilt_t, ilt_f, ieq_t, ieq_f, gd_nI, gn_nI, gz_nI, b1_some, bd_some, lt1_eq, nI_add, nI_mul, nI_clamp, if_true, if_false, x1, c2, c3, e, c9, p1, g1, gs_at, gs_gs, s1, e5, f]
            · simp (disch := omega) only [ile_t, ile_f, ilt_t, ilt_f, ieq_t, ieq_f, gd_nI, gn_nI, gz_nI, b1_some, bd_some, lt1_eq, nI_add, nI_mul, nI_clamp, if_true, if_false, x1, c2, c3, e, c9, p1, g1, gs_at, gs_gs, s1, e5, f]
          · unfold f_X6_change
            by_cases f : B b 4 ≤ r
            · simp (disch := omega) only [ile_t, ile_f, ilt_t, ilt_f, ieq_t, ieq_f, gd_nI, gn_nI, gz_nI, b1_some, bd_some, lt1_eq, nI_add, nI_mul, nI_clamp, if_true, if_false, e2, o1, o2, o3, o5, in_eq, e, p2, w1, t1, o4, f]
            · simp (disch := omega) only [ile_t, ile_f, ilt_t, ilt_f, ieq_t, ieq_f, gd_nI, gn_nI, gz_nI, b1_some, bd_some, lt1_eq, nI_add, nI_mul, nI_clamp, if_true, if_false, e2, o1, o2, o3, o5, in_eq, e, p2, w1, t1, o4, f]
end SA
