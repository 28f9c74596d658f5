/-! THE STEPS: ask, setTolerance, stop -/
section SC
variable {m m' : SM} {M : MM} {nb nq pl tu b q k how ls n v t : Nat} {B B2 Q Q2 : BK} {f : Nat → Nat}
theorem ask_arg (a0 a1 a2 a3 : Int32) (M : MM) (m : SM) : (f_X5_ask M a0 a1 a2 a3 = some (-2, M) ∧ f_X6_ask m a0 a1 a2 a3 = some (-2, m)) ∨ ∃ k l li t : Nat, a0 = nI k ∧ a1 = nI l ∧ a2 = nI li ∧ a3 = nI t ∧ k ≤ 4 ∧ 1 ≤ l ∧ l ≤ 15 ∧ li ≤ 999 ∧ t ≤ 99999 ∧ f_X5_ask M a0 a1 a2 a3 = f_X5_ask_L55 a0 a1 a2 a3 M (nI 1) ∧ f_X6_ask m a0 a1 a2 a3 = f_X6_ask_L55 a0 a1 a2 a3 m (nI 1) := by
  have z5 : f_X5_ask_L54 a0 a1 a2 a3 M = some (-2, M) := by
    unfold f_X5_ask_L54 f_X5_ask_L55
    rw [ieq_t rfl]
  have z6 : f_X6_ask_L54 a0 a1 a2 a3 m = some (-2, m) := by
    unfold f_X6_ask_L54 f_X6_ask_L55
    rw [ieq_t rfl]
  unfold f_X5_ask f_X6_ask
  simp only [in_eq]
  rcases ftN (x := 0) (y := 4) a0 (by decide) (by decide) with e | ⟨k, rfl, k1, k2, e⟩
  · left
    rw [e]
    simp (disch := omega) only [ile_t, ile_f, ilt_t, ilt_f, ieq_t, ieq_f, gd_nI, gn_nI, gz_nI, b1_some, bd_some, lt1_eq, nI_add, nI_mul, nI_clamp, if_true, if_false, z5, z6, and_self]
  · rw [e]
    rcases ftN (x := 1) (y := 15) a1 (by decide) (by decide) with e | ⟨l, rfl, l1, l2, e⟩
    · left
      rw [e]
      simp (disch := omega) only [ile_t, ile_f, ilt_t, ilt_f, ieq_t, ieq_f, gd_nI, gn_nI, gz_nI, b1_some, bd_some, lt1_eq, nI_add, nI_mul, nI_clamp, if_true, if_false, z5, z6, and_self]
    · rw [e]
      have L : ∀ s : Nat, s ≤ 999 → (f_X5_ask_L33 (nI k) (nI l) a2 a3 M (nI s) = some (-2, M) ∧ f_X6_ask_L33 (nI k) (nI l) a2 a3 m (nI s) = some (-2, m)) ∨ ∃ li t : Nat, a2 = nI li ∧ a3 = nI t ∧ li ≤ 999 ∧ t ≤ 99999 ∧ f_X5_ask_L33 (nI k) (nI l) a2 a3 M (nI s) = f_X5_ask_L55 (nI k) (nI l) a2 a3 M (nI 1) ∧ f_X6_ask_L33 (nI k) (nI l) a2 a3 m (nI s) = f_X6_ask_L55 (nI k) (nI l) a2 a3 m (nI 1) := by
        intro s hs
        unfold f_X5_ask_L33 f_X6_ask_L33
        simp only [in_eq]
        rcases ftN (x := 0) (y := s) a2 (by decide) (by omega) with e | ⟨li, rfl, i1, i2, e⟩
        · left
          rw [e]
          simp (disch := omega) only [ile_t, ile_f, ilt_t, ilt_f, ieq_t, ieq_f, gd_nI, gn_nI, gz_nI, b1_some, bd_some, lt1_eq, nI_add, nI_mul, nI_clamp, if_true, if_false, z5, z6, and_self]
        · rw [e]
          rcases ftN (x := 0) (y := 99999) a3 (by decide) (by decide) with e | ⟨t, rfl, t1, t2, e⟩
          · left
            rw [e]
            simp (disch := omega) only [ile_t, ile_f, ilt_t, ilt_f, ieq_t, ieq_f, gd_nI, gn_nI, gz_nI, b1_some, bd_some, lt1_eq, nI_add, nI_mul, nI_clamp, if_true, if_false, z5, z6, and_self]
          · right
            rw [e]
            refine ⟨li, t, rfl, rfl, by omega, t2, ?_, ?_⟩
            · simp (disch := omega) only [ile_t, ile_f, ilt_t, ilt_f, ieq_t, ieq_f, gd_nI, gn_nI, gz_nI, b1_some, bd_some, lt1_eq, nI_add, nI_mul, nI_clamp, if_true, if_false]
            · simp (disch := omega) only [ile_t, ile_f, ilt_t, ilt_f, ieq_t, ieq_f, gd_nI, gn_nI, gz_nI, b1_some, bd_some, lt1_eq, nI_add, nI_mul, nI_clamp, if_true, if_false]
      have go : ∀ s : Nat, s ≤ 999 → (f_X5_ask_L33 (nI k) (nI l) a2 a3 M (nI s) = some (-2, M) ∧ f_X6_ask_L33 (nI k) (nI l) a2 a3 m (nI s) = some (-2, m)) ∨ ∃ k' l' li t : Nat, nI k = nI k' ∧ nI l = nI l' ∧ a2 = nI li ∧ a3 = nI t ∧ k' ≤ 4 ∧ 1 ≤ l' ∧ l' ≤ 15 ∧ li ≤ 999 ∧ t ≤ 99999 ∧ f_X5_ask_L33 (nI k) (nI l) a2 a3 M (nI s) = f_X5_ask_L55 (nI k) (nI l) a2 a3 M (nI 1) ∧ f_X6_ask_L33 (nI k) (nI l) a2 a3 m (nI s) = f_X6_ask_L55 (nI k) (nI l) a2 a3 m (nI 1) := by
        intro s hs
        rcases L s hs with h | ⟨li, t, h1, h2, h3, h4, h5, h6⟩
        · exact Or.inl h
        · exact Or.inr ⟨k, l, li, t, rfl, rfl, h1, h2, k2, l1, l2, h3, h4, h5, h6⟩
      by_cases c : k = 1
      · simp (disch := omega) only [ile_t, ile_f, ilt_t, ilt_f, ieq_t, ieq_f, gd_nI, gn_nI, gz_nI, b1_some, bd_some, lt1_eq, nI_add, nI_mul, nI_clamp, if_true, if_false]
        exact go 999 (Nat.le_refl _)
      · simp (disch := omega) only [ile_t, ile_f, ilt_t, ilt_f, ieq_t, ieq_f, gd_nI, gn_nI, gz_nI, b1_some, bd_some, lt1_eq, nI_add, nI_mul, nI_clamp, if_true, if_false]
        exact go 0 (by decide)
theorem ZQ.cnt (h : ZQ (m 1) nq Q) : ZQ (up m 1 1 (nI n) 1) n Q := ⟨up_same, fun q k hq hk => by rw [up_o (Or.inr (by omega))]; exact h.2 q k hq hk⟩
theorem ZB.k1 {x : Int32} (h : ZB (m 1) nb B) : ZB (up m 1 1 x 1) nb B := ⟨by rw [up_o (Or.inr (by decide))]; exact h.1, fun b k hb hk => by rw [up_o (Or.inr (by omega))]; exact h.2 b k hb hk⟩
theorem ZH.k1 {x : Int32} (h : ZH (m 1) pl tu) : ZH (up m 1 1 x 1) pl tu := ⟨by rw [up_o (Or.inr (by decide))]; exact h.1, by rw [up_o (Or.inr (by decide))]; exact h.2⟩
theorem ZB.pq {x : Int32} (h : ZB (m 1) nb B) : ZB (up m 1 (172 + 8 * q + k) x 1) nb B := by
  rw [Nat.add_assoc]
  exact h.putQ
theorem ZH.pq {x : Int32} (h : ZH (m 1) pl tu) : ZH (up m 1 (172 + 8 * q + k) x 1) pl tu := h.put (by omega)
theorem setR_upB5 {k l li t : Nat} : upB (upB (upB (upB (upB Q q 0 k) q 1 l) q 2 li) q 3 t) q 4 0 = setR Q q (upB (upB (upB (upB (upB Q q 0 k) q 1 l) q 2 li) q 3 t) q 4 0 q) := by
  funext x
  unfold setR
  by_cases c : x = q
  · rw [if_pos c, c]
  · rw [if_neg c, upB_x c, upB_x c, upB_x c, upB_x c, upB_x c]
theorem st_ask (a0 a1 a2 a3 : Int32) : stepOK Rel (fun M => f_X5_ask M a0 a1 a2 a3) (fun m => f_X6_ask m a0 a1 a2 a3) := by
  refine mkStep fun M S hn Hs ks K tl tx hI hC hR => ?_
  obtain ⟨nb, nq, pl, tu, B, Q⟩ := S
  have hI0 : BI nb B := hI.1.1
  have hQ0 : QQ nq Q := hI.1.2.1
  have hpl : pl ≤ 2 := hI.1.2.2.1
  have htu : tu < 8 := hI.1.2.2.2.1
  have hSD : SD nb B nq Q := hI.1.2.2.2.2
  have cB : CB (M 0) nb B := hC.1.1
  have cQ : CQ (M 0) nq Q := hC.1.2.1
  have cH : CH (M 0) pl tu := hC.1.2.2.1
  have cW : CW (M 0) nb B nq Q := hC.1.2.2.2
  have zB : ZB (M 9 1) nb B := hR.1.1
  have zQ : ZQ (M 9 1) nq Q := hR.1.2.1
  have zH : ZH (M 9 1) pl tu := hR.1.2.2
  have h8 := hI0.1
  have h6 := hQ0.1
  rcases ask_arg a0 a1 a2 a3 M (M 9) with ⟨e1, e2⟩ | ⟨k, l, li, t, rfl, rfl, rfl, rfl, hk, hl1, hl2, hli, ht, e1, e2⟩
  · exact ref_fin (r := -2) hI hC hR e1 e2
  · by_cases d : nq = 6
    · refine ref_fin (r := -3) hI hC hR (e1.trans ?_) (e2.trans ?_)
      · unfold f_X5_ask_L55
        simp (disch := omega) only [ile_t, ile_f, ilt_t, ilt_f, ieq_t, ieq_f, gd_nI, gn_nI, gz_nI, b1_some, bd_some, lt1_eq, nI_add, nI_mul, nI_clamp, if_true, if_false, cQ.1]
      · unfold f_X6_ask_L55
        simp (disch := omega) only [ile_t, ile_f, ilt_t, ilt_f, ieq_t, ieq_f, gd_nI, gn_nI, gz_nI, b1_some, bd_some, lt1_eq, nI_add, nI_mul, nI_clamp, if_true, if_false, zQ.1]
    · obtain ⟨M1, m1, p1, p2, p0, p9, p7, p22, q1, q3, q8, q15, fin⟩ := act_rec hI hC hR
      generalize hQ2 : upB (upB (upB (upB (upB Q nq 0 k) nq 1 l) nq 2 li) nq 3 t) nq 4 0 = Q2
      have hs : Q2 = setR Q nq (Q2 nq) := by rw [← hQ2]; exact setR_upB5
      have k0 : Q2 nq 0 = k := by rw [← hQ2, upB_o (Or.inr (by decide)), upB_o (Or.inr (by decide)), upB_o (Or.inr (by decide)), upB_o (Or.inr (by decide)), upB_at]
      have k1 : Q2 nq 1 = l := by rw [← hQ2, upB_o (Or.inr (by decide)), upB_o (Or.inr (by decide)), upB_o (Or.inr (by decide)), upB_at]
      have k2 : Q2 nq 2 = li := by rw [← hQ2, upB_o (Or.inr (by decide)), upB_o (Or.inr (by decide)), upB_at]
      have k3 : Q2 nq 3 = t := by rw [← hQ2, upB_o (Or.inr (by decide)), upB_at]
      have k4 : Q2 nq 4 = 0 := by rw [← hQ2, upB_at]
      obtain ⟨m2, g1, g2, g3, g4⟩ := addQC_s (m := M1 0) (f := Q2 nq) hQ0 (by rw [p0]; exact cQ) (by omega) k0 k1 k2 k3 k4
      rw [← hs] at g4
      have hQQ2 : QQ (nq + 1) Q2 := by
        refine ⟨by omega, fun x hx => ?_⟩
        by_cases c : x = nq
        · subst c
          rw [k0, k1, k2, k3, k4]
          exact ⟨hk, hl1, hl2, hli, ht, by decide⟩
        · rw [hs]
          unfold setR
          rw [if_neg c]
          exact hQ0.2 x (by omega)
      obtain ⟨m3, s1, s2, s3⟩ := setM hI0 hQQ2 (cB.cp h8 (by rw [g3 2 (by decide), p0]) (fun c h1 h2 => by rw [g2 c (by omega) h2, p0])) g4 (show CH m2 pl tu by unfold CH; rw [g3 4 (by decide), g3 5 (by decide), p0]; exact cH)
      have zB1 : ZB (m1 1) nb B := by rw [q1]; exact zB
      have zQ1 : ZQ (m1 1) nq Q := by rw [q1]; exact zQ
      have zH1 : ZH (m1 1) pl tu := by rw [q1]; exact zH
      have w0 := fun (mm : SM) => putAsked_s (m := mm) (q := nq) (k := 0) (v := nI k) (by omega) (by decide)
      have w1 := fun (mm : SM) => putAsked_s (m := mm) (q := nq) (k := 1) (v := nI l) (by omega) (by decide)
      have w2 := fun (mm : SM) => putAsked_s (m := mm) (q := nq) (k := 2) (v := nI li) (by omega) (by decide)
      have w3 := fun (mm : SM) => putAsked_s (m := mm) (q := nq) (k := 3) (v := nI t) (by omega) (by decide)
      have w4 := fun (mm : SM) => putAsked_s (m := mm) (q := nq) (k := 4) (v := nI 0) (by omega) (by decide)
      have y0 := (((((zQ1.cnt (n := nq + 1)).put (q := nq) (k := 0) (v := k) (by decide)).put (q := nq) (k := 1) (v := l) (by decide)).put (q := nq) (k := 2) (v := li) (by decide)).put (q := nq) (k := 3) (v := t) (by decide)).put (q := nq) (k := 4) (v := 0) (by decide)
      rw [hQ2] at y0
      obtain ⟨m4, t1, t2, t3, t4, t5⟩ := settle_s (pl := pl) (tu := tu) hI0 hQQ2 (ZB.pq (ZB.pq (ZB.pq (ZB.pq (ZB.pq (ZB.k1 zB1)))))) y0 (ZH.pq (ZH.pq (ZH.pq (ZH.pq (ZH.pq (ZH.k1 zH1))))))
      refine fin (r := nI nq) (M2 := gs M1 0 m3) (S2 := (nb, nq + 1, pl, tu, B, stl nb B (nq + 1) Q2)) (SI_mk hI0 hQQ2 hpl htu) (fun g hg => gs_ne hg) (by rw [gs_at]; exact s2) ((((((SX.up1.tr SX.up1).tr SX.up1).tr SX.up1).tr SX.up1).tr SX.up1).tr t2) ⟨t3, t4, t5⟩ (e1.trans ?_) (e2.trans ?_)
      · unfold f_X5_ask_L55
        simp (disch := omega) only [ile_t, ile_f, ilt_t, ilt_f, ieq_t, ieq_f, gd_nI, gn_nI, gz_nI, b1_some, bd_some, lt1_eq, nI_add, nI_mul, nI_clamp, if_true, if_false, cQ.1, p1, g1, gs_at, gs_gs, s1]
      · unfold f_X6_ask_L55
        simp (disch := omega) only [ile_t, ile_f, ilt_t, ilt_f, ieq_t, ieq_f, gd_nI, gn_nI, gz_nI, b1_some, bd_some, lt1_eq, nI_add, nI_mul, nI_clamp, if_true, if_false, zQ.1, p2, zQ1.1, w0, w1, w2, w3, w4, t1]
theorem QQ_one (h : QQ nq Q) (ho : ∀ x, x ≠ q → Q2 x = Q x) (hb : Q2 q 0 ≤ 4 ∧ 1 ≤ Q2 q 1 ∧ Q2 q 1 ≤ 15 ∧ Q2 q 2 ≤ 999 ∧ Q2 q 3 ≤ 99999 ∧ Q2 q 4 ≤ 1) : QQ nq Q2 := by
  refine ⟨h.1, fun x hx => ?_⟩
  by_cases c : x = q
  · subst c; exact hb
  · rw [ho x c]; exact h.2 x hx
theorem st_setTol (a0 a1 : Int32) : stepOK Rel (fun M => f_X5_setTolerance M a0 a1) (fun m => f_X6_setTolerance m a0 a1) := by
  refine mkStep fun M S hn Hs ks K tl tx hI hC hR => ?_
  obtain ⟨nb, nq, pl, tu, B, Q⟩ := S
  have hI0 : BI nb B := hI.1.1
  have hQ0 : QQ nq Q := hI.1.2.1
  have hpl : pl ≤ 2 := hI.1.2.2.1
  have htu : tu < 8 := hI.1.2.2.2.1
  have hSD : SD nb B nq Q := hI.1.2.2.2.2
  have cB : CB (M 0) nb B := hC.1.1
  have cQ : CQ (M 0) nq Q := hC.1.2.1
  have cH : CH (M 0) pl tu := hC.1.2.2.1
  have cW : CW (M 0) nb B nq Q := hC.1.2.2.2
  have zB : ZB (M 9 1) nb B := hR.1.1
  have zQ : ZQ (M 9 1) nq Q := hR.1.2.1
  have zH : ZH (M 9 1) pl tu := hR.1.2.2
  have h8 := hI0.1
  have h6 := hQ0.1
  rcases qst a0 h6 cQ zQ with ⟨e1, e2⟩ | ⟨q, hq, rfl, e1, e2⟩
  · refine ref_fin (r := -1) hI hC hR ?_ ?_
    · unfold f_X5_setTolerance
      simp (disch := omega) only [ile_t, ile_f, ilt_t, ilt_f, ieq_t, ieq_f, gd_nI, gn_nI, gz_nI, b1_some, bd_some, lt1_eq, nI_add, nI_mul, nI_clamp, if_true, if_false, e1]
    · unfold f_X6_setTolerance
      simp (disch := omega) only [ile_t, ile_f, ilt_t, ilt_f, ieq_t, ieq_f, gd_nI, gn_nI, gz_nI, b1_some, bd_some, lt1_eq, nI_add, nI_mul, nI_clamp, if_true, if_false, e2]
  · have hqq := hQ0.2 q hq
    obtain ⟨c0, c1, c2, c3, c4, c5⟩ := cQ.2 q hq
    have o3 := asked_s (k := 3) zQ (q := q) (by omega) (by decide)
    have o4 := asked_s (k := 4) zQ (q := q) (by omega) (by decide)
    rcases ftN (x := 0) (y := 99999) a1 (by decide) (by decide) with e | ⟨t, rfl, t1, t2, e⟩
    · refine ref_fin (r := -2) hI hC hR ?_ ?_
      · unfold f_X5_setTolerance
        simp (disch := omega) only [ile_t, ile_f, ilt_t, ilt_f, ieq_t, ieq_f, gd_nI, gn_nI, gz_nI, b1_some, bd_some, lt1_eq, nI_add, nI_mul, nI_clamp, if_true, if_false, e1, e]
      · unfold f_X6_setTolerance
        simp (disch := omega) only [ile_t, ile_f, ilt_t, ilt_f, ieq_t, ieq_f, gd_nI, gn_nI, gz_nI, b1_some, bd_some, lt1_eq, nI_add, nI_mul, nI_clamp, if_true, if_false, e2, in_eq, e]
    · by_cases d4 : Q q 4 = 0
      · by_cases d3 : Q q 3 = t
        · refine ref_fin (r := -5) hI hC hR ?_ ?_
          · unfold f_X5_setTolerance
            simp (disch := omega) only [ile_t, ile_f, ilt_t, ilt_f, ieq_t, ieq_f, gd_nI, gn_nI, gz_nI, b1_some, bd_some, lt1_eq, nI_add, nI_mul, nI_clamp, if_true, if_false, e1, e, c4, c3]
          · unfold f_X6_setTolerance
            simp (disch := omega) only [ile_t, ile_f, ilt_t, ilt_f, ieq_t, ieq_f, gd_nI, gn_nI, gz_nI, b1_some, bd_some, lt1_eq, nI_add, nI_mul, nI_clamp, if_true, if_false, e2, in_eq, e, o4, o3]
        · obtain ⟨M1, m1, p1, p2, p0, p9, p7, p22, q1, q3, q8, q15, fin⟩ := act_rec hI hC hR
          have fr : ∀ c, c ≠ 19 + q → up (M1 0) (19 + q) 3 (nI t) c = M 0 c := fun c hc => by rw [up_c hc, p0]
          have kr : ∀ k, k ≠ 3 → up (M1 0) (19 + q) 3 (nI t) (19 + q) k = M 0 (19 + q) k := fun k hk => by rw [up_o (Or.inr hk), p0]
          have ao : ∀ k, k ≠ 3 → upB Q q 3 t q k = Q q k := fun k hk => upB_o (Or.inr hk)
          have g4 : CQ (up (M1 0) (19 + q) 3 (nI t)) nq (upB Q q 3 t) := by
            rw [upB_setR]
            refine cQ.put (by rw [fr 0 (by omega)]) (fun x hx hxq => fr _ (by omega)) ?_
            refine ⟨by rw [kr _ (by decide)]; exact c0, by rw [kr _ (by decide)]; exact c1, by rw [kr _ (by decide)]; exact c2, by rw [up_same]; rfl, by rw [kr _ (by decide)]; exact c4, fun h => ?_⟩
            have h : Q q 4 = 1 := h
            omega
          have hQQ2 : QQ nq (upB Q q 3 t) := QQ_one (q := q) hQ0 (fun x hx => upB_x hx) (by
            have a3 : upB Q q 3 t q 3 = t := upB_at
            rw [a3, ao 0 (by decide), ao 1 (by decide), ao 2 (by decide), ao 4 (by decide)]
            exact ⟨hqq.1, hqq.2.1, hqq.2.2.1, hqq.2.2.2.1, t2, hqq.2.2.2.2.2⟩)
          obtain ⟨m3, s1, s2, s3⟩ := setM hI0 hQQ2 (cB.fr h8 (fun c hc => fr c (by omega))) g4 (show CH _ pl tu from cH.fr (fun c hc => fr c (by omega)))
          have zB1 : ZB (m1 1) nb B := by rw [q1]; exact zB
          have zQ1 : ZQ (m1 1) nq Q := by rw [q1]; exact zQ
          have zH1 : ZH (m1 1) pl tu := by rw [q1]; exact zH
          have w3 := putAsked_s (m := m1) (q := q) (k := 3) (v := nI t) (by omega) (by decide)
          obtain ⟨m4, u1, u2, u3, u4, u5⟩ := settle_s (pl := pl) (tu := tu) hI0 hQQ2 (ZB.pq zB1) (zQ1.put (q := q) (k := 3) (v := t) (by decide)) (ZH.pq zH1)
          refine fin (r := nI (Q q 3)) (M2 := gs M1 0 m3) (S2 := (nb, nq, pl, tu, B, stl nb B nq (upB Q q 3 t))) (SI_mk hI0 hQQ2 hpl htu) (fun g hg => gs_ne hg) (by rw [gs_at]; exact s2) (SX.up1.tr u2) ⟨u3, u4, u5⟩ ?_ ?_
          · unfold f_X5_setTolerance
            simp (disch := omega) only [ile_t, ile_f, ilt_t, ilt_f, ieq_t, ieq_f, gd_nI, gn_nI, gz_nI, b1_some, bd_some, lt1_eq, nI_add, nI_mul, nI_clamp, if_true, if_false, e1, e, c4, c3, p1, gs_at, gs_gs, s1]
          · unfold f_X6_setTolerance
            simp (disch := omega) only [ile_t, ile_f, ilt_t, ilt_f, ieq_t, ieq_f, gd_nI, gn_nI, gz_nI, b1_some, bd_some, lt1_eq, nI_add, nI_mul, nI_clamp, if_true, if_false, e2, in_eq, e, o4, o3, p2, w3, u1]
      · refine ref_fin (r := -4) hI hC hR ?_ ?_
        · unfold f_X5_setTolerance
          simp (disch := omega) only [ile_t, ile_f, ilt_t, ilt_f, ieq_t, ieq_f, gd_nI, gn_nI, gz_nI, b1_some, bd_some, lt1_eq, nI_add, nI_mul, nI_clamp, if_true, if_false, e1, e, c4]
        · unfold f_X6_setTolerance
          simp (disch := omega) only [ile_t, ile_f, ilt_t, ilt_f, ieq_t, ieq_f, gd_nI, gn_nI, gz_nI, b1_some, bd_some, lt1_eq, nI_add, nI_mul, nI_clamp, if_true, if_false, e2, in_eq, e, o4]
theorem SD_setq (h : SD nb B nq Q) : SD nb B nq (setR Q q (setq nb B (Q q))) := by
  intro x hx
  unfold setR
  by_cases c : x = q
  · rw [if_pos c]
    unfold stB
    have e : setq nb B (Q q) 4 = 1 := rfl
    rw [e]
    rfl
  · rw [if_neg c]
    exact h x hx
theorem st_stop (a0 : Int32) : stepOK Rel (fun M => f_X5_stop M a0) (fun m => f_X6_stop m a0) := by
  refine mkStep fun M S hn Hs ks K tl tx hI hC hR => ?_
  obtain ⟨nb, nq, pl, tu, B, Q⟩ := S
  have hI0 : BI nb B := hI.1.1
  have hQ0 : QQ nq Q := hI.1.2.1
  have hpl : pl ≤ 2 := hI.1.2.2.1
  have htu : tu < 8 := hI.1.2.2.2.1
  have hSD : SD nb B nq Q := hI.1.2.2.2.2
  have cB : CB (M 0) nb B := hC.1.1
  have cQ : CQ (M 0) nq Q := hC.1.2.1
  have cH : CH (M 0) pl tu := hC.1.2.2.1
  have cW : CW (M 0) nb B nq Q := hC.1.2.2.2
  have zB : ZB (M 9 1) nb B := hR.1.1
  have zQ : ZQ (M 9 1) nq Q := hR.1.2.1
  have zH : ZH (M 9 1) pl tu := hR.1.2.2
  have h8 := hI0.1
  have h6 := hQ0.1
  rcases qst a0 h6 cQ zQ with ⟨e1, e2⟩ | ⟨q, hq, rfl, e1, e2⟩
  · refine ref_fin (r := -1) hI hC hR ?_ ?_
    · unfold f_X5_stop
      simp (disch := omega) only [ile_t, ile_f, ilt_t, ilt_f, ieq_t, ieq_f, gd_nI, gn_nI, gz_nI, b1_some, bd_some, lt1_eq, nI_add, nI_mul, nI_clamp, if_true, if_false, e1]
    · unfold f_X6_stop
      simp (disch := omega) only [ile_t, ile_f, ilt_t, ilt_f, ieq_t, ieq_f, gd_nI, gn_nI, gz_nI, b1_some, bd_some, lt1_eq, nI_add, nI_mul, nI_clamp, if_true, if_false, e2]
  · have hqq := hQ0.2 q hq
    obtain ⟨c0, c1, c2, c3, c4, c5⟩ := cQ.2 q hq
    have o4 := asked_s (k := 4) zQ (q := q) (by omega) (by decide)
    by_cases d4 : Q q 4 = 0
    · have e3 := rowsC_s (ls := Q q 1) hI0 (by omega) cB
      have o5 := rowsOf_s (k := 3) zB zQ hI0 (q := q) (by omega) (by omega) (by decide)
      have hrl : rQ nb B (Q q 1) 3 ≤ 128 := rQ_le hI0 (Or.inl rfl) (Nat.le_refl _)
      by_cases f : rQ nb B (Q q 1) 3 = 0
      · rw [f] at e3 o5
        refine ref_fin (r := -4) hI hC hR ?_ ?_
        · unfold f_X5_stop
          simp (disch := omega) only [ile_t, ile_f, ilt_t, ilt_f, ieq_t, ieq_f, gd_nI, gn_nI, gz_nI, b1_some, bd_some, lt1_eq, nI_add, nI_mul, nI_clamp, if_true, if_false, e1, c4, c1, e3]
        · unfold f_X6_stop
          simp (disch := omega) only [ile_t, ile_f, ilt_t, ilt_f, ieq_t, ieq_f, gd_nI, gn_nI, gz_nI, b1_some, bd_some, lt1_eq, nI_add, nI_mul, nI_clamp, if_true, if_false, e2, o4, o5]
      · obtain ⟨M1, m1, p1, p2, p0, p9, p7, p22, q1, q3, q8, q15, fin⟩ := act_rec hI hC hR
        have g1 := ansC_s (m := M 0) (q := q) (qr := Q q) (how := 2) hI0 hqq.1 (by omega) hqq.2.2.2.1 (by decide) cB c0 c1 c2
        rw [if_neg f] at g1
        have w56 := cW q hq d4 f
        generalize hm2 : up (up (M 0) (19 + q) 7 (nI (ans nb B (Q q) 2))) (19 + q) 4 (nI 1) = m2
        have fr : ∀ c, c ≠ 19 + q → m2 c = M 0 c := fun c hc => by rw [← hm2, up_c hc, up_c hc]
        have kr : ∀ k, k ≠ 4 → k ≠ 7 → m2 (19 + q) k = M 0 (19 + q) k := fun k h4 h7 => by rw [← hm2, up_o (Or.inr h4), up_o (Or.inr h7)]
        have g4 : CQ m2 nq (setR Q q (setq nb B (Q q))) := by
          refine cQ.put (by rw [fr 0 (by omega)]) (fun x hx hxq => fr _ (by omega)) ?_
          exact ⟨by rw [kr _ (by decide) (by decide)]; exact c0, by rw [kr _ (by decide) (by decide)]; exact c1, by rw [kr _ (by decide) (by decide)]; exact c2, by rw [kr _ (by decide) (by decide)]; exact c3, by rw [← hm2, up_same]; rfl, fun _ => ⟨by rw [kr _ (by decide) (by decide)]; exact w56.1, by rw [kr _ (by decide) (by decide)]; exact w56.2, by rw [← hm2, up_o (Or.inr (by decide)), up_same]; rfl⟩⟩
        have hQQ2 : QQ nq (setR Q q (setq nb B (Q q))) := QQ_one (q := q) hQ0 (fun x hx => by unfold setR; rw [if_neg hx]) (by
          unfold setR
          rw [if_pos rfl]
          exact ⟨hqq.1, hqq.2.1, hqq.2.2.1, hqq.2.2.2.1, hqq.2.2.2.2.1, Nat.le_refl 1⟩)
        obtain ⟨m3, s1, s2, s3⟩ := setM hI0 hQQ2 (cB.fr h8 (fun c hc => fr c (by omega))) g4 (show CH _ pl tu from cH.fr (fun c hc => fr c (by omega)))
        rw [stl_SD (SD_setq hSD)] at s2
        obtain ⟨m4, u1, u2, u3, u4, u5⟩ := stopIt_s (m := m1) (pl := pl) (tu := tu) hI0 hQ0 (by rw [q1]; exact zB) (by rw [q1]; exact zQ) (by rw [q1]; exact zH) hq f
        have eq7 : setR Q q (setq nb B (Q q)) q = setq nb B (Q q) := by unfold setR; rw [if_pos rfl]
        have o7 := asked_s (k := 7) u4 (q := q) (by omega) (by decide)
        rw [eq7] at o7
        have o7 : f_X6_asked m4 (nI q) (nI 7) = some (nI (ans nb B (Q q) 2)) := o7
        have e7 : m3 (19 + q) 7 = nI (ans nb B (Q q) 2) := by
          have := (s2.2.1.2 q hq).2.2.2.2.2
          have this : setR Q q (setq nb B (Q q)) q 4 = 1 → _ ∧ _ ∧ m3 (19 + q) 7 = nI (setR Q q (setq nb B (Q q)) q 7) := this
          rw [eq7] at this
          exact (this rfl).2.2
        refine fin (r := nI (ans nb B (Q q) 2)) (M2 := gs M1 0 m3) (S2 := (nb, nq, pl, tu, B, setR Q q (setq nb B (Q q)))) ⟨hI0, hQQ2, hpl, htu, SD_setq hSD⟩ (fun g hg => gs_ne hg) (by rw [gs_at]; exact s2) u2 ⟨u3, u4, u5⟩ ?_ ?_
        · unfold f_X5_stop f_X3_finish
          simp (disch := omega) only [ile_t, ile_f, ilt_t, ilt_f, ieq_t, ieq_f, gd_nI, gn_nI, gz_nI, b1_some, bd_some, lt1_eq, nI_add, nI_mul, nI_clamp, if_true, if_false, e1, c4, c1, e3, p1, p0, g1, hm2, gs_at, gs_gs, s1, e7]
        · unfold f_X6_stop
          simp (disch := omega) only [ile_t, ile_f, ilt_t, ilt_f, ieq_t, ieq_f, gd_nI, gn_nI, gz_nI, b1_some, bd_some, lt1_eq, nI_add, nI_mul, nI_clamp, if_true, if_false, e2, o4, o5, p2, u1, o7]
    · refine ref_fin (r := -4) hI hC hR ?_ ?_
      · unfold f_X5_stop
        simp (disch := omega) only [ile_t, ile_f, ilt_t, ilt_f, ieq_t, ieq_f, gd_nI, gn_nI, gz_nI, b1_some, bd_some, lt1_eq, nI_add, nI_mul, nI_clamp, if_true, if_false, e1, c4]
      · unfold f_X6_stop
        simp (disch := omega) only [ile_t, ile_f, ilt_t, ilt_f, ieq_t, ieq_f, gd_nI, gn_nI, gz_nI, b1_some, bd_some, lt1_eq, nI_add, nI_mul, nI_clamp, if_true, if_false, e2, o4]
end SC
