/-! THE STEPS: read, readOn, type, clearText, undo, keep, restore -/
section SEe
variable {m m' : SM} {M : MM} {nb nq pl tu b q k how ls n v t p : Nat} {B B2 Q Q2 : BK} {T : T3}
theorem SD_stp (h : SD nb T.2.1 nq T.2.2) : SD nb (stp pl nb nq T).2.1 nq (stp pl nb nq T).2.2 := by
  unfold stp
  cases e : nx pl T.1 nb T.2.1 nq T.2.2 with
  | none => exact h
  | some b => exact SD_stl
theorem SD_run {P : BK → Bool} : ∀ (n : Nat) (T : T3), SD nb T.2.1 nq T.2.2 → SD nb (run pl nb nq P n T).2.2.1 nq (run pl nb nq P n T).2.2.2
  | 0, T, h => h
  | n + 1, T, h => by
    unfold run
    by_cases c : P T.2.2 = true ∨ ua nb T.2.1 = 0
    · rw [if_pos c]; exact h
    · rw [if_neg c]; exact SD_run n _ (SD_stp h)
theorem nx_0 (hI : BI nb B) (h : ua nb B = 0) : nxI (nx pl tu nb B nq Q) = -5 := by
  cases e : nx pl tu nb B nq Q with
  | none => rfl
  | some b =>
    have h1 := nx_some e
    have h2 := ua_0 h b h1.1
    rw [h2] at h1
    exact absurd h1.2 (by decide)
theorem nx_1 (hI : BI nb B) (h : ua nb B ≠ 0) : ∃ b, nx pl tu nb B nq Q = some b ∧ b < 8 ∧ nxI (nx pl tu nb B nq Q) = nI b := by
  obtain ⟨b, e⟩ := nx_ex (pl := pl) (tu := tu) (nq := nq) (Q := Q) hI h
  have h1 := nx_some e
  have h8 := hI.1
  exact ⟨b, e, by omega, by rw [e]; rfl⟩
def nev : BK → Bool := fun _ => false
theorem run_nev : ∀ (n : Nat) (T : T3), TI nb nq T → (run pl nb nq nev n T).1 = min n (ua nb T.2.1)
  | 0, T, h => by show 0 = min 0 _; omega
  | n + 1, T, h => by
    unfold run
    by_cases c : ua nb T.2.1 = 0
    · rw [if_pos (Or.inr c), c]
      show 0 = min (n + 1) 0
      omega
    · rw [if_neg (by
        rintro (h | h)
        · exact absurd h (by unfold nev; decide)
        · exact c h)]
      have h1 := run_nev n (stp pl nb nq T) (TI_stp h)
      have h2 := ua_stp (pl := pl) h c
      show (run pl nb nq nev n (stp pl nb nq T)).1 + 1 = min (n + 1) (ua nb T.2.1)
      omega
theorem run_nev1 (hT : TI nb nq T) (hu : ua nb T.2.1 ≠ 0) : run pl nb nq nev (n + 1) T = ((run pl nb nq nev n (stp pl nb nq T)).1 + 1, (run pl nb nq nev n (stp pl nb nq T)).2) := by
  conv => lhs; unfold run
  rw [if_neg (by
    rintro (h | h)
    · exact absurd h (by unfold nev; decide)
    · exact hu h)]
theorem rdC_L (hpl : pl ≤ 2) (hp : p ≤ 128) : ∀ n k cnt (M : MM) (T : T3), k ≤ p → k < n → TI nb nq T → CT (M 0) pl nb nq T → ∃ m', f_X5_read_L44 (nI p) n M (nI cnt) (nI (p - k)) = some (nI (cnt + (run pl nb nq nev k T).1), gs M 0 m') ∧ CT m' pl nb nq (run pl nb nq nev k T).2 := by
  intro n
  induction n with
  | zero => intro k cnt M T h1 h2; omega
  | succ n ih =>
    intro k cnt M T h1 h2 hT hC
    rw [f_X5_read_L44.eq_2]
    cases k with
    | zero =>
      rw [ile_t (by omega) (by omega)]
      refine ⟨M 0, ?_, hC⟩
      rw [gs_self]
      rfl
    | succ k =>
      obtain ⟨m1, g1, g2⟩ := planC_s hpl hT hC
      rw [ile_f (by omega) (by omega), g1, bd_some, lt1_eq]
      by_cases d : ua nb T.2.1 = 0
      · have er : run pl nb nq nev (k + 1) T = (0, T) := by
          unfold run
          rw [if_pos (Or.inr d)]
        rw [stp_0 d] at g2
        rw [er, if_pos d, ieq_t rfl]
        exact ⟨m1, rfl, g2⟩
      · rw [run_nev1 hT d, if_neg d, ieq_f (by decide) (by decide) (by decide), nI_add, nI_add]
        obtain ⟨m', p1, p2⟩ := ih k (cnt + 1) (gs M 0 m1) (stp pl nb nq T) (by omega) (by omega) (TI_stp hT) (by rw [gs_at]; exact g2)
        rw [gs_gs] at p1
        refine ⟨m', ?_, p2⟩
        have ek : p - (k + 1) + 1 = p - k := by omega
        rw [ek, p1, Nat.add_assoc, Nat.add_comm 1]
theorem rdR_L {x : Nat} (hpl : pl ≤ 2) (hx : x ≤ 128) : ∀ n j m (T : T3), j ≤ x → j < n → TI nb nq T → ZT (m 1) pl nb nq T → j ≤ ua nb T.2.1 → ∃ m', f_X6_read_L44 (nI p) n m (nI x) (nI (x - j)) = some (nI x, m') ∧ SX m m' ∧ ZT (m' 1) pl nb nq (run pl nb nq nev j T).2 := by
  intro n
  induction n with
  | zero => intro j m T h1 h2; omega
  | succ n ih =>
    intro j m T h1 h2 hT hZ hj
    rw [f_X6_read_L44.eq_2]
    cases j with
    | zero =>
      rw [ile_t (by omega) (by omega)]
      exact ⟨m, rfl, SX.rf, hZ⟩
    | succ j =>
      have d : ua nb T.2.1 ≠ 0 := by omega
      obtain ⟨m1, g1, g2, g3⟩ := readNext_T hpl hT hZ d
      have hst := ua_stp (pl := pl) hT d
      obtain ⟨m', p1, p2, p3⟩ := ih j m1 (stp pl nb nq T) (by omega) (by omega) (TI_stp hT) g3 (by omega)
      rw [ile_f (by omega) (by omega), g1, bd_some, nI_add, run_nev1 hT d, show x - (j + 1) + 1 = x - j by omega]
      exact ⟨m', p1, g2.tr p2, p3⟩
theorem SI_T (hT : TI nb nq T) (hpl : pl ≤ 2) (hS : SD nb T.2.1 nq T.2.2) : SI (nb, nq, pl, T.1, T.2.1, T.2.2) := ⟨hT.2.1, hT.2.2, hpl, hT.1, hS⟩
theorem st_read (a0 : Int32) : stepOK Rel (fun M => f_X5_read M a0) (fun m => f_X6_read m a0) := by
  refine mkStep fun M S hn Hs ks K tl tx hI hC hR => ?_
  obtain ⟨nb, nq, pl, tu, B, Q⟩ := S
  have hI0 : BI nb B := hI.1.1
  have hQ0 : QQ nq Q := hI.1.2.1
  have hpl : pl ≤ 2 := hI.1.2.2.1
  have htu : tu < 8 := hI.1.2.2.2.1
  have hSD : SD nb B nq Q := hI.1.2.2.2.2
  have cB : CB (M 0) nb B := hC.1.1
  have cQ : CQ (M 0) nq Q := hC.1.2.1
  have cH : CH (M 0) pl tu := hC.1.2.2.1
  have cW : CW (M 0) nb B nq Q := hC.1.2.2.2
  have zB : ZB (M 9 1) nb B := hR.1.1
  have zQ : ZQ (M 9 1) nq Q := hR.1.2.1
  have zH : ZH (M 9 1) pl tu := hR.1.2.2
  have h8 := hI0.1
  have h6 := hQ0.1
  rcases ftN (x := 1) (y := 128) a0 (by decide) (by decide) with e | ⟨p, rfl, t1, t2, e⟩
  · refine ref_fin (r := -2) hI hC hR ?_ ?_
    · unfold f_X5_read
      simp (disch := omega) only [ile_t, ile_f, ilt_t, ilt_f, ieq_t, ieq_f, gd_nI, gn_nI, gz_nI, b1_some, bd_some, lt1_eq, nI_add, nI_mul, nI_clamp, if_true, if_false, e]
    · unfold f_X6_read
      simp (disch := omega) only [ile_t, ile_f, ilt_t, ilt_f, ieq_t, ieq_f, gd_nI, gn_nI, gz_nI, b1_some, bd_some, lt1_eq, nI_add, nI_mul, nI_clamp, if_true, if_false, in_eq, e]
  · have e1 := nextC_s hI0 hQ0 hpl htu cB cQ cH cW
    have e2 := unreadAll_s hI0 zB
    have hul := ua_le hI0
    by_cases u : ua nb B = 0
    · rw [nx_0 hI0 u] at e1
      rw [u] at e2
      refine ref_fin (r := -5) hI hC hR ?_ ?_
      · unfold f_X5_read
        simp (disch := omega) only [ile_t, ile_f, ilt_t, ilt_f, ieq_t, ieq_f, gd_nI, gn_nI, gz_nI, b1_some, bd_some, lt1_eq, nI_add, nI_mul, nI_clamp, if_true, if_false, e, e1]
      · unfold f_X6_read
        simp (disch := omega) only [ile_t, ile_f, ilt_t, ilt_f, ieq_t, ieq_f, gd_nI, gn_nI, gz_nI, b1_some, bd_some, lt1_eq, nI_add, nI_mul, nI_clamp, if_true, if_false, in_eq, e, e2]
    · obtain ⟨b, -, hb, eb⟩ := nx_1 (pl := pl) (tu := tu) (nq := nq) (Q := Q) hI0 u
      rw [eb] at e1
      obtain ⟨M1, m1, p1, p2, p0, p9, p7, p22, q1, q3, q8, q15, fin⟩ := act_rec hI hC hR
      have hT : TI nb nq (tu, B, Q) := ⟨htu, hI0, hQ0⟩
      obtain ⟨m2, g1, g2⟩ := rdC_L (p := p) hpl t2 FU p 0 M1 (tu, B, Q) (Nat.le_refl _) (by rw [FU_eq]; omega) hT (by rw [p0]; exact ⟨cB, cQ, cH, cW⟩)
      rw [Nat.sub_self, Nat.zero_add] at g1
      have hn := run_nev (pl := pl) p (tu, B, Q) hT
      have hn : (run pl nb nq nev p (tu, B, Q)).1 = min p (ua nb B) := hn
      have ref : ∃ x : Nat, x = min p (ua nb B) ∧ run pl nb nq nev x (tu, B, Q) = run pl nb nq nev p (tu, B, Q) := by
        by_cases c : ua nb B ≤ p
        · exact ⟨ua nb B, by omega, run_fuel _ _ _ hT (Nat.le_refl _) c⟩
        · exact ⟨p, by omega, rfl⟩
      obtain ⟨x, hx, hrun⟩ := ref
      obtain ⟨m3, s1, s2, s3⟩ := rdR_L (p := p) (x := x) hpl (by omega) FU x m1 (tu, B, Q) (Nat.le_refl _) (by rw [FU_eq]; omega) hT (by rw [q1]; exact ⟨zB, zQ, zH⟩) (by show x ≤ ua nb B; omega)
      rw [Nat.sub_self] at s1
      rw [hrun] at s3
      have hT2 := TI_run (pl := pl) (P := nev) p (tu, B, Q) hT
      have hS2 := SD_run (pl := pl) (P := nev) p (tu, B, Q) hSD
      generalize (run pl nb nq nev p (tu, B, Q)).2 = T2 at g2 s3 hT2 hS2
      refine fin (r := nI x) (M2 := gs M1 0 m2) (S2 := (nb, nq, pl, T2.1, T2.2.1, T2.2.2)) (SI_T hT2 hpl hS2) (fun g hg => gs_ne hg) (by rw [gs_at]; exact g2) s2 s3 ?_ ?_
      · unfold f_X5_read
        simp (disch := omega) only [ile_t, ile_f, ilt_t, ilt_f, ieq_t, ieq_f, gd_nI, gn_nI, gz_nI, b1_some, bd_some, lt1_eq, nI_add, nI_mul, nI_clamp, if_true, if_false, e, e1, p1, i5_f]
        rw [g1, hn, hx]
      · unfold f_X6_read
        simp (disch := omega) only [ile_t, ile_f, ilt_t, ilt_f, ieq_t, ieq_f, gd_nI, gn_nI, gz_nI, b1_some, bd_some, lt1_eq, nI_add, nI_mul, nI_clamp, if_true, if_false, in_eq, e, e2, p2]
        by_cases c : ua nb B ≤ p
        · have ex : ua nb B = x := by omega
          rw [ile_t c (by omega), ex]
          exact s1
        · have ex : p = x := by omega
          rw [ile_f (by omega) (by omega)]
          rw [ex] at s1 ⊢
          exact s1
theorem st_readOn : stepOK Rel (fun M => f_X5_readOn M) (fun m => f_X6_readOn m) := by
  refine mkStep fun M S hn Hs ks K tl tx hI hC hR => ?_
  obtain ⟨nb, nq, pl, tu, B, Q⟩ := S
  have hI0 : BI nb B := hI.1.1
  have hQ0 : QQ nq Q := hI.1.2.1
  have hpl : pl ≤ 2 := hI.1.2.2.1
  have htu : tu < 8 := hI.1.2.2.2.1
  have hSD : SD nb B nq Q := hI.1.2.2.2.2
  have cB : CB (M 0) nb B := hC.1.1
  have cQ : CQ (M 0) nq Q := hC.1.2.1
  have cH : CH (M 0) pl tu := hC.1.2.2.1
  have cW : CW (M 0) nb B nq Q := hC.1.2.2.2
  have zB : ZB (M 9 1) nb B := hR.1.1
  have zQ : ZQ (M 9 1) nq Q := hR.1.2.1
  have zH : ZH (M 9 1) pl tu := hR.1.2.2
  have h8 := hI0.1
  have h6 := hQ0.1
  have e0 := openC_s hQ0 cQ
  have o0 := openMany_s hQ0 zQ
  have hol := opn_le hQ0
  by_cases w : opn nq Q = 0
  · rw [w] at e0 o0
    refine ref_fin (r := -4) hI hC hR ?_ ?_
    · unfold f_X5_readOn
      simp (disch := omega) only [ile_t, ile_f, ilt_t, ilt_f, ieq_t, ieq_f, gd_nI, gn_nI, gz_nI, b1_some, bd_some, lt1_eq, nI_add, nI_mul, nI_clamp, if_true, if_false, e0]
    · unfold f_X6_readOn
      simp (disch := omega) only [ile_t, ile_f, ilt_t, ilt_f, ieq_t, ieq_f, gd_nI, gn_nI, gz_nI, b1_some, bd_some, lt1_eq, nI_add, nI_mul, nI_clamp, if_true, if_false, o0]
  · have e1 := nextC_s hI0 hQ0 hpl htu cB cQ cH cW
    have e2 := unreadAll_s hI0 zB
    have hul := ua_le hI0
    by_cases u : ua nb B = 0
    · rw [nx_0 hI0 u] at e1
      rw [u] at e2
      refine ref_fin (r := -5) hI hC hR ?_ ?_
      · unfold f_X5_readOn
        simp (disch := omega) only [ile_t, ile_f, ilt_t, ilt_f, ieq_t, ieq_f, gd_nI, gn_nI, gz_nI, b1_some, bd_some, lt1_eq, nI_add, nI_mul, nI_clamp, if_true, if_false, e0, e1]
      · unfold f_X6_readOn
        simp (disch := omega) only [ile_t, ile_f, ilt_t, ilt_f, ieq_t, ieq_f, gd_nI, gn_nI, gz_nI, b1_some, bd_some, lt1_eq, nI_add, nI_mul, nI_clamp, if_true, if_false, o0, e2]
    · obtain ⟨b, -, hb, eb⟩ := nx_1 (pl := pl) (tu := tu) (nq := nq) (Q := Q) hI0 u
      rw [eb] at e1
      obtain ⟨M1, m1, p1, p2, p0, p9, p7, p22, q1, q3, q8, q15, fin⟩ := act_rec hI hC hR
      have hT : TI nb nq (tu, B, Q) := ⟨htu, hI0, hQ0⟩
      obtain ⟨m2, g1, g2⟩ := whileC_s (m := M1 0) hpl hT (by rw [p0]; exact ⟨cB, cQ, cH, cW⟩)
      obtain ⟨m3, s1, s2, s3⟩ := goOn_s (m := m1) hpl hT (by rw [q1]; exact ⟨zB, zQ, zH⟩)
      have hT2 := TI_run (pl := pl) (P := fun Q => decide (opn nq Q = 0)) 128 (tu, B, Q) hT
      have hS2 := SD_run (pl := pl) (P := fun Q => decide (opn nq Q = 0)) 128 (tu, B, Q) hSD
      generalize (run pl nb nq (fun Q => decide (opn nq Q = 0)) 128 (tu, B, Q)).2 = T2 at g2 s3 hT2 hS2
      refine fin (r := nI (run pl nb nq (fun Q => decide (opn nq Q = 0)) 128 (tu, B, Q)).1) (M2 := gs M1 0 m2) (S2 := (nb, nq, pl, T2.1, T2.2.1, T2.2.2)) (SI_T hT2 hpl hS2) (fun g hg => gs_ne hg) (by rw [gs_at]; exact g2) s2 s3 ?_ ?_
      · unfold f_X5_readOn
        simp (disch := omega) only [ile_t, ile_f, ilt_t, ilt_f, ieq_t, ieq_f, gd_nI, gn_nI, gz_nI, b1_some, bd_some, lt1_eq, nI_add, nI_mul, nI_clamp, if_true, if_false, e0, e1, p1, i5_f, g1]
      · unfold f_X6_readOn
        simp (disch := omega) only [ile_t, ile_f, ilt_t, ilt_f, ieq_t, ieq_f, gd_nI, gn_nI, gz_nI, b1_some, bd_some, lt1_eq, nI_add, nI_mul, nI_clamp, if_true, if_false, o0, e2, p2, s1]
theorem st_type (a0 : Int32) : stepOK Rel (fun M => f_X5_type M a0) (fun m => f_X6_type m a0) := by
  refine mkStep fun M S hn Hs ks K tl tx hI hC hR => ?_
  obtain ⟨nb, nq, pl, tu, B, Q⟩ := S
  have hI0 : BI nb B := hI.1.1
  have hQ0 : QQ nq Q := hI.1.2.1
  have hpl : pl ≤ 2 := hI.1.2.2.1
  have htu : tu < 8 := hI.1.2.2.2.1
  have hSD : SD nb B nq Q := hI.1.2.2.2.2
  have cB : CB (M 0) nb B := hC.1.1
  have cQ : CQ (M 0) nq Q := hC.1.2.1
  have cH : CH (M 0) pl tu := hC.1.2.2.1
  have cW : CW (M 0) nb B nq Q := hC.1.2.2.2
  have zB : ZB (M 9 1) nb B := hR.1.1
  have zQ : ZQ (M 9 1) nq Q := hR.1.2.1
  have zH : ZH (M 9 1) pl tu := hR.1.2.2
  have h8 := hI0.1
  have h6 := hQ0.1
  have t80 := hI.2.2.2.2.2
  obtain ⟨d1, d2, d3, d4, d5⟩ := id hC
  obtain ⟨r1, r2, r3, r4, r5⟩ := id hR
  by_cases c : tl = 80
  · refine ref_fin (r := -3) hI hC hR ?_ ?_
    · unfold f_X5_type
      simp (disch := omega) only [ile_t, ile_f, ilt_t, ilt_f, ieq_t, ieq_f, gd_nI, gn_nI, gz_nI, b1_some, bd_some, lt1_eq, nI_add, nI_mul, nI_clamp, if_true, if_false, d5.1]
    · unfold f_X6_type
      simp (disch := omega) only [ile_t, ile_f, ilt_t, ilt_f, ieq_t, ieq_f, gd_nI, gn_nI, gz_nI, b1_some, bd_some, lt1_eq, nI_add, nI_mul, nI_clamp, if_true, if_false, r5.1]
  · have e1 : up (M 7) 1 tl (vp_nar .char a0) 0 2 = nI tl := by rw [up_o (Or.inl (by decide))]; exact d5.1
    have e2 : up (M 9) 5 tl (vp_nar .char a0) 0 7 = nI tl := by rw [up_o (Or.inl (by decide))]; exact r5.1
    refine ⟨nI (tl + 1), gs M 7 (up (up (M 7) 1 tl (vp_nar .char a0)) 0 2 (nI (tl + 1))), up (up (M 9) 5 tl (vp_nar .char a0)) 0 7 (nI (tl + 1)), ?_, gs_ne (by decide), ?_, (nb, nq, pl, tu, B, Q), hn, Hs, ks, K, tl + 1, fun i => if i = tl then vp_nar .char a0 else tx i, ⟨hI.1, hI.2.1, hI.2.2.1, hI.2.2.2.1, hI.2.2.2.2.1, by omega⟩, ⟨?_, ?_, ?_, ?_, ?_, fun i hi => ?_⟩, ⟨?_, ⟨?_, ?_⟩, ?_, ?_, ?_, fun i hi => ?_⟩⟩
    · unfold f_X5_type f_X1_append
      simp (disch := omega) only [ile_t, ile_f, ilt_t, ilt_f, ieq_t, ieq_f, gd_nI, gn_nI, gz_nI, b1_some, bd_some, lt1_eq, nI_add, nI_mul, nI_clamp, if_true, if_false, d5.1, e1, gs_at, up_same]
    · unfold f_X6_type
      simp (disch := omega) only [ile_t, ile_f, ilt_t, ilt_f, ieq_t, ieq_f, gd_nI, gn_nI, gz_nI, b1_some, bd_some, lt1_eq, nI_add, nI_mul, nI_clamp, if_true, if_false, r5.1, e2, up_same]
    · rw [gs_ne (by decide)]; exact d1
    · obtain ⟨od, b1, b2, b3, b4⟩ := d2
      refine ⟨od, by rw [gs_ne (by decide)]; exact b1, by rw [gs_ne (by decide)]; exact b2, b3, fun h hh => ?_⟩
      have hm : (od + h) % 4 < 4 := Nat.mod_lt _ (by decide)
      rw [gs_ne (by omega)]
      exact b4 h hh
    · rw [gs_ne (by decide)]; exact d3
    · rw [gs_ne (by decide)]; exact d4
    · rw [gs_at, up_same]
    · rw [gs_at, up_c (by decide)]
      show _ = if i = tl then _ else _
      by_cases f : i = tl
      · subst f; rw [up_same, if_pos rfl]
      · rw [up_o (Or.inr f), if_neg f]
        exact d5.2 i (by omega)
    · rw [up_c (by decide), up_c (by decide)]; exact r1
    · rw [up_o (Or.inr (by decide)), up_c (by decide)]; exact r2.1
    · rw [up_c (by decide), up_c (by decide)]; exact r2.2
    · rw [up_o (Or.inr (by decide)), up_c (by decide)]; exact r3
    · rw [up_c (by decide), up_c (by decide)]; exact r4
    · rw [up_same]
    · rw [up_c (by decide)]
      show _ = if i = tl then _ else _
      by_cases f : i = tl
      · subst f; rw [up_same, if_pos rfl]
      · rw [up_o (Or.inr f), if_neg f]
        exact r5.2 i (by omega)
theorem st_clearText : stepOK Rel (fun M => f_X5_clearText M) (fun m => f_X6_clearText m) := by
  refine mkStep fun M S hn Hs ks K tl tx hI hC hR => ?_
  obtain ⟨nb, nq, pl, tu, B, Q⟩ := S
  have hI0 : BI nb B := hI.1.1
  have hQ0 : QQ nq Q := hI.1.2.1
  have hpl : pl ≤ 2 := hI.1.2.2.1
  have htu : tu < 8 := hI.1.2.2.2.1
  have hSD : SD nb B nq Q := hI.1.2.2.2.2
  have cB : CB (M 0) nb B := hC.1.1
  have cQ : CQ (M 0) nq Q := hC.1.2.1
  have cH : CH (M 0) pl tu := hC.1.2.2.1
  have cW : CW (M 0) nb B nq Q := hC.1.2.2.2
  have zB : ZB (M 9 1) nb B := hR.1.1
  have zQ : ZQ (M 9 1) nq Q := hR.1.2.1
  have zH : ZH (M 9 1) pl tu := hR.1.2.2
  have h8 := hI0.1
  have h6 := hQ0.1
  obtain ⟨d1, d2, d3, d4, d5⟩ := id hC
  obtain ⟨r1, r2, r3, r4, r5⟩ := id hR
  refine ⟨nI tl, gs M 7 (up (M 7) 0 2 (nI 0)), up (M 9) 0 7 (nI 0), ?_, gs_ne (by decide), ?_, (nb, nq, pl, tu, B, Q), hn, Hs, ks, K, 0, tx, ⟨hI.1, hI.2.1, hI.2.2.1, hI.2.2.2.1, hI.2.2.2.2.1, by omega⟩, ⟨?_, ?_, ?_, ?_, ?_, fun i hi => by omega⟩, ⟨?_, ⟨?_, ?_⟩, ?_, ?_, ?_, fun i hi => by omega⟩⟩
  · unfold f_X5_clearText
    simp only [lt1_eq, d5.1]
  · unfold f_X6_clearText
    simp only [lt1_eq, r5.1]
  · rw [gs_ne (by decide)]; exact d1
  · obtain ⟨od, b1, b2, b3, b4⟩ := d2
    refine ⟨od, by rw [gs_ne (by decide)]; exact b1, by rw [gs_ne (by decide)]; exact b2, b3, fun h hh => ?_⟩
    have hm : (od + h) % 4 < 4 := Nat.mod_lt _ (by decide)
    rw [gs_ne (by omega)]
    exact b4 h hh
  · rw [gs_ne (by decide)]; exact d3
  · rw [gs_ne (by decide)]; exact d4
  · rw [gs_at, up_same]
  · rw [up_c (by decide)]; exact r1
  · rw [up_o (Or.inr (by decide))]; exact r2.1
  · rw [up_c (by decide)]; exact r2.2
  · rw [up_o (Or.inr (by decide))]; exact r3
  · rw [up_c (by decide)]; exact r4
  · rw [up_same]
theorem st_undo : stepOK Rel (fun M => f_X5_undo M) (fun m => f_X6_undo m) := by
  refine mkStep fun M S hn Hs ks K tl tx hI hC hR => ?_
  obtain ⟨nb, nq, pl, tu, B, Q⟩ := S
  have hI0 : BI nb B := hI.1.1
  have hQ0 : QQ nq Q := hI.1.2.1
  have hpl : pl ≤ 2 := hI.1.2.2.1
  have htu : tu < 8 := hI.1.2.2.2.1
  have hSD : SD nb B nq Q := hI.1.2.2.2.2
  have cB : CB (M 0) nb B := hC.1.1
  have cQ : CQ (M 0) nq Q := hC.1.2.1
  have cH : CH (M 0) pl tu := hC.1.2.2.1
  have cW : CW (M 0) nb B nq Q := hC.1.2.2.2
  have zB : ZB (M 9 1) nb B := hR.1.1
  have zQ : ZQ (M 9 1) nq Q := hR.1.2.1
  have zH : ZH (M 9 1) pl tu := hR.1.2.2
  have h8 := hI0.1
  have h6 := hQ0.1
  obtain ⟨d1, ⟨od, d2⟩, d3, d4, d5⟩ := id hC
  obtain ⟨r1, r2, r3, r4, r5⟩ := id hR
  have h4 := hI.2.1
  by_cases c : hn = 0
  · subst c
    refine ref_fin (r := -5) hI hC hR ?_ ?_
    · unfold f_X5_undo
      simp (disch := omega) only [ile_t, ile_f, ilt_t, ilt_f, ieq_t, ieq_f, gd_nI, gn_nI, gz_nI, b1_some, bd_some, lt1_eq, nI_add, nI_mul, nI_clamp, if_true, if_false, d2.2.1]
    · unfold f_X6_undo
      simp (disch := omega) only [ile_t, ile_f, ilt_t, ilt_f, ieq_t, ieq_f, gd_nI, gn_nI, gz_nI, b1_some, bd_some, lt1_eq, nI_add, nI_mul, nI_clamp, if_true, if_false, r2.1]
  · obtain ⟨M1, p1, p2, p3, p4⟩ := takeC_s hI.2.2.1 d2 h4 (by omega)
    have en : nI hn - nI 1 = nI (hn - 1) := nI_sub (by omega)
    obtain ⟨m1, g1, g2, g3⟩ := undo_L (hn := hn - 1) (by omega) FU 0 (up (M 9) 0 3 (nI (hn - 1))) (by omega) (by rw [FU_eq]; omega) up_same (fun k hk => by omega)
    refine ⟨nI (hn - 1), M1, m1, ?_, p2.2.2.2.1, ?_, Hs (hn - 1), hn - 1, Hs, ks, K, tl, tx, ⟨hI.2.2.1 _ (by omega), by omega, fun h hh => hI.2.2.1 h (by omega), hI.2.2.2.1, hI.2.2.2.2.1, hI.2.2.2.2.2⟩, ⟨p3, ⟨od, p4⟩, ?_, ?_, ?_⟩, ⟨?_, ⟨?_, fun h hh => ?_⟩, ?_, ?_, ?_⟩⟩
    · unfold f_X5_undo
      simp (disch := omega) only [ile_t, ile_f, ilt_t, ilt_f, ieq_t, ieq_f, gd_nI, gn_nI, gz_nI, b1_some, bd_some, lt1_eq, nI_add, nI_mul, nI_clamp, if_true, if_false, d2.2.1, p1, p4.2.1]
    · unfold f_X6_undo
      simp (disch := omega) only [ile_t, ile_f, ilt_t, ilt_f, ieq_t, ieq_f, gd_nI, gn_nI, gz_nI, b1_some, bd_some, lt1_eq, nI_add, nI_mul, nI_clamp, if_true, if_false, r2.1, en, g1]
    · rw [p2.2.2.2.2]; exact d3
    · rw [p2.2.1]; exact d4
    · rw [p2.2.2.1]; exact d5
    · refine (r2.2 (hn - 1) (by omega)).cp (fun k hk => ?_)
      rw [g3 k hk, up_c (by decide)]
    · rw [g2 0 (by decide), up_same]
    · rw [g2 2 (by decide), up_c (by decide)]
      exact r2.2 h (by omega)
    · rw [g2 0 (by decide), up_o (Or.inr (by decide))]; exact r3
    · rw [g2 3 (by decide), up_c (by decide)]; exact r4
    · exact ⟨by rw [g2 0 (by decide), up_o (Or.inr (by decide))]; exact r5.1, by rw [g2 5 (by decide), up_c (by decide)]; exact r5.2⟩
theorem st_keep : stepOK Rel (fun M => f_X5_keep M) (fun m => f_X6_keep m) := by
  refine mkStep fun M S hn Hs ks K tl tx hI hC hR => ?_
  obtain ⟨nb, nq, pl, tu, B, Q⟩ := S
  have hI0 : BI nb B := hI.1.1
  have hQ0 : QQ nq Q := hI.1.2.1
  have hpl : pl ≤ 2 := hI.1.2.2.1
  have htu : tu < 8 := hI.1.2.2.2.1
  have hSD : SD nb B nq Q := hI.1.2.2.2.2
  have cB : CB (M 0) nb B := hC.1.1
  have cQ : CQ (M 0) nq Q := hC.1.2.1
  have cH : CH (M 0) pl tu := hC.1.2.2.1
  have cW : CW (M 0) nb B nq Q := hC.1.2.2.2
  have zB : ZB (M 9 1) nb B := hR.1.1
  have zQ : ZQ (M 9 1) nq Q := hR.1.2.1
  have zH : ZH (M 9 1) pl tu := hR.1.2.2
  have h8 := hI0.1
  have h6 := hQ0.1
  obtain ⟨d1, ⟨od, d2⟩, d3, d4, d5⟩ := id hC
  obtain ⟨r1, r2, r3, r4, r5⟩ := id hR
  obtain ⟨m2, p1, p2⟩ := copyC_s (m := M 2) hI.1 d1
  have e1 := readsC_s (ls := 15) hI0 (by decide) cB
  rw [rQ15 hI0] at e1
  obtain ⟨m1, g1, g2, g3⟩ := keep_L FU 0 (up (M 9) 0 4 (nI 1)) (by omega) (by rw [FU_eq]; omega) (fun k hk => by omega)
  have zB1 : ZB (m1 1) nb B := by rw [g2 1 (by decide), up_c (by decide)]; exact zB
  have e2 := allOf_s (k := 4) zB1 h8 (by decide)
  refine ⟨nI (sumTo (fun b => B b 4) nb), gs (gs M 2 m2) 8 (up (M 8) 0 5 (nI 1)), m1, ?_, by rw [gs_ne (by decide), gs_ne (by decide)], ?_, (nb, nq, pl, tu, B, Q), hn, Hs, 1, (nb, nq, pl, tu, B, Q), tl, tx, ⟨hI.1, hI.2.1, hI.2.2.1, Nat.le_refl 1, fun _ => hI.1, hI.2.2.2.2.2⟩, ⟨?_, ⟨od, ?_, ?_, d2.2.2.1, fun h hh => ?_⟩, ?_, fun _ => ?_, ?_⟩, ⟨?_, ⟨?_, ?_⟩, ?_, fun _ => ?_, ?_⟩⟩
  · unfold f_X5_keep
    have f8 : gs M 2 m2 8 = M 8 := gs_ne (by decide)
    have f0 : gs (gs M 2 m2) 8 (up (M 8) 0 5 (nI 1)) 0 = M 0 := by rw [gs_ne (by decide), gs_ne (by decide)]
    simp (disch := omega) only [ile_t, ile_f, ilt_t, ilt_f, ieq_t, ieq_f, gd_nI, gn_nI, gz_nI, b1_some, bd_some, lt1_eq, nI_add, nI_mul, nI_clamp, if_true, if_false, p1, f8, f0, e1]
  · unfold f_X6_keep
    rw [lt1_eq, g1, e2, b1_some]
  · rw [gs_ne (by decide), gs_ne (by decide)]; exact d1
  · rw [gs_at, up_o (Or.inl (by decide))]; exact d2.1
  · rw [gs_at, up_o (Or.inl (by decide))]; exact d2.2.1
  · have hm : (od + h) % 4 < 4 := Nat.mod_lt _ (by decide)
    rw [gs_ne (by omega), gs_ne (by omega)]
    exact d2.2.2.2 h hh
  · rw [gs_at, up_same]
  · rw [gs_ne (by decide), gs_at]; exact p2
  · rw [gs_ne (by decide), gs_ne (by decide)]; exact d5
  · rw [g2 1 (by decide), up_c (by decide)]; exact r1
  · rw [g2 0 (by decide), up_o (Or.inr (by decide))]; exact r2.1
  · rw [g2 2 (by decide), up_c (by decide)]; exact r2.2
  · rw [g2 0 (by decide), up_same]
  · exact r1.cp (fun k hk => by rw [g3 k hk, up_c (by decide)])
  · exact ⟨by rw [g2 0 (by decide), up_o (Or.inr (by decide))]; exact r5.1, by rw [g2 5 (by decide), up_c (by decide)]; exact r5.2⟩
theorem st_restore : stepOK Rel (fun M => f_X5_restore M) (fun m => f_X6_restore m) := by
  refine mkStep fun M S hn Hs ks K tl tx hI hC hR => ?_
  obtain ⟨nb, nq, pl, tu, B, Q⟩ := S
  have hI0 : BI nb B := hI.1.1
  have hQ0 : QQ nq Q := hI.1.2.1
  have hpl : pl ≤ 2 := hI.1.2.2.1
  have htu : tu < 8 := hI.1.2.2.2.1
  have hSD : SD nb B nq Q := hI.1.2.2.2.2
  have cB : CB (M 0) nb B := hC.1.1
  have cQ : CQ (M 0) nq Q := hC.1.2.1
  have cH : CH (M 0) pl tu := hC.1.2.2.1
  have cW : CW (M 0) nb B nq Q := hC.1.2.2.2
  have zB : ZB (M 9 1) nb B := hR.1.1
  have zQ : ZQ (M 9 1) nq Q := hR.1.2.1
  have zH : ZH (M 9 1) pl tu := hR.1.2.2
  have h8 := hI0.1
  have h6 := hQ0.1
  obtain ⟨d1, ⟨od, d2⟩, d3, d4, d5⟩ := id hC
  obtain ⟨r1, r2, r3, r4, r5⟩ := id hR
  have k1 := hI.2.2.2.1
  by_cases c : ks = 0
  · subst c
    refine ref_fin (r := -5) hI hC hR ?_ ?_
    · unfold f_X5_restore
      simp (disch := omega) only [ile_t, ile_f, ilt_t, ilt_f, ieq_t, ieq_f, gd_nI, gn_nI, gz_nI, b1_some, bd_some, lt1_eq, nI_add, nI_mul, nI_clamp, if_true, if_false, d3]
    · unfold f_X6_restore
      simp (disch := omega) only [ile_t, ile_f, ilt_t, ilt_f, ieq_t, ieq_f, gd_nI, gn_nI, gz_nI, b1_some, bd_some, lt1_eq, nI_add, nI_mul, nI_clamp, if_true, if_false, r3]
  · have c1 : ks = 1 := by omega
    subst c1
    have sK := hI.2.2.2.2.1 rfl
    have rK := d4 rfl
    have zK := r4 rfl
    obtain ⟨M1, m1, p1, p2, p0, p9, p7, p22, q1, q3, q8, q15, fin⟩ := act_rec hI hC hR
    obtain ⟨m2, g1, g2⟩ := copyC_s (m := M1 0) (mz := M1 2) sK (by rw [p22]; exact rK)
    obtain ⟨nb', nq', pl', tu', B', Q'⟩ := K
    have hIK : BI nb' B' := sK.1
    obtain ⟨m3, s1, s2, s3⟩ := setM (m := m2) (pl := pl') (tu := tu') hIK sK.2.1 g2.1 g2.2.1 g2.2.2.1
    have s2 : RC m3 (nb', nq', pl', tu', B', stl nb' B' nq' Q') := s2
    rw [stl_SD sK.2.2.2.2] at s2
    have e1 := readsC_s (m := m3) (ls := 15) hIK (by decide) s2.1
    rw [rQ15 hIK] at e1
    obtain ⟨m4, w1, w2, w3⟩ := restore_L FU 0 m1 (by omega) (by rw [FU_eq]; omega) (fun k hk => by omega)
    have zK4 : ZR (m4 1) (nb', nq', pl', tu', B', Q') := zK.cp (fun k hk => by rw [w3 k hk, q3])
    have e2 := allOf_s (m := m4) (k := 4) zK4.1 hIK.1 (by decide)
    refine fin (r := nI (sumTo (fun b => B' b 4) nb')) (M2 := gs M1 0 m3) (m2 := m4) (S2 := (nb', nq', pl', tu', B', Q')) sK (fun g hg => gs_ne hg) (by rw [gs_at]; exact s2) ⟨w2 2 (by decide), w2 3 (by decide), w2 4 (by decide), w2 5 (by decide), by rw [w2 0 (by decide)], by rw [w2 0 (by decide)], by rw [w2 0 (by decide)]⟩ zK4 ?_ ?_
    · unfold f_X5_restore
      simp (disch := omega) only [ile_t, ile_f, ilt_t, ilt_f, ieq_t, ieq_f, gd_nI, gn_nI, gz_nI, b1_some, bd_some, lt1_eq, nI_add, nI_mul, nI_clamp, if_true, if_false, d3, p1, g1, gs_at, gs_gs, s1, e1]
    · unfold f_X6_restore
      simp (disch := omega) only [ile_t, ile_f, ilt_t, ilt_f, ieq_t, ieq_f, gd_nI, gn_nI, gz_nI, b1_some, bd_some, lt1_eq, nI_add, nI_mul, nI_clamp, if_true, if_false, r3, p2]
      rw [w1, e2, b1_some]
end SEe
