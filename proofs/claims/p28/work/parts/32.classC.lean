/-! THE CLASS: weights, which block is next, reading -/
def mpC (o : Option (Nat × Nat)) : Int32 := match o with
  | none => -1
  | some x => nI x.2
section CCC
variable {m : SM} {nb nq pl tu b q k how ls lim n : Nat} {B Q : BK} {qr : Nat → Nat}
theorem urgency_s (hI : BI nb B) (hQQ : QQ nq Q) (hB : CB m nb B) (hQ : CQ m nq Q) (hW : CW m nb B nq Q) (hq : q < nq) (hb : b < nb) (h4 : Q q 4 = 0) (hc : (Q q 1).testBit (B b 0) = true) : f_X3_urgency m q b = some (nI (uw nb B (Q q) b)) := by
  have hqq := hQQ.2 q hq
  have hbi := hI.2 b hb
  have hr := rQ_pos hI hb hc
  obtain ⟨a0, a1, a2, a3, a4, a5⟩ := hQ.2 q hq
  obtain ⟨c1, c2, c3, -⟩ := hB.2 b hb
  obtain ⟨w5, w6⟩ := hW q hq h4 hr
  have hal := ans_le (qr := Q q) (how := 1) hI
  have hal0 := ans_le (qr := Q q) (how := 0) hI
  unfold f_X3_urgency
  have hk : Q q 0 = 1 ∨ Q q 0 = 2 ∨ Q q 0 = 3 ∨ (Q q 0 ≠ 1 ∧ Q q 0 ≠ 2 ∧ Q q 0 ≠ 3) := by omega
  rcases hk with hk | hk | hk | ⟨hk1, hk2, hk3⟩
  · have hu : uw nb B (Q q) b = (if B b 1 < Q q 2 ∧ Q q 2 ≤ B b 2 then 100 else 0) := by unfold uw; rw [if_pos hk]
    rw [hk] at a0
    rw [hu]
    by_cases c : B b 1 < Q q 2
    · by_cases d : Q q 2 ≤ B b 2
      · rw [if_pos (⟨c, d⟩ : B b 1 < Q q 2 ∧ Q q 2 ≤ B b 2)]
        simp (disch := omega) only [ile_t, ile_f, ilt_t, ilt_f, ieq_t, ieq_f, gd_nI, gn_nI, gz_nI, b1_some, bd_some, lt1_eq, nI_add, nI_mul, nI_clamp, if_true, if_false, a0, a2, c2, c3]
      · rw [if_neg (fun z : B b 1 < Q q 2 ∧ Q q 2 ≤ B b 2 => d z.2)]
        simp (disch := omega) only [ile_t, ile_f, ilt_t, ilt_f, ieq_t, ieq_f, gd_nI, gn_nI, gz_nI, b1_some, bd_some, lt1_eq, nI_add, nI_mul, nI_clamp, if_true, if_false, a0, a2, c2, c3]
    · rw [if_neg (fun z : B b 1 < Q q 2 ∧ Q q 2 ≤ B b 2 => c z.1)]
      simp (disch := omega) only [ile_t, ile_f, ilt_t, ilt_f, ieq_t, ieq_f, gd_nI, gn_nI, gz_nI, b1_some, bd_some, lt1_eq, nI_add, nI_mul, nI_clamp, if_true, if_false, a0, a2, c2, c3]
  · rw [hk] at a0
    have hu : uw nb B (Q q) b = (if B b 1 < ans nb B (Q q) 1 then 100 else 0) := by unfold uw; rw [if_neg (by omega), if_pos hk]
    rw [hu]
    by_cases c : B b 1 < ans nb B (Q q) 1
    · rw [if_pos c]
      simp (disch := omega) only [ile_t, ile_f, ilt_t, ilt_f, ieq_t, ieq_f, gd_nI, gn_nI, gz_nI, b1_some, bd_some, lt1_eq, nI_add, nI_mul, nI_clamp, if_true, if_false, a0, w6, c2]
    · rw [if_neg c]
      simp (disch := omega) only [ile_t, ile_f, ilt_t, ilt_f, ieq_t, ieq_f, gd_nI, gn_nI, gz_nI, b1_some, bd_some, lt1_eq, nI_add, nI_mul, nI_clamp, if_true, if_false, a0, w6, c2]
  · rw [hk] at a0
    have hu : uw nb B (Q q) b = (if ans nb B (Q q) 0 < B b 2 then 100 else 0) := by unfold uw; rw [if_neg (by omega), if_neg (by omega), if_pos hk]
    rw [hu]
    by_cases c : ans nb B (Q q) 0 < B b 2
    · rw [if_pos c]
      simp (disch := omega) only [ile_t, ile_f, ilt_t, ilt_f, ieq_t, ieq_f, gd_nI, gn_nI, gz_nI, b1_some, bd_some, lt1_eq, nI_add, nI_mul, nI_clamp, if_true, if_false, a0, w5, c3]
    · rw [if_neg c]
      simp (disch := omega) only [ile_t, ile_f, ilt_t, ilt_f, ieq_t, ieq_f, gd_nI, gn_nI, gz_nI, b1_some, bd_some, lt1_eq, nI_add, nI_mul, nI_clamp, if_true, if_false, a0, w5, c3]
  · have hu : uw nb B (Q q) b = B b 2 - B b 1 := by unfold uw; rw [if_neg hk1, if_neg hk2, if_neg hk3]
    rw [hu]
    simp (disch := omega) only [ile_t, ile_f, ilt_t, ilt_f, ieq_t, ieq_f, gd_nI, gn_nI, gz_nI, b1_some, bd_some, lt1_eq, nI_add, nI_mul, nI_clamp, if_true, if_false, a0, c2, c3, nI_sub]
theorem weightC_L (hI : BI nb B) (hQQ : QQ nq Q) (hB : CB m nb B) (hQ : CQ m nq Q) (hW : CW m nb B nq Q) (hb : b < nb) : ∀ n i, i ≤ nq → nq < i + n → f_X4_weight_L4 m b n (nI (wt nb B Q b i)) (nI i) = some (nI (wt nb B Q b nq)) := by
  have hq6 := hQQ.1
  have hbi := hI.2 b hb
  obtain ⟨c1, -⟩ := hB.2 b hb
  intro n
  induction n with
  | zero => intro i h2 h3; omega
  | succ n ih =>
    intro i h2 h3
    rw [f_X4_weight_L4.eq_2]
    by_cases c : i = nq
    · subst c
      simp (disch := omega) only [ile_t, ile_f, ilt_t, ilt_f, ieq_t, ieq_f, gd_nI, gn_nI, gz_nI, b1_some, bd_some, lt1_eq, nI_add, nI_mul, nI_clamp, if_true, if_false, hQ.1]
    · have hqi := hQQ.2 i (by omega)
      obtain ⟨a0, a1, a2, a3, a4, a5⟩ := hQ.2 i (by omega)
      have es : wt nb B Q b (i + 1) = wt nb B Q b i + (if Q i 4 = 0 ∧ (Q i 1).testBit (B b 0) = true then uw nb B (Q i) b else 0) := rfl
      have ih2 := ih (i + 1) (by omega) (by omega)
      by_cases d : Q i 4 = 0
      · have e1 := covers_s (ls := Q i 1) (by omega) hbi.1
        by_cases f : (Q i 1).testBit (B b 0) = true
        · have e2 := urgency_s hI hQQ hB hQ hW (q := i) (by omega) hb d f
          rw [d] at a4
          rw [if_pos ⟨d, f⟩] at es
          rw [if_pos f] at e1
          rw [es] at ih2
          simp (disch := omega) only [ile_t, ile_f, ilt_t, ilt_f, ieq_t, ieq_f, gd_nI, gn_nI, gz_nI, b1_some, bd_some, lt1_eq, nI_add, nI_mul, nI_clamp, if_true, if_false, hQ.1, a4, a1, c1, e1, e2]
          exact ih2
        · rw [d] at a4
          rw [if_neg (fun z => f z.2)] at es
          rw [if_neg f] at e1
          rw [es] at ih2
          simp (disch := omega) only [ile_t, ile_f, ilt_t, ilt_f, ieq_t, ieq_f, gd_nI, gn_nI, gz_nI, b1_some, bd_some, lt1_eq, nI_add, nI_mul, nI_clamp, if_true, if_false, hQ.1, a4, a1, c1, e1]
          exact ih2
      · have d1 : Q i 4 = 1 := by omega
        rw [d1] at a4
        rw [if_neg (fun z => d z.1)] at es
        rw [es] at ih2
        simp (disch := omega) only [ile_t, ile_f, ilt_t, ilt_f, ieq_t, ieq_f, gd_nI, gn_nI, gz_nI, b1_some, bd_some, lt1_eq, nI_add, nI_mul, nI_clamp, if_true, if_false, hQ.1, a4]
        exact ih2
theorem weightC_s (hI : BI nb B) (hQQ : QQ nq Q) (hB : CB m nb B) (hQ : CQ m nq Q) (hW : CW m nb B nq Q) (hb : b < nb) : f_X4_weight m b = some (nI (wt nb B Q b nq)) :=
  weightC_L hI hQQ hB hQ hW hb FU 0 (Nat.zero_le _) (by rw [FU_eq]; have := hQQ.1; omega)
theorem turnC_L (hI : BI nb B) (hB : CB m nb B) (hH : CH m pl tu) (ht : tu < 8) : ∀ n i, i ≤ nb → nb < i + n → f_X4_blockInTurn_L2 m n (nI i) = some (nxI ((ffi (fun k => urd B ((tu + k) % nb)) (nb - i) i).map (fun k => (tu + k) % nb))) := by
  have hn := hI.1
  intro n
  induction n with
  | zero => intro i h2 h3; omega
  | succ n ih =>
    intro i h2 h3
    rw [f_X4_blockInTurn_L2.eq_2]
    by_cases c : i = nb
    · subst c
      rw [Nat.sub_self]
      simp (disch := omega) only [ile_t, ile_f, ilt_t, ilt_f, ieq_t, ieq_f, gd_nI, gn_nI, gz_nI, b1_some, bd_some, lt1_eq, nI_add, nI_mul, nI_clamp, if_true, if_false, hB.1]
      rfl
    · have hlt : (tu + i) % nb < nb := Nat.mod_lt _ (by omega)
      have hbi := hI.2 _ hlt
      have e1 := unreadC_s (hB.2 _ hlt) hbi.2.2.2.2.2.1
      rw [show nb - i = (nb - (i + 1)) + 1 by omega]
      unfold ffi
      simp (disch := omega) only [ile_t, ile_f, ilt_t, ilt_f, ieq_t, ieq_f, gd_nI, gn_nI, gz_nI, b1_some, bd_some, lt1_eq, nI_add, nI_mul, nI_clamp, if_true, if_false, hB.1, hH.2, nI_mod, e1]
      by_cases d : B ((tu + i) % nb) 4 < B ((tu + i) % nb) 3
      · rw [ile_f (by omega) (by omega)]
        have hu : urd B ((tu + i) % nb) = true := by unfold urd; exact decide_eq_true d
        rw [if_pos hu]
        rfl
      · rw [ile_t (by omega) (by omega)]
        have hu : ¬ urd B ((tu + i) % nb) = true := by unfold urd; simp [d]
        rw [if_neg hu]
        exact ih (i + 1) (by omega) (by omega)
theorem turnC_s (hI : BI nb B) (hB : CB m nb B) (hH : CH m pl tu) (ht : tu < 8) : f_X4_blockInTurn m = some (nxI (bt nb tu B)) :=
  turnC_L hI hB hH ht FU 0 (by omega) (by rw [FU_eq]; have := hI.1; omega)
theorem i1_f {α : Type} {a : Nat} {x y : α} (ha : a < 2 ^ 31) : (if nI a ≤ -1 then x else y) = y := if_neg (fun h => by
  rw [Int32.le_iff_toInt_le, nI_toInt ha] at h
  have : (-1 : Int32).toInt = -1 := by decide
  omega)
theorem mostC_L (hI : BI nb B) (hQQ : QQ nq Q) (hpl : pl ≤ 2) (hp0 : pl ≠ 0) (hB : CB m nb B) (hQ : CQ m nq Q) (hH : CH m pl tu) (hW : CW m nb B nq Q) : ∀ n i, i ≤ nb → nb < i + n → f_X4_mostPressingBlock_L7 m n (mpI (mp pl nb B nq Q i)) (mpC (mp pl nb B nq Q i)) (nI i) = some (mpI (mp pl nb B nq Q nb)) := by
  have hn := hI.1
  have hq6 := hQQ.1
  intro n
  induction n with
  | zero => intro i h2 h3; omega
  | succ n ih =>
    intro i h2 h3
    rw [f_X4_mostPressingBlock_L7.eq_2]
    by_cases c : i = nb
    · subst c
      simp (disch := omega) only [ile_t, ile_f, ilt_t, ilt_f, ieq_t, ieq_f, gd_nI, gn_nI, gz_nI, b1_some, bd_some, lt1_eq, nI_add, nI_mul, nI_clamp, if_true, if_false, hB.1]
    · have hbi := hI.2 i (by omega)
      have e1 := unreadC_s (hB.2 i (by omega)) hbi.2.2.2.2.2.1
      obtain ⟨c1, c2, c3, -⟩ := hB.2 i (by omega)
      have hes : mp pl nb B nq Q (i + 1) = if urd B i = true then (match mp pl nb B nq Q i with
          | none => some (i, wo pl nb B nq Q i)
          | some x => if x.2 < wo pl nb B nq Q i then some (i, wo pl nb B nq Q i) else some x) else mp pl nb B nq Q i := rfl
      have ih2 := ih (i + 1) (by omega) (by omega)
      have hwi := wo_le (pl := pl) (Q := Q) hI (b := i) (by omega) hq6
      by_cases d : B i 4 < B i 3
      · have hu : urd B i = true := by unfold urd; exact decide_eq_true d
        rw [if_pos hu] at hes
        have key : f_X4_mostPressingBlock_L65 (f_X4_mostPressingBlock_L7 m n) m (mpI (mp pl nb B nq Q i)) (mpC (mp pl nb B nq Q i)) (nI i) (nI (wo pl nb B nq Q i)) = some (mpI (mp pl nb B nq Q nb)) := by
          unfold f_X4_mostPressingBlock_L65
          rw [nI_add]
          cases e : mp pl nb B nq Q i with
          | none =>
            rw [e] at hes
            rw [hes] at ih2
            show (if nI (wo pl nb B nq Q i) ≤ -1 then _ else _) = _
            rw [i1_f (by omega)]
            exact ih2
          | some x =>
            rw [e] at hes
            obtain ⟨x1, x2, x3⟩ := mp_lt _ _ e
            have hwx := wo_le (pl := pl) (Q := Q) hI (b := x.1) (by omega) hq6
            show (if nI (wo pl nb B nq Q i) ≤ nI x.2 then _ else _) = _
            by_cases f : x.2 < wo pl nb B nq Q i
            · simp only [f, if_true] at hes
              rw [hes] at ih2
              rw [ile_f f (by omega)]
              exact ih2
            · simp only [f, if_false] at hes
              rw [hes] at ih2
              rw [ile_t (by omega) (by omega)]
              exact ih2
        by_cases p : pl = 1
        · have ew : wo pl nb B nq Q i = (B i 3 - B i 4) * (B i 2 - B i 1) := by unfold wo; rw [if_pos p]
          rw [ew] at key
          have hH1 := hH.1
          rw [p] at hH1
          simp (disch := omega) only [ile_t, ile_f, ilt_t, ilt_f, ieq_t, ieq_f, gd_nI, gn_nI, gz_nI, b1_some, bd_some, lt1_eq, nI_add, nI_mul, nI_clamp, if_true, if_false, hB.1, e1, hH1, c2, c3, nI_sub]
          exact key
        · have ew : wo pl nb B nq Q i = wt nb B Q i nq := by unfold wo; rw [if_neg p]
          rw [ew] at key
          have e3 := weightC_s hI hQQ hB hQ hW (b := i) (by omega)
          have hH1 := hH.1
          simp (disch := omega) only [ile_t, ile_f, ilt_t, ilt_f, ieq_t, ieq_f, gd_nI, gn_nI, gz_nI, b1_some, bd_some, lt1_eq, nI_add, nI_mul, nI_clamp, if_true, if_false, hB.1, e1, hH1, e3]
          exact key
      · have hu : ¬ urd B i = true := by unfold urd; simp [d]
        rw [if_neg hu] at hes
        rw [hes] at ih2
        simp (disch := omega) only [ile_t, ile_f, ilt_t, ilt_f, ieq_t, ieq_f, gd_nI, gn_nI, gz_nI, b1_some, bd_some, lt1_eq, nI_add, nI_mul, nI_clamp, if_true, if_false, hB.1, e1]
        exact ih2
theorem nextC_s (hI : BI nb B) (hQQ : QQ nq Q) (hpl : pl ≤ 2) (ht : tu < 8) (hB : CB m nb B) (hQ : CQ m nq Q) (hH : CH m pl tu) (hW : CW m nb B nq Q) : f_X4_nextBlock m = some (nxI (nx pl tu nb B nq Q)) := by
  have hH1 := hH.1
  unfold f_X4_nextBlock nx
  by_cases c : pl = 0
  · have e1 := turnC_s hI hB hH ht
    rw [if_pos c]
    simp (disch := omega) only [ile_t, ile_f, ilt_t, ilt_f, ieq_t, ieq_f, gd_nI, gn_nI, gz_nI, b1_some, bd_some, lt1_eq, nI_add, nI_mul, nI_clamp, if_true, if_false, hH1, e1]
  · have e1 := mostC_L hI hQQ hpl c hB hQ hH hW FU 0 (Nat.zero_le _) (by rw [FU_eq]; have := hI.1; omega)
    have e2 : f_X4_mostPressingBlock m = some (mpI (mp pl nb B nq Q nb)) := e1
    rw [if_neg c, show nxI (Option.map (fun x => x.1) (mp pl nb B nq Q nb)) = mpI (mp pl nb B nq Q nb) by cases mp pl nb B nq Q nb <;> rfl]
    simp (disch := omega) only [ile_t, ile_f, ilt_t, ilt_f, ieq_t, ieq_f, gd_nI, gn_nI, gz_nI, b1_some, bd_some, lt1_eq, nI_add, nI_mul, nI_clamp, if_true, if_false, hH1, e2]
/-- a state's cells hold this reading state -/
def CT (m : SM) (pl nb nq : Nat) (T : T3) : Prop := CB m nb T.2.1 ∧ CQ m nq T.2.2 ∧ CH m pl T.1 ∧ CW m nb T.2.1 nq T.2.2
theorem CB.row {m m' : SM} (h : CB m nb B) (h8 : nb ≤ 8) (hb : b < nb) (h1 : ∀ c, c ≠ 3 + b → m' c = m c) (h2 : CBr m' (rdB B b) b) : CB m' nb (rdB B b) := by
  refine ⟨by rw [h1 0 (by omega)]; exact h.1, fun x hx => ?_⟩
  by_cases c : x = b
  · subst c; exact h2
  · exact ((h.2 x hx).cp (h1 _ (by omega)) (h1 _ (by omega))).bk (fun k => upB_o (Or.inl c))
theorem CQ.fr {m m' : SM} (h : CQ m nq Q) (h0 : m' 0 3 = m 0 3) (h1 : ∀ q, q < nq → m' (19 + q) = m (19 + q)) : CQ m' nq Q :=
  ⟨by rw [h0]; exact h.1, fun q hq => (h.2 q hq).cp (h1 q hq)⟩
/-- a row of block b is read, and it settles -/
theorem readC_s (hI : BI nb B) (hQQ : QQ nq Q) (hB : CB m nb B) (hQ : CQ m nq Q) (hb : b < nb) (hu : urd B b = true) : ∃ m', f_X0_readRow m b = some (nI (B b (5 + B b 4)), m') ∧ (∀ c, c ≠ 3 + b → m' c = m c) ∧ CB m' nb (rdB B b) ∧ CQ m' nq Q := by
  have hbi := hI.2 b hb
  have hu : B b 4 < B b 3 := of_decide_eq_true hu
  obtain ⟨m1, g1, g2, g3⟩ := readRow_s (hB.2 b hb) hu hbi.2.2.2.2.1 (fun r hr => by have := hbi.2.2.2.2.2.2 r hr; omega)
  have h8 := hI.1
  exact ⟨m1, g1, g2, hB.row hI.1 hb g2 g3, hQ.fr (by rw [g2 0 (by omega)]) (fun q hq => g2 _ (by omega))⟩
theorem planC_s {T : T3} (hpl : pl ≤ 2) (hT : TI nb nq T) (hC : CT m pl nb nq T) : ∃ m', f_X4_readByPlan m = some (if ua nb T.2.1 = 0 then nI 0 else nI 1, m') ∧ CT m' pl nb nq (stp pl nb nq T) := by
  obtain ⟨tu, B, Q⟩ := T
  obtain ⟨ht, hI, hQQ⟩ := hT
  obtain ⟨hB, hQ, hH, hW⟩ := hC
  have ht : tu < 8 := ht
  have hI : BI nb B := hI
  have hQQ : QQ nq Q := hQQ
  have hB : CB m nb B := hB
  have hQ : CQ m nq Q := hQ
  have hH : CH m pl tu := hH
  have hW : CW m nb B nq Q := hW
  have h8 := hI.1
  have e1 := nextC_s hI hQQ hpl ht hB hQ hH hW
  show ∃ m', f_X4_readByPlan m = some (if ua nb B = 0 then nI 0 else nI 1, m') ∧ _
  unfold f_X4_readByPlan
  rw [e1, b1_some]
  by_cases u : ua nb B = 0
  · have en : nx pl tu nb B nq Q = none := by
      cases e : nx pl tu nb B nq Q with
      | none => rfl
      | some b =>
        have h1 := nx_some e
        have h2 := ua_0 u b h1.1
        rw [h2] at h1
        exact absurd h1.2 (by decide)
    have e2 : f_X4_hasBlock m (nxI (nx pl tu nb B nq Q)) = some (nI 0) := by rw [en]; exact hasB_n (by decide)
    rw [e2, b1_some, ieq_t rfl, if_pos u]
    refine ⟨m, rfl, ?_⟩
    unfold stp
    show CT m pl nb nq (match nx pl tu nb B nq Q with
      | none => (tu, B, Q)
      | some b => (if pl = 0 then (b + 1) % nb else tu, rdB B b, stl nb (rdB B b) nq Q))
    rw [en]
    exact ⟨hB, hQ, hH, hW⟩
  · obtain ⟨b, e⟩ := nx_ex (pl := pl) (tu := tu) (nq := nq) (Q := Q) hI u
    obtain ⟨hb, hu⟩ := nx_some e
    have hst : stp pl nb nq (tu, B, Q) = (if pl = 0 then (b + 1) % nb else tu, rdB B b, stl nb (rdB B b) nq Q) := by
      unfold stp
      show (match nx pl tu nb B nq Q with
        | none => (tu, B, Q)
        | some b => (if pl = 0 then (b + 1) % nb else tu, rdB B b, stl nb (rdB B b) nq Q)) = _
      rw [e]
    rw [hst, e, if_neg u, show nxI (some b) = nI b from rfl]
    have e2 := hasB_t hb h8 hB.1
    obtain ⟨m1, g1, g2, g3, g4⟩ := readC_s hI hQQ hB hQ hb hu
    have hH1 : CH m1 pl tu := by unfold CH; rw [g2 0 (by omega)]; exact hH
    have hI2 := BI_rdB hI hu
    have fin : ∀ (m2 : SM) (t : Nat), (∀ c, c ≠ 0 → m2 c = m1 c) → m2 0 2 = m1 0 2 → m2 0 3 = m1 0 3 → CH m2 pl t → ∃ m', f_X4_settle m2 = some (0, m') ∧ CT m' pl nb nq (t, rdB B b, stl nb (rdB B b) nq Q) := by
      intro m2 t k1 k2 k3 k4
      obtain ⟨m', p1, p2, p3, p4⟩ := settleC_s hI2 hQQ (g3.cp h8 k2 (fun c h1 h2 => k1 c (by omega))) (g4.fr k3 (fun q hq => k1 _ (by omega)))
      exact ⟨m', p1, (g3.cp h8 k2 (fun c h1 h2 => k1 c (by omega))).fr h8 p2, p3, k4.fr p2, p4⟩
    have hm0 := hH1.1
    have hm2 := g3.1
    by_cases c : pl = 0
    · rw [if_pos c]
      by_cases d : b + 1 = nb
      · rw [d, Nat.mod_self]
        obtain ⟨m', p1, p2⟩ := fin (up m1 0 5 (nI 0)) 0 (fun c hc => up_c hc) (up_o (Or.inr (by decide))) (up_o (Or.inr (by decide))) ⟨by rw [up_o (Or.inr (by decide))]; exact hm0, up_same⟩
        refine ⟨m', ?_, p2⟩
        unfold f_X4_readByPlan_L50
        simp (disch := omega) only [ile_t, ile_f, ilt_t, ilt_f, ieq_t, ieq_f, gd_nI, gn_nI, gz_nI, b1_some, bd_some, lt1_eq, nI_add, nI_mul, nI_clamp, if_true, if_false, e2, g1, hm0, hm2, p1]
      · rw [Nat.mod_eq_of_lt (show b + 1 < nb by omega)]
        obtain ⟨m', p1, p2⟩ := fin (up m1 0 5 (nI (b + 1))) (b + 1) (fun c hc => up_c hc) (up_o (Or.inr (by decide))) (up_o (Or.inr (by decide))) ⟨by rw [up_o (Or.inr (by decide))]; exact hm0, up_same⟩
        refine ⟨m', ?_, p2⟩
        unfold f_X4_readByPlan_L50
        simp (disch := omega) only [ile_t, ile_f, ilt_t, ilt_f, ieq_t, ieq_f, gd_nI, gn_nI, gz_nI, b1_some, bd_some, lt1_eq, nI_add, nI_mul, nI_clamp, if_true, if_false, e2, g1, hm0, hm2, p1]
    · rw [if_neg c]
      obtain ⟨m', p1, p2⟩ := fin m1 tu (fun c hc => rfl) rfl rfl hH1
      refine ⟨m', ?_, p2⟩
      simp (disch := omega) only [ile_t, ile_f, ilt_t, ilt_f, ieq_t, ieq_f, gd_nI, gn_nI, gz_nI, b1_some, bd_some, lt1_eq, nI_add, nI_mul, nI_clamp, if_true, if_false, e2, g1, hm0, p1]
theorem stp_0 {T : T3} (h : ua nb T.2.1 = 0) : stp pl nb nq T = T := by
  unfold stp
  cases e : nx pl T.1 nb T.2.1 nq T.2.2 with
  | none => rfl
  | some b =>
    have h1 := nx_some e
    have h2 := ua_0 h b h1.1
    rw [h2] at h1
    exact absurd h1.2 (by decide)
theorem opn_le (hQQ : QQ nq Q) : opn nq Q ≤ 6 := by
  have := sumTo_le (f := fun q => 1 - Q q 4) (c := 1) nq (fun i hi => by omega)
  have h6 := hQQ.1
  unfold opn
  omega
theorem whileC_L (hpl : pl ≤ 2) : ∀ n k cnt m (T : T3), k ≤ 128 → k < n → TI nb nq T → CT m pl nb nq T → ∃ m', f_X4_readWhileOpen_L4 n m (nI cnt) (nI (128 - k)) = some (nI (cnt + (run pl nb nq (fun Q => decide (opn nq Q = 0)) k T).1), m') ∧ CT m' pl nb nq (run pl nb nq (fun Q => decide (opn nq Q = 0)) k T).2 := by
  intro n
  induction n with
  | zero => intro k cnt m T h1 h2; omega
  | succ n ih =>
    intro k cnt m T h1 h2 hT hC
    rw [f_X4_readWhileOpen_L4.eq_2]
    cases k with
    | zero =>
      rw [ile_t (by decide) (by decide)]
      exact ⟨m, rfl, hC⟩
    | succ k =>
      have e1 := openC_s hT.2.2 hC.2.1
      have ho := opn_le hT.2.2
      obtain ⟨m1, g1, g2⟩ := planC_s hpl hT hC
      by_cases c : opn nq T.2.2 = 0
      · have er : run pl nb nq (fun Q => decide (opn nq Q = 0)) (k + 1) T = (0, T) := by
          unfold run
          rw [if_pos (Or.inl (decide_eq_true c))]
        rw [er]
        rw [c] at e1
        simp (disch := omega) only [ile_t, ile_f, ilt_t, ilt_f, ieq_t, ieq_f, gd_nI, gn_nI, gz_nI, b1_some, bd_some, lt1_eq, nI_add, nI_mul, nI_clamp, if_true, if_false, e1]
        exact ⟨m, rfl, hC⟩
      · by_cases d : ua nb T.2.1 = 0
        · have er : run pl nb nq (fun Q => decide (opn nq Q = 0)) (k + 1) T = (0, T) := by
            unfold run
            rw [if_pos (Or.inr d)]
          rw [er]
          rw [if_pos d] at g1
          rw [stp_0 d] at g2
          simp (disch := omega) only [ile_t, ile_f, ilt_t, ilt_f, ieq_t, ieq_f, gd_nI, gn_nI, gz_nI, b1_some, bd_some, lt1_eq, nI_add, nI_mul, nI_clamp, if_true, if_false, e1, g1]
          exact ⟨m1, rfl, g2⟩
        · have er : run pl nb nq (fun Q => decide (opn nq Q = 0)) (k + 1) T = ((run pl nb nq (fun Q => decide (opn nq Q = 0)) k (stp pl nb nq T)).1 + 1, (run pl nb nq (fun Q => decide (opn nq Q = 0)) k (stp pl nb nq T)).2) := by
            conv => lhs; unfold run
            rw [if_neg (by
              rintro (h | h)
              · exact c (of_decide_eq_true h)
              · exact d h)]
          rw [er]
          rw [if_neg d] at g1
          obtain ⟨m', p1, p2⟩ := ih k (cnt + 1) m1 (stp pl nb nq T) (by omega) (by omega) (TI_stp hT) g2
          simp (disch := omega) only [ile_t, ile_f, ilt_t, ilt_f, ieq_t, ieq_f, gd_nI, gn_nI, gz_nI, b1_some, bd_some, lt1_eq, nI_add, nI_mul, nI_clamp, if_true, if_false, e1, g1]
          refine ⟨m', ?_, p2⟩
          have ek : 128 - (k + 1) + 1 = 128 - k := by omega
          rw [ek, p1, Nat.add_assoc, Nat.add_comm 1]
theorem whileC_s {T : T3} (hpl : pl ≤ 2) (hT : TI nb nq T) (hC : CT m pl nb nq T) : ∃ m', f_X4_readWhileOpen m = some (nI (run pl nb nq (fun Q => decide (opn nq Q = 0)) 128 T).1, m') ∧ CT m' pl nb nq (run pl nb nq (fun Q => decide (opn nq Q = 0)) 128 T).2 := by
  obtain ⟨m', p1, p2⟩ := whileC_L hpl FU 128 0 m T (by decide) (by decide) hT hC
  rw [Nat.zero_add] at p1
  exact ⟨m', p1, p2⟩
end CCC
