/-! THE STEPS: addBlock -/
def wB (B : BK) (b : Nat) (v : Nat → Nat) (i : Nat) : BK := fun x k => if x = b ∧ 5 ≤ k ∧ k < 5 + i then v (k - 5) else B x k
section AB
variable {m m' : SM} {M : MM} {nb nq pl tu b q k how ls n t : Nat} {B B2 Q Q2 : BK} {v : Nat → Nat}
theorem wB_0 : wB B b v 0 = B := by
  funext x k
  unfold wB
  rw [if_neg (by omega)]
theorem wB_s {i : Nat} : upB (wB B b v i) b (5 + i) (v i) = wB B b v (i + 1) := by
  funext x k
  unfold upB wB
  by_cases c : x = b ∧ k = 5 + i
  · obtain ⟨rfl, rfl⟩ := c
    rw [if_pos ⟨rfl, rfl⟩, if_pos ⟨rfl, by omega, by omega⟩, Nat.add_sub_cancel_left]
  · rw [if_neg c]
    by_cases d : x = b ∧ 5 ≤ k ∧ k < 5 + i
    · rw [if_pos d, if_pos (by omega)]
    · rw [if_neg d, if_neg (by omega)]
theorem ZB.cnt (h : ZB (m 1) nb B) : ZB (up m 1 0 (nI n) 1) n B := ⟨up_same, fun b k hb hk => by rw [up_o (Or.inr (by omega))]; exact h.2 b k hb hk⟩
theorem ZQ.k0 {x : Int32} (h : ZQ (m 1) nq Q) : ZQ (up m 1 0 x 1) nq Q := ⟨by rw [up_o (Or.inr (by decide))]; exact h.1, fun b k hb hk => by rw [up_o (Or.inr (by omega))]; exact h.2 b k hb hk⟩
theorem ZH.k0 {x : Int32} (h : ZH (m 1) pl tu) : ZH (up m 1 0 x 1) pl tu := ⟨by rw [up_o (Or.inr (by decide))]; exact h.1, by rw [up_o (Or.inr (by decide))]; exact h.2⟩
theorem inR_t {bo to : Nat} (hW : inW bo to n v) (hb : bo ≤ 999) (ht : to ≤ 999) (hn : n ≤ 16) (h1 : m 8 1 = nI bo) (h2 : m 8 2 = nI to) (h15 : m 0 15 = nI n) (hv : ∀ q, q < n → m 8 (3 + q) = nI (v q)) : f_X6_areWithin m = some (nI 1) := by
  have L : ∀ k i, i ≤ n → n < i + k → f_X6_areWithin_L23 m k (nI 1) (nI i) = some (nI 1) := by
    intro k
    induction k with
    | zero => intro i h1 h2; omega
    | succ k ih =>
      intro i h3 h4
      rw [f_X6_areWithin_L23.eq_2]
      by_cases c : i = n
      · subst c
        simp (disch := omega) only [ile_t, ile_f, ilt_t, ilt_f, ieq_t, ieq_f, gd_nI, gn_nI, gz_nI, b1_some, bd_some, lt1_eq, nI_add, nI_mul, nI_clamp, if_true, if_false, h15]
      · have e := hv i (by omega)
        have w := hW.2 i (by omega)
        have e2 := isFT (b := v i) (q := bo) (k := to) (by omega) (by omega) (by omega)
        rw [if_pos w] at e2
        simp (disch := omega) only [ile_t, ile_f, ilt_t, ilt_f, ieq_t, ieq_f, gd_nI, gn_nI, gz_nI, b1_some, bd_some, lt1_eq, nI_add, nI_mul, nI_clamp, if_true, if_false, h15, h1, h2, e, in_eq, e2]
        exact ih (i + 1) (by omega) (by omega)
  have hle := hW.1
  unfold f_X6_areWithin
  simp (disch := omega) only [ile_t, ile_f, ilt_t, ilt_f, ieq_t, ieq_f, gd_nI, gn_nI, gz_nI, b1_some, bd_some, lt1_eq, nI_add, nI_mul, nI_clamp, if_true, if_false, h1, h2]
  exact L FU 0 (Nat.zero_le _) (by rw [FU_eq]; omega)
theorem inR_f {bo to : Nat} (hW : ¬ inW bo to n v) (hb : bo ≤ 999) (ht : to ≤ 999) (hn : n ≤ 16) (hv9 : ∀ q, q < n → v q ≤ 999) (h1 : m 8 1 = nI bo) (h2 : m 8 2 = nI to) (h15 : m 0 15 = nI n) (hv : ∀ q, q < n → m 8 (3 + q) = nI (v q)) : f_X6_areWithin m = some (nI 0) := by
  have Z : ∀ k i, i ≤ n → n < i + k → f_X6_areWithin_L23 m k (nI 0) (nI i) = some (nI 0) := by
    intro k
    induction k with
    | zero => intro i h1 h2; omega
    | succ k ih =>
      intro i h3 h4
      rw [f_X6_areWithin_L23.eq_2]
      by_cases c : i = n
      · subst c
        simp (disch := omega) only [ile_t, ile_f, ilt_t, ilt_f, ieq_t, ieq_f, gd_nI, gn_nI, gz_nI, b1_some, bd_some, lt1_eq, nI_add, nI_mul, nI_clamp, if_true, if_false, h15]
      · simp (disch := omega) only [ile_t, ile_f, ilt_t, ilt_f, ieq_t, ieq_f, gd_nI, gn_nI, gz_nI, b1_some, bd_some, lt1_eq, nI_add, nI_mul, nI_clamp, if_true, if_false, h15]
        exact ih (i + 1) (by omega) (by omega)
  unfold f_X6_areWithin
  simp (disch := omega) only [ile_t, ile_f, ilt_t, ilt_f, ieq_t, ieq_f, gd_nI, gn_nI, gz_nI, b1_some, bd_some, lt1_eq, nI_add, nI_mul, nI_clamp, if_true, if_false, h1, h2]
  by_cases c0 : bo ≤ to
  · have L : ∀ k i, i ≤ n → n < i + k → (∀ q, q < i → bo ≤ v q ∧ v q ≤ to) → f_X6_areWithin_L23 m k (nI 1) (nI i) = some (nI 0) := by
      intro k
      induction k with
      | zero => intro i h1 h2; omega
      | succ k ih =>
        intro i h3 h4 hg
        rw [f_X6_areWithin_L23.eq_2]
        by_cases c : i = n
        · subst c
          exact absurd ⟨c0, hg⟩ hW
        · have e := hv i (by omega)
          have w9 := hv9 i (by omega)
          have e2 := isFT (b := v i) (q := bo) (k := to) (by omega) (by omega) (by omega)
          by_cases w : bo ≤ v i ∧ v i ≤ to
          · rw [if_pos w] at e2
            simp (disch := omega) only [ile_t, ile_f, ilt_t, ilt_f, ieq_t, ieq_f, gd_nI, gn_nI, gz_nI, b1_some, bd_some, lt1_eq, nI_add, nI_mul, nI_clamp, if_true, if_false, h15, h1, h2, e, in_eq, e2]
            exact ih (i + 1) (by omega) (by omega) (fun q hq => by
              by_cases d : q = i
              · subst d; exact w
              · exact hg q (by omega))
          · rw [if_neg w] at e2
            simp (disch := omega) only [ile_t, ile_f, ilt_t, ilt_f, ieq_t, ieq_f, gd_nI, gn_nI, gz_nI, b1_some, bd_some, lt1_eq, nI_add, nI_mul, nI_clamp, if_true, if_false, h15, h1, h2, e, in_eq, e2]
            exact Z k (i + 1) (by omega) (by omega)
    rw [ilt_f c0 (by omega)]
    exact L FU 0 (Nat.zero_le _) (by rw [FU_eq]; omega) (fun q hq => by omega)
  · rw [ilt_t (by omega) (by omega)]
    exact Z FU 0 (Nat.zero_le _) (by rw [FU_eq]; omega)
theorem add106 (hI : BI nb (wB B b v n)) (hQQ : QQ nq Q) (hb : b < 8) (hn : n ≤ 16) : ∀ j i m, i ≤ n → n < i + j → m 0 15 = nI n → (∀ q, q < n → m 8 (3 + q) = nI (v q)) → ZB (m 1) nb (wB B b v i) → ZQ (m 1) nq Q → ZH (m 1) pl tu → ∃ m', f_X6_addBlock_L106 j m (nI b) (nI i) = some (nI b, m') ∧ SX m m' ∧ ZB (m' 1) nb (wB B b v n) ∧ ZQ (m' 1) nq (stl nb (wB B b v n) nq Q) ∧ ZH (m' 1) pl tu := by
  intro j
  induction j with
  | zero => intro i m h1 h2; omega
  | succ j ih =>
    intro i m h1 h2 h15 hv hB hQ hH
    rw [f_X6_addBlock_L106.eq_2]
    by_cases c : i = n
    · subst c
      obtain ⟨m', p1, p2⟩ := settle_s hI hQQ hB hQ hH
      simp (disch := omega) only [ile_t, ile_f, ilt_t, ilt_f, ieq_t, ieq_f, gd_nI, gn_nI, gz_nI, b1_some, bd_some, lt1_eq, nI_add, nI_mul, nI_clamp, if_true, if_false, h15, p1]
      exact ⟨m', rfl, p2⟩
    · have e := hv i (by omega)
      have w1 := put_s (m := m) (b := b) (k := 5 + i) (v := nI (v i)) hb (by omega)
      obtain ⟨m', p1, p2, p3⟩ := ih (i + 1) (up m 1 (4 + 21 * b + (5 + i)) (nI (v i))) (by omega) (by omega) (by rw [up_c (by decide)]; exact h15) (fun q hq => by rw [up_c (by decide)]; exact hv q hq) (by rw [← wB_s]; exact hB.put (by omega)) (hQ.putB hb (by omega)) (hH.put (by omega))
      simp (disch := omega) only [ile_t, ile_f, ilt_t, ilt_f, ieq_t, ieq_f, gd_nI, gn_nI, gz_nI, b1_some, bd_some, lt1_eq, nI_add, nI_mul, nI_clamp, if_true, if_false, h15, e, w1]
      exact ⟨m', p1, SX.up1.tr p2, p3⟩
theorem CLS.tx {S K : AS} {hn ks tl : Nat} {Hs : Nat → AS} {tx : Nat → Int32} (h : CLS M S hn Hs ks K tl tx) (ht : TC m tl tx) : CLS (gs M 7 m) S hn Hs ks K tl tx := by
  obtain ⟨a1, ⟨od, b1, b2, b3, b4⟩, a3, a4, a5⟩ := h
  refine ⟨by rw [gs_ne (by decide)]; exact a1, ⟨od, by rw [gs_ne (by decide)]; exact b1, by rw [gs_ne (by decide)]; exact b2, b3, fun h hh => ?_⟩, by rw [gs_ne (by decide)]; exact a3, by rw [gs_ne (by decide)]; exact a4, by rw [gs_at]; exact ht⟩
  have hm : (od + h) % 4 < 4 := Nat.mod_lt _ (by decide)
  rw [gs_ne (by omega)]
  exact b4 h hh
/-- the row that the reference writes for a new block -/
def nB (B : BK) (b la bo to n : Nat) : BK := upB (upB (upB (upB (upB B b 0 la) b 1 bo) b 2 to) b 3 n) b 4 0
theorem add64 {la bo to : Nat} (hb : b < 8) (h0 : m 8 0 = nI la) (h1 : m 8 1 = nI bo) (h2 : m 8 2 = nI to) (h15 : m 0 15 = nI n) (hB : ZB (m 1) nb B) (hQ : ZQ (m 1) nq Q) (hH : ZH (m 1) pl tu) : ∃ m', f_X6_addBlock_L64 FU m (nI b) (nI 0) = f_X6_addBlock_L106 FU m' (nI b) (nI 0) ∧ SX m m' ∧ m' 8 = m 8 ∧ m' 0 = m 0 ∧ ZB (m' 1) nb (nB B b la bo to n) ∧ ZQ (m' 1) nq Q ∧ ZH (m' 1) pl tu := by
  have w := fun (mm : SM) (k : Nat) (hk : k < 21) (x : Int32) => put_s (m := mm) (b := b) (k := k) (v := x) hb hk
  have w0 := fun mm => w mm 0 (by decide) (nI la)
  have w1 := fun mm => w mm 1 (by decide) (nI bo)
  have w2 := fun mm => w mm 2 (by decide) (nI to)
  have w3 := fun mm => w mm 3 (by decide) (nI n)
  have w4 := fun mm => w mm 4 (by decide) (nI 0)
  have r8 : ∀ (mm : SM) (j k : Nat) (x : Int32), up mm 1 j x 8 k = mm 8 k := fun mm j k x => up_o (Or.inl (by decide))
  have r0 : ∀ (mm : SM) (j k : Nat) (x : Int32), up mm 1 j x 0 k = mm 0 k := fun mm j k x => up_o (Or.inl (by decide))
  rw [show FU = 996 + 1 + 1 + 1 + 1 from rfl, f_X6_addBlock_L64.eq_2]
  simp (disch := omega) only [ile_t, ile_f, ilt_t, ilt_f, ieq_t, ieq_f, gd_nI, gn_nI, gz_nI, b1_some, bd_some, lt1_eq, nI_add, nI_mul, nI_clamp, if_true, if_false, h0, w0]
  rw [f_X6_addBlock_L64.eq_2]
  simp (disch := omega) only [ile_t, ile_f, ilt_t, ilt_f, ieq_t, ieq_f, gd_nI, gn_nI, gz_nI, b1_some, bd_some, lt1_eq, nI_add, nI_mul, nI_clamp, if_true, if_false, r8, h1, w1]
  rw [f_X6_addBlock_L64.eq_2]
  simp (disch := omega) only [ile_t, ile_f, ilt_t, ilt_f, ieq_t, ieq_f, gd_nI, gn_nI, gz_nI, b1_some, bd_some, lt1_eq, nI_add, nI_mul, nI_clamp, if_true, if_false, r8, h2, w2]
  rw [f_X6_addBlock_L64.eq_2]
  rw [ile_t (by decide) (by decide)]
  unfold f_X6_addBlock_L87
  simp (disch := omega) only [ile_t, ile_f, ilt_t, ilt_f, ieq_t, ieq_f, gd_nI, gn_nI, gz_nI, b1_some, bd_some, lt1_eq, nI_add, nI_mul, nI_clamp, if_true, if_false, r0, h15, w3, w4]
  refine ⟨_, rfl, (((SX.up1.tr SX.up1).tr SX.up1).tr SX.up1).tr SX.up1, ?_, ?_, ?_, ?_, ?_⟩
  · rw [up_c (by decide), up_c (by decide), up_c (by decide), up_c (by decide), up_c (by decide)]
  · rw [up_c (by decide), up_c (by decide), up_c (by decide), up_c (by decide), up_c (by decide)]
  · exact ((((hB.put (by decide)).put (by decide)).put (by decide)).put (by decide)).put (by decide)
  · exact ((((hQ.putB hb (by decide)).putB hb (by decide)).putB hb (by decide)).putB hb (by decide)).putB hb (by decide)
  · exact ((((hH.put (by omega)).put (by omega)).put (by omega)).put (by omega)).put (by omega)
theorem st_addBlock : stepOK Rel (fun M => f_X5_addBlock M) (fun m => f_X6_addBlock m) := by
  refine mkStep fun M S hn Hs ks K tl tx hI hC hR => ?_
  obtain ⟨nb, nq, pl, tu, B, Q⟩ := S
  have hI0 : BI nb B := hI.1.1
  have hQ0 : QQ nq Q := hI.1.2.1
  have hpl : pl ≤ 2 := hI.1.2.2.1
  have htu : tu < 8 := hI.1.2.2.2.1
  have hSD : SD nb B nq Q := hI.1.2.2.2.2
  have cB : CB (M 0) nb B := hC.1.1
  have cQ : CQ (M 0) nq Q := hC.1.2.1
  have cH : CH (M 0) pl tu := hC.1.2.2.1
  have cW : CW (M 0) nb B nq Q := hC.1.2.2.2
  have zB : ZB (M 9 1) nb B := hR.1.1
  have zQ : ZQ (M 9 1) nq Q := hR.1.2.1
  have zH : ZH (M 9 1) pl tu := hR.1.2.2
  have h8 := hI0.1
  have h6 := hQ0.1
  have t80 := hI.2.2.2.2.2
  obtain ⟨mt, e1, tC, tK⟩ := parse_s t80 hC.2.2.2.2
  obtain ⟨mr, e2, sE, rK⟩ := readText_s hR.2.2.2.2 t80
  have hC2 := hC.tx tC
  have hR2 := hR.e sE
  have b := pP_b (tx := tx) t80
  have g9 : gs M 7 mt 9 = M 9 := gs_ne (by decide)
  have g0 : gs M 7 mt 0 = M 0 := gs_ne (by decide)
  have g7 : gs M 7 mt 7 = mt := gs_at
  cases e : pP tl tx with
  | inl f =>
    rw [e] at e1 e2 tK rK b
    have e1 : f_X1_parse (M 7) = some (nI 0, mt) := e1
    have e2 : f_X6_readText (M 9) = some (nI f, mr) := e2
    have tK : mt 0 3 = nI f := tK
    have rK : mr 0 17 = nI f := rK
    have b : f ≤ 83 := b
    refine ⟨-100 - nI f, gs M 7 mt, mr, ?_, g9, ?_, (nb, nq, pl, tu, B, Q), hn, Hs, ks, K, tl, tx, hI, hC2, hR2⟩
    · unfold f_X5_addBlock
      simp (disch := omega) only [ile_t, ile_f, ilt_t, ilt_f, ieq_t, ieq_f, gd_nI, gn_nI, gz_nI, b1_some, bd_some, lt1_eq, nI_add, nI_mul, nI_clamp, if_true, if_false, e1, g7, tK]
    · unfold f_X6_addBlock
      simp (disch := omega) only [ile_t, ile_f, ilt_t, ilt_f, ieq_t, ieq_f, gd_nI, gn_nI, gz_nI, b1_some, bd_some, lt1_eq, nI_add, nI_mul, nI_clamp, if_true, if_false, e2, i5_f, rK]
  | inr x =>
    obtain ⟨la, bo, to, n, v⟩ := x
    rw [e] at e1 e2 tK rK b
    have e1 : f_X1_parse (M 7) = some (nI 1, mt) := e1
    have e2 : f_X6_readText (M 9) = some (-5, mr) := e2
    obtain ⟨k0, k1, k2, k3, k4⟩ := tK
    obtain ⟨-, r0, r1, r2, r3, r4⟩ := rK
    obtain ⟨b0, b1', b2, b3, b4, b5⟩ := b
    have k0 : mt 0 4 = nI la := k0
    have k1 : mt 0 5 = nI bo := k1
    have k2 : mt 0 6 = nI to := k2
    have k3 : mt 0 7 = nI n := k3
    have k4 : ∀ q, q < n → mt 2 q = nI (v q) := k4
    have r0 : mr 8 0 = nI la := r0
    have r1 : mr 8 1 = nI bo := r1
    have r2 : mr 8 2 = nI to := r2
    have r3 : mr 0 15 = nI n := r3
    have r4 : ∀ q, q < n → mr 8 (3 + q) = nI (v q) := r4
    have b0 : la ≤ 3 := b0
    have b1' : bo ≤ 999 := b1'
    have b2 : to ≤ 999 := b2
    have b3 : 1 ≤ n := b3
    have b4 : n ≤ 16 := b4
    have b5 : ∀ q, q < n → v q ≤ 999 := b5
    by_cases hW : inW bo to n v
    · have e3 := inC_t hW b1' b2 b4 k1 k2 k3 k4
      have o3 := inR_t hW b1' b2 b4 r1 r2 r3 r4
      have zr0 : mr 1 0 = nI nb := by rw [sE.2]; exact zB.1
      by_cases c : nb = 8
      · refine ⟨-3, gs M 7 mt, mr, ?_, g9, ?_, (nb, nq, pl, tu, B, Q), hn, Hs, ks, K, tl, tx, hI, hC2, hR2⟩
        · unfold f_X5_addBlock
          simp (disch := omega) only [ile_t, ile_f, ilt_t, ilt_f, ieq_t, ieq_f, gd_nI, gn_nI, gz_nI, b1_some, bd_some, lt1_eq, nI_add, nI_mul, nI_clamp, if_true, if_false, e1, g7, g0, e3, cB.1]
        · unfold f_X6_addBlock
          simp (disch := omega) only [ile_t, ile_f, ilt_t, ilt_f, ieq_t, ieq_f, gd_nI, gn_nI, gz_nI, b1_some, bd_some, lt1_eq, nI_add, nI_mul, nI_clamp, if_true, if_false, e2, i5_t, o3, zr0]
      · obtain ⟨M1, m1, p1, p2, p0, p9, p7, p22, q1, q3, q8, q15, fin⟩ := act_rec hI hC2 hR2
        rw [g0] at p0
        rw [g7] at p7
        generalize hB2 : wB (nB B nb la bo to n) nb v n = B2
        have hs : B2 = setR B nb (B2 nb) := by
          funext x
          unfold setR
          by_cases d : x = nb
          · rw [if_pos d, d]
          · rw [if_neg d, ← hB2]
            funext k
            unfold wB
            rw [if_neg (fun z => d z.1)]
            unfold nB
            rw [upB_x d, upB_x d, upB_x d, upB_x d, upB_x d]
        have lo : ∀ k, k < 5 → B2 nb k = nB B nb la bo to n nb k := fun k hk => by
          rw [← hB2]
          unfold wB
          rw [if_neg (by omega)]
        have f0 : B2 nb 0 = la := by rw [lo _ (by decide)]; unfold nB; rw [upB_o (Or.inr (by decide)), upB_o (Or.inr (by decide)), upB_o (Or.inr (by decide)), upB_o (Or.inr (by decide)), upB_at]
        have f1 : B2 nb 1 = bo := by rw [lo _ (by decide)]; unfold nB; rw [upB_o (Or.inr (by decide)), upB_o (Or.inr (by decide)), upB_o (Or.inr (by decide)), upB_at]
        have f2 : B2 nb 2 = to := by rw [lo _ (by decide)]; unfold nB; rw [upB_o (Or.inr (by decide)), upB_o (Or.inr (by decide)), upB_at]
        have f3 : B2 nb 3 = n := by rw [lo _ (by decide)]; unfold nB; rw [upB_o (Or.inr (by decide)), upB_at]
        have f4 : B2 nb 4 = 0 := by rw [lo _ (by decide)]; unfold nB; rw [upB_at]
        have f5 : ∀ r, r < n → B2 nb (5 + r) = v r := fun r hr => by
          rw [← hB2]
          unfold wB
          rw [if_pos ⟨rfl, by omega, by omega⟩, Nat.add_sub_cancel_left]
        have hBI2 : BI (nb + 1) B2 := by
          refine ⟨by omega, fun x hx => ?_⟩
          by_cases d : x = nb
          · subst d
            rw [f0, f1, f2, f3, f4]
            exact ⟨by omega, hW.1, b2, b3, b4, Nat.zero_le _, fun r hr => by rw [f5 r hr]; exact hW.2 r hr⟩
          · rw [hs]
            unfold setR
            rw [if_neg d]
            exact hI0.2 x (by omega)
        obtain ⟨m2, g1, g2, g3, g4⟩ := addBC_s (m := M1 0) (mz := mt) (f := B2 nb) hI0 (by rw [p0]; exact cB) (by omega) (by rw [f0]; exact k0) (by rw [f1]; exact k1) (by rw [f2]; exact k2) (by rw [f3]; exact k3) f4 (by rw [f3]; exact b4) (fun r hr => by
          rw [f3] at hr
          rw [f5 r hr]
          exact ⟨k4 r hr, b5 r hr⟩)
        rw [← hs] at g4
        obtain ⟨m3, s1, s2, s3⟩ := setM hBI2 hQ0 g4 (cQ.fr (by rw [g3 3 (by decide), p0]) (fun q hq => by rw [g2 _ (by omega) (by omega), p0])) (show CH m2 pl tu by unfold CH; rw [g3 4 (by decide), g3 5 (by decide), p0]; exact cH)
        have zB1 : ZB (m1 1) nb B := by rw [q1, sE.2]; exact zB
        have zQ1 : ZQ (m1 1) nq Q := by rw [q1, sE.2]; exact zQ
        have zH1 : ZH (m1 1) pl tu := by rw [q1, sE.2]; exact zH
        have u8 : ∀ k, up m1 1 0 (nI (nb + 1)) 8 k = mr 8 k := fun k => by rw [up_o (Or.inl (by decide)), q8]
        have u15 : up m1 1 0 (nI (nb + 1)) 0 15 = nI n := by rw [up_o (Or.inl (by decide)), q15]; exact r3
        obtain ⟨m4, t1, t2, t3, t4, t5, t6, t7⟩ := add64 (m := up m1 1 0 (nI (nb + 1))) (b := nb) (n := n) (la := la) (bo := bo) (to := to) (nb := nb + 1) (pl := pl) (tu := tu) (nq := nq) (Q := Q) (B := B) (by omega) (by rw [u8]; exact r0) (by rw [u8]; exact r1) (by rw [u8]; exact r2) u15 zB1.cnt zQ1.k0 zH1.k0
        obtain ⟨m5, w1, w2, w3, w4, w5⟩ := add106 (B := nB B nb la bo to n) (b := nb) (v := v) (n := n) (nb := nb + 1) (by rw [hB2]; exact hBI2) hQ0 (by omega) b4 FU 0 m4 (Nat.zero_le _) (by rw [FU_eq]; omega) (by rw [t4]; exact u15) (fun q hq => by rw [t3, u8]; exact r4 q hq) (by rw [wB_0]; exact t5) t6 t7
        rw [hB2] at w3 w4
        have z1 : m1 1 0 = nI nb := zB1.1
        have res := fin (r := nI nb) (M2 := gs M1 0 m3) (S2 := (nb + 1, nq, pl, tu, B2, stl (nb + 1) B2 nq Q)) (fc := f_X5_addBlock M) (fm := f_X6_addBlock (M 9)) (SI_mk hBI2 hQ0 hpl htu) (fun g hg => gs_ne hg) (by rw [gs_at]; exact s2) ((SX.up1.tr t2).tr w2) ⟨w3, w4, w5⟩ (by
          unfold f_X5_addBlock
          simp (disch := omega) only [ile_t, ile_f, ilt_t, ilt_f, ieq_t, ieq_f, gd_nI, gn_nI, gz_nI, b1_some, bd_some, lt1_eq, nI_add, nI_mul, nI_clamp, if_true, if_false, e1, g7, g0, e3, cB.1, p1, p7, g1, gs_at, gs_gs, s1]) (by
          unfold f_X6_addBlock
          simp (disch := omega) only [ile_t, ile_f, ilt_t, ilt_f, ieq_t, ieq_f, gd_nI, gn_nI, gz_nI, b1_some, bd_some, lt1_eq, nI_add, nI_mul, nI_clamp, if_true, if_false, e2, i5_t, o3, zr0, p2, z1]
          rw [t1, w1])
        rw [g9] at res
        exact res
    · have e3 := inC_f hW b1' b2 b4 b5 k1 k2 k3 k4
      have o3 := inR_f hW b1' b2 b4 b5 r1 r2 r3 r4
      refine ⟨-2, gs M 7 mt, mr, ?_, g9, ?_, (nb, nq, pl, tu, B, Q), hn, Hs, ks, K, tl, tx, hI, hC2, hR2⟩
      · unfold f_X5_addBlock
        simp (disch := omega) only [ile_t, ile_f, ilt_t, ilt_f, ieq_t, ieq_f, gd_nI, gn_nI, gz_nI, b1_some, bd_some, lt1_eq, nI_add, nI_mul, nI_clamp, if_true, if_false, e1, g7, e3]
      · unfold f_X6_addBlock
        simp (disch := omega) only [ile_t, ile_f, ilt_t, ilt_f, ieq_t, ieq_f, gd_nI, gn_nI, gz_nI, b1_some, bd_some, lt1_eq, nI_add, nI_mul, nI_clamp, if_true, if_false, e2, i5_t, o3]
end AB
