/-! THE CLASS: rows, assumed, answer, settling -/
section CBB
variable {m : SM} {nb nq pl tu b q k how ls lim n : Nat} {B Q : BK} {qr : Nat → Nat}
theorem CB.cp {m m' : SM} (h : CB m nb B) (h8 : nb ≤ 8) (h0 : m' 0 2 = m 0 2) (h1 : ∀ c, 3 ≤ c → c < 19 → m' c = m c) : CB m' nb B :=
  ⟨by rw [h0]; exact h.1, fun b hb => (h.2 b hb).cp (h1 _ (by omega) (by omega)) (h1 _ (by omega) (by omega))⟩
theorem CB.fr {m m' : SM} (h : CB m nb B) (h8 : nb ≤ 8) (h1 : ∀ c, c < 19 → m' c = m c) : CB m' nb B :=
  h.cp h8 (by rw [h1 0 (by decide)]) (fun c _ h2 => h1 c h2)
theorem CH.fr {m m' : SM} (h : CH m pl tu) (h1 : ∀ c, c < 19 → m' c = m c) : CH m' pl tu := by
  unfold CH at h ⊢
  rw [h1 0 (by decide)]
  exact h
theorem ft_t (hb : b < n) (hn : n ≤ 128) : f_X5_isFromTo (nI b) (nI 0) (nI n - nI 1) = some (nI 1) := by
  rw [nI_sub (by omega), isFT (by omega) (by decide) (by omega), if_pos ⟨Nat.zero_le _, by omega⟩]
theorem ft_f (hb : n ≤ b) (hn : n ≤ 128) (hb2 : b < 2 ^ 31) : f_X5_isFromTo (nI b) (nI 0) (nI n - nI 1) = some (nI 0) := by
  by_cases c : n = 0
  · subst c
    have h1 : nI 0 - nI 1 < nI b := by
      rw [Int32.lt_iff_toInt_lt, nI_toInt hb2]
      have : (nI 0 - nI 1).toInt = -1 := by decide
      omega
    unfold f_X5_isFromTo
    rw [ilt_f (Nat.zero_le _) hb2, if_pos h1]
  · rw [nI_sub (by omega), isFT (by omega) (by decide) (by omega), if_neg (by omega)]
theorem ft_n {x y : Int32} (hx : x < 0) : f_X5_isFromTo x (nI 0) y = some (nI 0) := by
  unfold f_X5_isFromTo
  rw [if_pos (lt_nI_neg hx (by decide))]
theorem hasB_t (hb : b < nb) (hn : nb ≤ 8) (h : m 0 2 = nI nb) : f_X4_hasBlock m (nI b) = some (nI 1) := by
  unfold f_X4_hasBlock
  rw [h, ft_t hb (by omega), b1_some, gz_nI (by decide)]
theorem hasB_f (hb : nb ≤ b) (hb2 : b < 2 ^ 31) (hn : nb ≤ 8) (h : m 0 2 = nI nb) : f_X4_hasBlock m (nI b) = some (nI 0) := by
  unfold f_X4_hasBlock
  rw [h, ft_f hb (by omega) hb2, b1_some, gz_nI (by decide)]
theorem hasB_n {x : Int32} (hx : x < 0) : f_X4_hasBlock m x = some (nI 0) := by
  unfold f_X4_hasBlock
  rw [ft_n hx, b1_some, gz_nI (by decide)]
theorem hasQ_t (hq : q < nq) (hn : nq ≤ 6) (h : m 0 3 = nI nq) : f_X4_hasQuestion m (nI q) = some (nI 1) := by
  unfold f_X4_hasQuestion
  rw [h, ft_t hq (by omega), b1_some, gz_nI (by decide)]
theorem hasQ_f (hq : nq ≤ q) (hq2 : q < 2 ^ 31) (hn : nq ≤ 6) (h : m 0 3 = nI nq) : f_X4_hasQuestion m (nI q) = some (nI 0) := by
  unfold f_X4_hasQuestion
  rw [h, ft_f hq (by omega) hq2, b1_some, gz_nI (by decide)]
theorem hasQ_n {x : Int32} (hx : x < 0) : f_X4_hasQuestion m x = some (nI 0) := by
  unfold f_X4_hasQuestion
  rw [ft_n hx, b1_some, gz_nI (by decide)]
theorem rowsC_L (hI : BI nb B) (hl : ls < 16) (h : CB m nb B) : ∀ n i, i ≤ nb → nb < i + n → f_X4_rows_L4 m (nI ls) n (nI (sumTo (fun b => if ls.testBit (B b 0) then B b 3 else 0) i)) (nI i) = some (nI (rQ nb B ls 3)) := by
  have hn := hI.1
  intro n
  induction n with
  | zero => intro i h2 h3; omega
  | succ n ih =>
    intro i h2 h3
    rw [f_X4_rows_L4.eq_2]
    by_cases c : i = nb
    · subst c
      simp (disch := omega) only [ile_t, ile_f, ilt_t, ilt_f, ieq_t, ieq_f, gd_nI, gn_nI, gz_nI, b1_some, bd_some, lt1_eq, nI_add, nI_mul, nI_clamp, if_true, if_false, h.1]
      rfl
    · have hbi := hI.2 i (by omega)
      obtain ⟨a1, a2, a3, a4, a5, -⟩ := h.2 i (by omega)
      have e1 := covers_s hl hbi.1
      have es : sumTo (fun b => if ls.testBit (B b 0) then B b 3 else 0) (i + 1) = sumTo (fun b => if ls.testBit (B b 0) then B b 3 else 0) i + (if ls.testBit (B i 0) then B i 3 else 0) := rfl
      have ih2 := ih (i + 1) (by omega) (by omega)
      rw [es] at ih2
      by_cases d : ls.testBit (B i 0) = true
      · rw [if_pos d] at e1 ih2
        simp (disch := omega) only [ile_t, ile_f, ilt_t, ilt_f, ieq_t, ieq_f, gd_nI, gn_nI, gz_nI, b1_some, bd_some, lt1_eq, nI_add, nI_mul, nI_clamp, if_true, if_false, h.1, a1, e1, a4]
        exact ih2
      · rw [if_neg d] at e1 ih2
        simp (disch := omega) only [ile_t, ile_f, ilt_t, ilt_f, ieq_t, ieq_f, gd_nI, gn_nI, gz_nI, b1_some, bd_some, lt1_eq, nI_add, nI_mul, nI_clamp, if_true, if_false, h.1, a1, e1]
        exact ih2
theorem rowsC_s (hI : BI nb B) (hl : ls < 16) (h : CB m nb B) : f_X4_rows m (nI ls) = some (nI (rQ nb B ls 3)) :=
  rowsC_L hI hl h FU 0 (Nat.zero_le _) (by rw [FU_eq]; have := hI.1; omega)
theorem readsC_L (hI : BI nb B) (hl : ls < 16) (h : CB m nb B) : ∀ n i, i ≤ nb → nb < i + n → f_X4_readRows_L4 m (nI ls) n (nI (sumTo (fun b => if ls.testBit (B b 0) then B b 4 else 0) i)) (nI i) = some (nI (rQ nb B ls 4)) := by
  have hn := hI.1
  intro n
  induction n with
  | zero => intro i h2 h3; omega
  | succ n ih =>
    intro i h2 h3
    rw [f_X4_readRows_L4.eq_2]
    by_cases c : i = nb
    · subst c
      simp (disch := omega) only [ile_t, ile_f, ilt_t, ilt_f, ieq_t, ieq_f, gd_nI, gn_nI, gz_nI, b1_some, bd_some, lt1_eq, nI_add, nI_mul, nI_clamp, if_true, if_false, h.1]
      rfl
    · have hbi := hI.2 i (by omega)
      obtain ⟨a1, a2, a3, a4, a5, -⟩ := h.2 i (by omega)
      have e1 := covers_s hl hbi.1
      have es : sumTo (fun b => if ls.testBit (B b 0) then B b 4 else 0) (i + 1) = sumTo (fun b => if ls.testBit (B b 0) then B b 4 else 0) i + (if ls.testBit (B i 0) then B i 4 else 0) := rfl
      have ih2 := ih (i + 1) (by omega) (by omega)
      rw [es] at ih2
      by_cases d : ls.testBit (B i 0) = true
      · rw [if_pos d] at e1 ih2
        simp (disch := omega) only [ile_t, ile_f, ilt_t, ilt_f, ieq_t, ieq_f, gd_nI, gn_nI, gz_nI, b1_some, bd_some, lt1_eq, nI_add, nI_mul, nI_clamp, if_true, if_false, h.1, a1, e1, a5]
        exact ih2
      · rw [if_neg d] at e1 ih2
        simp (disch := omega) only [ile_t, ile_f, ilt_t, ilt_f, ieq_t, ieq_f, gd_nI, gn_nI, gz_nI, b1_some, bd_some, lt1_eq, nI_add, nI_mul, nI_clamp, if_true, if_false, h.1, a1, e1]
        exact ih2
theorem readsC_s (hI : BI nb B) (hl : ls < 16) (h : CB m nb B) : f_X4_readRows m (nI ls) = some (nI (rQ nb B ls 4)) :=
  readsC_L hI hl h FU 0 (Nat.zero_le _) (by rw [FU_eq]; have := hI.1; omega)
theorem openC_L (hQQ : QQ nq Q) (h : CQ m nq Q) : ∀ n i, i ≤ nq → nq < i + n → f_X4_openQuestions_L4 m n (nI (sumTo (fun q => 1 - Q q 4) i)) (nI i) = some (nI (opn nq Q)) := by
  have hn := hQQ.1
  intro n
  induction n with
  | zero => intro i h2 h3; omega
  | succ n ih =>
    intro i h2 h3
    rw [f_X4_openQuestions_L4.eq_2]
    by_cases c : i = nq
    · subst c
      simp (disch := omega) only [ile_t, ile_f, ilt_t, ilt_f, ieq_t, ieq_f, gd_nI, gn_nI, gz_nI, b1_some, bd_some, lt1_eq, nI_add, nI_mul, nI_clamp, if_true, if_false, h.1]
      rfl
    · have hqi := hQQ.2 i (by omega)
      obtain ⟨a1, a2, a3, a4, a5, -⟩ := h.2 i (by omega)
      have es : sumTo (fun q => 1 - Q q 4) (i + 1) = sumTo (fun q => 1 - Q q 4) i + (1 - Q i 4) := rfl
      have ih2 := ih (i + 1) (by omega) (by omega)
      rw [es] at ih2
      by_cases d : Q i 4 = 0
      · rw [d] at a5 ih2
        simp (disch := omega) only [ile_t, ile_f, ilt_t, ilt_f, ieq_t, ieq_f, gd_nI, gn_nI, gz_nI, b1_some, bd_some, lt1_eq, nI_add, nI_mul, nI_clamp, if_true, if_false, h.1, a5]
        exact ih2
      · have d1 : Q i 4 = 1 := by omega
        rw [d1] at a5 ih2
        simp (disch := omega) only [ile_t, ile_f, ilt_t, ilt_f, ieq_t, ieq_f, gd_nI, gn_nI, gz_nI, b1_some, bd_some, lt1_eq, nI_add, nI_mul, nI_clamp, if_true, if_false, h.1, a5]
        exact ih2
theorem openC_s (hQQ : QQ nq Q) (h : CQ m nq Q) : f_X4_openQuestions m = some (nI (opn nq Q)) :=
  openC_L hQQ h FU 0 (Nat.zero_le _) (by rw [FU_eq]; have := hQQ.1; omega)
theorem assumed_L (hI : BI nb B) (hb : b < nb) (h0 : how ≠ 0) (h1 : how ≠ 1) (h : CB m nb B) : ∀ n i, i ≤ nb → nb < i + n → f_X4_assumed_L27 m b (nI how) n (nI (sumTo (fun x => if B x 0 = B b 0 then B x 4 else 0) i)) (nI (sumTo (fun x => if B x 0 = B b 0 then sRd B x else 0) i)) (nI i) = some (nI (tk nb B b how)) := by
  have hn := hI.1
  have hbb := hI.2 b hb
  obtain ⟨c1, c2, c3, -⟩ := h.2 b hb
  intro n
  induction n with
  | zero => intro i h2 h3; omega
  | succ n ih =>
    intro i h2 h3
    rw [f_X4_assumed_L27.eq_2]
    by_cases c : i = nb
    · have hM : sumTo (fun x => if B x 0 = B b 0 then B x 4 else 0) nb = lM nb B (B b 0) := rfl
      have hS : sumTo (fun x => if B x 0 = B b 0 then sRd B x else 0) nb = lS nb B (B b 0) := rfl
      have hMl : lM nb B (B b 0) ≤ 128 := lM_le hI (Nat.le_refl _)
      have hSl : lS nb B (B b 0) ≤ 127872 := lS_le hI (Nat.le_refl _)
      rw [c, hM, hS]
      unfold tk
      rw [if_neg h0, if_neg h1]
      simp (disch := omega) only [ile_t, ile_f, ilt_t, ilt_f, ieq_t, ieq_f, gd_nI, gn_nI, gz_nI, b1_some, bd_some, lt1_eq, nI_add, nI_mul, nI_clamp, if_true, if_false, h.1, f_X4_assumed_L87, c2, c3]
      by_cases d : lM nb B (B b 0) = 0
      · rw [d, if_pos rfl]
        simp (disch := omega) only [ile_t, ile_f, ilt_t, ilt_f, ieq_t, ieq_f, gd_nI, gn_nI, gz_nI, b1_some, bd_some, lt1_eq, nI_add, nI_mul, nI_clamp, if_true, if_false, nI_div]
      · have hle : lS nb B (B b 0) / lM nb B (B b 0) ≤ lS nb B (B b 0) := Nat.div_le_self _ _
        rw [if_neg d]
        simp (disch := omega) only [ile_t, ile_f, ilt_t, ilt_f, ieq_t, ieq_f, gd_nI, gn_nI, gz_nI, b1_some, bd_some, lt1_eq, nI_add, nI_mul, nI_clamp, if_true, if_false, nI_div, mn_nI, mx_nI]
    · have hbi := hI.2 i (by omega)
      obtain ⟨a1, a2, a3, a4, a5, a6, -⟩ := h.2 i (by omega)
      have es : sumTo (fun x => if B x 0 = B b 0 then B x 4 else 0) (i + 1) = sumTo (fun x => if B x 0 = B b 0 then B x 4 else 0) i + (if B i 0 = B b 0 then B i 4 else 0) := rfl
      have es2 : sumTo (fun x => if B x 0 = B b 0 then sRd B x else 0) (i + 1) = sumTo (fun x => if B x 0 = B b 0 then sRd B x else 0) i + (if B i 0 = B b 0 then sRd B i else 0) := rfl
      have ih2 := ih (i + 1) (by omega) (by omega)
      rw [es, es2] at ih2
      by_cases d : B i 0 = B b 0
      · rw [if_pos d, if_pos d] at ih2
        simp (disch := omega) only [ile_t, ile_f, ilt_t, ilt_f, ieq_t, ieq_f, gd_nI, gn_nI, gz_nI, b1_some, bd_some, lt1_eq, nI_add, nI_mul, nI_clamp, if_true, if_false, h.1, a1, a5, a6, c1]
        exact ih2
      · rw [if_neg d, if_neg d] at ih2
        simp (disch := omega) only [ile_t, ile_f, ilt_t, ilt_f, ieq_t, ieq_f, gd_nI, gn_nI, gz_nI, b1_some, bd_some, lt1_eq, nI_add, nI_mul, nI_clamp, if_true, if_false, h.1, a1, c1]
        exact ih2
theorem assumed_s (hI : BI nb B) (hb : b < nb) (hh : how < 3) (h : CB m nb B) : f_X4_assumed m b (nI how) = some (nI (tk nb B b how)) := by
  obtain ⟨c1, c2, c3, -⟩ := h.2 b hb
  unfold f_X4_assumed
  by_cases h0 : how = 0
  · subst h0
    simp (disch := omega) only [ile_t, ile_f, ilt_t, ilt_f, ieq_t, ieq_f, gd_nI, gn_nI, gz_nI, b1_some, bd_some, lt1_eq, nI_add, nI_mul, nI_clamp, if_true, if_false, c2]
    rfl
  · by_cases h1 : how = 1
    · subst h1
      simp (disch := omega) only [ile_t, ile_f, ilt_t, ilt_f, ieq_t, ieq_f, gd_nI, gn_nI, gz_nI, b1_some, bd_some, lt1_eq, nI_add, nI_mul, nI_clamp, if_true, if_false, c3]
      rfl
    · have e := assumed_L hI hb h0 h1 h FU 0 (Nat.zero_le _) (by rw [FU_eq]; have := hI.1; omega)
      simp (disch := omega) only [ile_t, ile_f, ilt_t, ilt_f, ieq_t, ieq_f, gd_nI, gn_nI, gz_nI, b1_some, bd_some, lt1_eq, nI_add, nI_mul, nI_clamp, if_true, if_false]
      exact e
/-- an answer's last lines -/
theorem ansC_end {r : Nat} (hI : BI nb B) (hk : qr 0 ≤ 4) (q0 : m (19 + q) 0 = nI (qr 0)) (hr : rQ nb B (qr 1) 3 = r) : f_X4_answer_L110 m q (nI how) (nI r) (nI (cS nb B (qr 1) (qr 0) (qr 2) how nb)) (nI (cL nb B (qr 1) (qr 0) (qr 2) how nb)) (nI (cG nb B (qr 1) (qr 0) (qr 2) how nb)) = some (if r = 0 then -5 else nI (ans nb B qr how)) := by
  have hrl : rQ nb B (qr 1) 3 ≤ 128 := rQ_le hI (Or.inl rfl) (Nat.le_refl _)
  have hS := aS_le (ls := qr 1) (how := how) hI (Nat.le_refl nb)
  unfold f_X4_answer_L110
  by_cases c : r = 0
  · subst c
    simp (disch := omega) only [ile_t, ile_f, ilt_t, ilt_f, ieq_t, ieq_f, gd_nI, gn_nI, gz_nI, b1_some, bd_some, lt1_eq, nI_add, nI_mul, nI_clamp, if_true, if_false]
  · rw [if_neg c]
    unfold ans
    have hk : qr 0 = 0 ∨ qr 0 = 1 ∨ qr 0 = 2 ∨ qr 0 = 3 ∨ qr 0 = 4 := by omega
    rcases hk with hk | hk | hk | hk | hk
    · rw [hk] at q0 ⊢
      have e := cS_S (ls := qr 1) (lim := qr 2) (how := how) (kind := 0) hI (by decide) (by decide) (by decide)
      simp (disch := omega) only [ile_t, ile_f, ilt_t, ilt_f, ieq_t, ieq_f, gd_nI, gn_nI, gz_nI, b1_some, bd_some, lt1_eq, nI_add, nI_mul, nI_clamp, if_true, if_false, q0, e]
    · rw [hk] at q0 ⊢
      have e := cS_C (ls := qr 1) (lim := qr 2) (how := how) hI
      have t : ¬ (1 : Nat) = 0 := by decide
      simp (disch := omega) only [ile_t, ile_f, ilt_t, ilt_f, ieq_t, ieq_f, gd_nI, gn_nI, gz_nI, b1_some, bd_some, lt1_eq, nI_add, nI_mul, nI_clamp, if_true, if_false, q0, e, t]
    · rw [hk] at q0 ⊢
      have e := cL_ans (ls := qr 1) (lim := qr 2) (how := how) hI (by rw [hr]; exact c)
      have t : ¬ (2 : Nat) = 0 := by decide
      have t1 : ¬ (2 : Nat) = 1 := by decide
      simp (disch := omega) only [ile_t, ile_f, ilt_t, ilt_f, ieq_t, ieq_f, gd_nI, gn_nI, gz_nI, b1_some, bd_some, lt1_eq, nI_add, nI_mul, nI_clamp, if_true, if_false, q0, e, t, t1]
    · rw [hk] at q0 ⊢
      have e := cG_G (ls := qr 1) (lim := qr 2) (how := how) hI nb (Nat.le_refl _)
      have t : ¬ (3 : Nat) = 0 := by decide
      have t1 : ¬ (3 : Nat) = 1 := by decide
      have t2 : ¬ (3 : Nat) = 2 := by decide
      simp (disch := omega) only [ile_t, ile_f, ilt_t, ilt_f, ieq_t, ieq_f, gd_nI, gn_nI, gz_nI, b1_some, bd_some, lt1_eq, nI_add, nI_mul, nI_clamp, if_true, if_false, q0, e, t, t1, t2]
    · rw [hk] at q0 ⊢
      have e := cS_S (ls := qr 1) (lim := qr 2) (how := how) (kind := 4) hI (by decide) (by decide) (by decide)
      have t : ¬ (4 : Nat) = 0 := by decide
      have t1 : ¬ (4 : Nat) = 1 := by decide
      have t2 : ¬ (4 : Nat) = 2 := by decide
      have t3 : ¬ (4 : Nat) = 3 := by decide
      rw [hr]
      simp (disch := omega) only [ile_t, ile_f, ilt_t, ilt_f, ieq_t, ieq_f, gd_nI, gn_nI, gz_nI, b1_some, bd_some, lt1_eq, nI_add, nI_mul, nI_clamp, if_true, if_false, q0, e, t, t1, t2, t3, nI_div]
theorem ansC_L (hI : BI nb B) (hk : qr 0 ≤ 4) (hl : qr 1 ≤ 15) (h2l : qr 2 ≤ 999) (hh : how < 3) (h : CB m nb B) (q0 : m (19 + q) 0 = nI (qr 0)) (q1 : m (19 + q) 1 = nI (qr 1)) (q2 : m (19 + q) 2 = nI (qr 2)) : ∀ n i, i ≤ nb → nb < i + n → f_X4_answer_L16 m q (nI how) n (nI (sumTo (fun b => if (qr 1).testBit (B b 0) then B b 3 else 0) i)) (nI (cS nb B (qr 1) (qr 0) (qr 2) how i)) (nI (cL nb B (qr 1) (qr 0) (qr 2) how i)) (nI (cG nb B (qr 1) (qr 0) (qr 2) how i)) (nI i) = some (if rQ nb B (qr 1) 3 = 0 then -5 else nI (ans nb B qr how)) := by
  have hn := hI.1
  intro n
  induction n with
  | zero => intro i h2 h3; omega
  | succ n ih =>
    intro i h2 h3
    rw [f_X4_answer_L16.eq_2]
    by_cases c : i = nb
    · subst c
      simp (disch := omega) only [ile_t, ile_f, ilt_t, ilt_f, ieq_t, ieq_f, gd_nI, gn_nI, gz_nI, b1_some, bd_some, lt1_eq, nI_add, nI_mul, nI_clamp, if_true, if_false, h.1]
      exact ansC_end hI hk q0 rfl
    · have hbi := hI.2 i (by omega)
      obtain ⟨a1, a2, a3, a4, a5, -⟩ := h.2 i (by omega)
      have e1 := covers_s (ls := qr 1) (by omega) hbi.1
      have es : sumTo (fun b => if (qr 1).testBit (B b 0) then B b 3 else 0) (i + 1) = sumTo (fun b => if (qr 1).testBit (B b 0) then B b 3 else 0) i + (if (qr 1).testBit (B i 0) then B i 3 else 0) := rfl
      have es2 : cS nb B (qr 1) (qr 0) (qr 2) how (i + 1) = cS nb B (qr 1) (qr 0) (qr 2) how i + (if (qr 1).testBit (B i 0) then sh nb B (qr 0) (qr 2) i how else 0) := rfl
      have es3 : cL nb B (qr 1) (qr 0) (qr 2) how (i + 1) = if (qr 1).testBit (B i 0) then min (cL nb B (qr 1) (qr 0) (qr 2) how i) (sh nb B (qr 0) (qr 2) i how) else cL nb B (qr 1) (qr 0) (qr 2) how i := rfl
      have es4 : cG nb B (qr 1) (qr 0) (qr 2) how (i + 1) = if (qr 1).testBit (B i 0) then max (cG nb B (qr 1) (qr 0) (qr 2) how i) (sh nb B (qr 0) (qr 2) i how) else cG nb B (qr 1) (qr 0) (qr 2) how i := rfl
      have ih2 := ih (i + 1) (by omega) (by omega)
      rw [es, es2, es3, es4] at ih2
      by_cases d : (qr 1).testBit (B i 0) = true
      · simp only [if_pos d] at e1 ih2
        have e2 := assumed_s (b := i) hI (by omega) hh h
        have e3 := share_s (b := i) (kind := qr 0) (lim := qr 2) (how := how) hI (by omega) hk h2l (h.2 i (by omega))
        have l1 := cL_le (nb := nb) (B := B) (ls := qr 1) (kind := qr 0) (lim := qr 2) (how := how) i
        have l2 := cG_le (ls := qr 1) (kind := qr 0) (lim := qr 2) (how := how) hI i (by omega)
        have l3 := sh_le (kind := qr 0) (lim := qr 2) (how := how) hI (b := i) (by omega)
        simp (disch := omega) only [ile_t, ile_f, ilt_t, ilt_f, ieq_t, ieq_f, gd_nI, gn_nI, gz_nI, b1_some, bd_some, lt1_eq, nI_add, nI_mul, nI_clamp, if_true, if_false, h.1, a1, a4, q0, q1, q2, e1, e2, e3, mn_nI, mx_nI]
        exact ih2
      · simp only [if_neg d] at e1 ih2
        simp (disch := omega) only [ile_t, ile_f, ilt_t, ilt_f, ieq_t, ieq_f, gd_nI, gn_nI, gz_nI, b1_some, bd_some, lt1_eq, nI_add, nI_mul, nI_clamp, if_true, if_false, h.1, a1, q1, e1]
        exact ih2
theorem ansC_s (hI : BI nb B) (hk : qr 0 ≤ 4) (hl : qr 1 ≤ 15) (h2l : qr 2 ≤ 999) (hh : how < 3) (h : CB m nb B) (q0 : m (19 + q) 0 = nI (qr 0)) (q1 : m (19 + q) 1 = nI (qr 1)) (q2 : m (19 + q) 2 = nI (qr 2)) : f_X4_answer m q (nI how) = some (if rQ nb B (qr 1) 3 = 0 then -5 else nI (ans nb B qr how)) :=
  ansC_L hI hk hl h2l hh h q0 q1 q2 FU 0 (Nat.zero_le _) (by rw [FU_eq]; have := hI.1; omega)
/-- what settling keeps of the class's cells -/
def SW (m : SM) (nb : Nat) (B : BK) (Q : BK) (i : Nat) : Prop := ∀ q, q < i → stB nb B (Q q) = false → Q q 4 = 0 → rQ nb B (Q q 1) 3 ≠ 0 → m (19 + q) 5 = nI (ans nb B (Q q) 0) ∧ m (19 + q) 6 = nI (ans nb B (Q q) 1)
theorem stl_o {i : Nat} (hq : i ≤ q) : stl nb B i Q q = Q q := by
  unfold stl
  rw [if_neg (by omega)]
theorem SW.s {i : Nat} (h : SW m nb B Q i) (h2 : stB nb B (Q i) = false → Q i 4 = 0 → rQ nb B (Q i 1) 3 ≠ 0 → m (19 + i) 5 = nI (ans nb B (Q i) 0) ∧ m (19 + i) 6 = nI (ans nb B (Q i) 1)) : SW m nb B Q (i + 1) := by
  intro q hq
  by_cases c : q = i
  · subst c; exact h2
  · exact h q (by omega)
theorem SW.cp {m m' : SM} {i : Nat} (h : SW m nb B Q i) (h2 : ∀ q, q < i → m' (19 + q) = m (19 + q)) : SW m' nb B Q i := by
  intro q hq
  rw [h2 q hq]
  exact h q hq
theorem SW.w (h : SW m nb B Q nq) : CW m nb B nq (stl nb B nq Q) := by
  intro q hq h4 hr
  have hs : stB nb B (Q q) = false := by
    cases e : stB nb B (Q q) with
    | false => rfl
    | true =>
      unfold stl at h4
      rw [if_pos ⟨hq, e⟩] at h4
      exact absurd h4 (by show ¬ (1 : Nat) = 0; decide)
  have e : stl nb B nq Q q = Q q := by
    unfold stl
    rw [if_neg (fun z => by rw [hs] at z; exact absurd z.2 (by decide))]
  rw [e] at h4 hr ⊢
  exact h q hq hs h4 hr
theorem CQ.put {m : SM} {q : Nat} {R : BK} {m' : SM} (h : CQ m nq R) (h0 : m' 0 3 = m 0 3) (h1 : ∀ x, x < nq → x ≠ q → m' (19 + x) = m (19 + x)) {f : Nat → Nat} (h2 : CQr m' q f) : CQ m' nq (setR R q f) := by
  refine ⟨by rw [h0]; exact h.1, fun x hx => ?_⟩
  unfold setR
  by_cases c : x = q
  · subst c
    rw [if_pos rfl]
    exact h2
  · rw [if_neg c]
    exact (h.2 x hx).cp (h1 x hx c)
theorem setR_self {R : BK} {q : Nat} : setR R q (R q) = R := by
  funext x
  unfold setR
  by_cases c : x = q
  · rw [if_pos c, c]
  · rw [if_neg c]
theorem stl_self {i : Nat} : setR (stl nb B i Q) i (Q i) = stl nb B i Q := by
  have e : stl nb B i Q i = Q i := stl_i
  rw [← e]
  exact setR_self
theorem settleC_L (hI : BI nb B) (hQQ : QQ nq Q) : ∀ n i m, i ≤ nq → nq < i + n → CB m nb B → CQ m nq (stl nb B i Q) → SW m nb B Q i → ∃ m', f_X4_settle_L2 n m (nI i) = some (0, m') ∧ (∀ c, c < 19 → m' c = m c) ∧ CQ m' nq (stl nb B nq Q) ∧ SW m' nb B Q nq := by
  have hq6 := hQQ.1
  intro n
  induction n with
  | zero => intro i m h2 h3; omega
  | succ n ih =>
    intro i m h2 h3 hB hQ hW
    rw [f_X4_settle_L2.eq_2]
    by_cases c : i = nq
    · subst c
      simp (disch := omega) only [ile_t, ile_f, ilt_t, ilt_f, ieq_t, ieq_f, gd_nI, gn_nI, gz_nI, b1_some, bd_some, lt1_eq, nI_add, nI_mul, nI_clamp, if_true, if_false, hQ.1]
      exact ⟨m, rfl, fun _ _ => rfl, hQ, hW⟩
    · have hqi := hQQ.2 i (by omega)
      have hr := hQ.2 i (by omega)
      rw [stl_i] at hr
      obtain ⟨a0, a1, a2, a3, a4, a5⟩ := hr
      by_cases d : Q i 4 = 0
      · have hrl : rQ nb B (Q i 1) 3 ≤ 128 := rQ_le hI (Or.inl rfl) (Nat.le_refl _)
        have e2 := rowsC_s (ls := Q i 1) hI (by omega) hB
        rw [d] at a4
        by_cases f : rQ nb B (Q i 1) 3 = 0
        · have hs : stB nb B (Q i) = false := by unfold stB; simp [f]
          rw [f] at e2
          simp (disch := omega) only [ile_t, ile_f, ilt_t, ilt_f, ieq_t, ieq_f, gd_nI, gn_nI, gz_nI, b1_some, bd_some, lt1_eq, nI_add, nI_mul, nI_clamp, if_true, if_false, hQ.1, a4, a1, e2]
          exact ih (i + 1) m (by omega) (by omega) hB (by rw [stl_f hs]; exact hQ) (hW.s (fun _ _ z => absurd f z))
        · simp (disch := omega) only [ile_t, ile_f, ilt_t, ilt_f, ieq_t, ieq_f, gd_nI, gn_nI, gz_nI, b1_some, bd_some, lt1_eq, nI_add, nI_mul, nI_clamp, if_true, if_false, hQ.1, a4, a1, e2]
          have g1 := ansC_s (m := m) (q := i) (qr := Q i) (how := 0) hI hqi.1 (by omega) hqi.2.2.2.1 (by decide) hB a0 a1 a2
          rw [if_neg f] at g1
          simp only [g1, b1_some]
          generalize hm1 : up m (19 + i) 5 (nI (ans nb B (Q i) 0)) = m1
          have f1 : ∀ c, c ≠ 19 + i → m1 c = m c := fun c hc => by rw [← hm1]; exact up_c hc
          have k1 : ∀ k, k ≠ 5 → m1 (19 + i) k = m (19 + i) k := fun k hk => by rw [← hm1]; exact up_o (Or.inr hk)
          have hB1 : CB m1 nb B := hB.fr hI.1 (fun c hc => f1 c (by omega))
          have g2 := ansC_s (m := m1) (q := i) (qr := Q i) (how := 1) hI hqi.1 (by omega) hqi.2.2.2.1 (by decide) hB1 (by rw [k1 _ (by decide)]; exact a0) (by rw [k1 _ (by decide)]; exact a1) (by rw [k1 _ (by decide)]; exact a2)
          rw [if_neg f] at g2
          simp only [g2, b1_some]
          generalize hm2 : up m1 (19 + i) 6 (nI (ans nb B (Q i) 1)) = m2
          have f2 : ∀ c, c ≠ 19 + i → m2 c = m c := fun c hc => by rw [← hm2, up_c hc]; exact f1 c hc
          have k2 : ∀ k, k ≠ 5 → k ≠ 6 → m2 (19 + i) k = m (19 + i) k := fun k hk hk6 => by rw [← hm2, up_o (Or.inr hk6)]; exact k1 k hk
          have k25 : m2 (19 + i) 5 = nI (ans nb B (Q i) 0) := by rw [← hm2, up_o (Or.inr (by decide)), ← hm1, up_same]
          have k26 : m2 (19 + i) 6 = nI (ans nb B (Q i) 1) := by rw [← hm2, up_same]
          have k23 : m2 (19 + i) 3 = nI (Q i 3) := by rw [k2 _ (by decide) (by decide)]; exact a3
          have hB2 : CB m2 nb B := hB.fr hI.1 (fun c hc => f2 c (by omega))
          have r2 : CQr m2 i (Q i) := ⟨by rw [k2 _ (by decide) (by decide)]; exact a0, by rw [k2 _ (by decide) (by decide)]; exact a1, by rw [k2 _ (by decide) (by decide)]; exact a2, k23, by rw [k2 _ (by decide) (by decide), d]; exact a4, fun z => by rw [d] at z; exact absurd z (by decide)⟩
          have hQ2 : CQ m2 nq (stl nb B i Q) := by
            have := hQ.put (m' := m2) (q := i) (f := Q i) (by rw [f2 0 (by omega)]) (fun x hx hxi => f2 _ (by omega)) r2
            rw [stl_self] at this
            exact this
          have hW2 : SW m2 nb B Q i := hW.cp (fun x hx => f2 _ (by omega))
          simp only [lt1_eq, k25, k26, k23]
          by_cases w : nI (Q i 3) < nI (ans nb B (Q i) 1) - nI (ans nb B (Q i) 0)
          · have hs : stB nb B (Q i) = false := by
              unfold stB
              have : ¬ nI (ans nb B (Q i) 1) - nI (ans nb B (Q i) 0) ≤ nI (Q i 3) := by
                rw [Int32.le_iff_toInt_le]
                rw [Int32.lt_iff_toInt_lt] at w
                omega
              simp [this]
            rw [if_pos w]
            obtain ⟨m', p1, p2, p3⟩ := ih (i + 1) m2 (by omega) (by omega) hB2 (by rw [stl_f hs]; exact hQ2) (hW2.s (fun _ _ _ => ⟨k25, k26⟩))
            exact ⟨m', p1, fun c hc => by rw [p2 c hc, f2 c (by omega)], p3⟩
          · have hs : stB nb B (Q i) = true := by
              unfold stB
              have : nI (ans nb B (Q i) 1) - nI (ans nb B (Q i) 0) ≤ nI (Q i 3) := by
                rw [Int32.le_iff_toInt_le]
                rw [Int32.lt_iff_toInt_lt] at w
                omega
              simp [this, d, f]
            rw [if_neg w]
            have g3 := ansC_s (m := m2) (q := i) (qr := Q i) (how := 2) hI hqi.1 (by omega) hqi.2.2.2.1 (by decide) hB2 r2.1 r2.2.1 r2.2.2.1
            rw [if_neg f] at g3
            unfold f_X3_finish
            simp only [g3, b1_some, lt1_eq, bd_some, nI_add]
            generalize hm3 : up (up m2 (19 + i) 7 (nI (ans nb B (Q i) 2))) (19 + i) 4 (nI 1) = m3
            have f3 : ∀ c, c ≠ 19 + i → m3 c = m c := fun c hc => by rw [← hm3, up_c hc, up_c hc]; exact f2 c hc
            have k3 : ∀ k, k ≠ 4 → k ≠ 7 → m3 (19 + i) k = m2 (19 + i) k := fun k hk hk6 => by rw [← hm3, up_o (Or.inr hk), up_o (Or.inr hk6)]
            have r3 : CQr m3 i (setq nb B (Q i)) := ⟨by rw [k3 _ (by decide) (by decide)]; exact r2.1, by rw [k3 _ (by decide) (by decide)]; exact r2.2.1, by rw [k3 _ (by decide) (by decide)]; exact r2.2.2.1, by rw [k3 _ (by decide) (by decide)]; exact r2.2.2.2.1, by rw [← hm3, up_same]; rfl, fun _ => ⟨by rw [k3 _ (by decide) (by decide)]; exact k25, by rw [k3 _ (by decide) (by decide)]; exact k26, by rw [← hm3, up_o (Or.inr (by decide)), up_same]; rfl⟩⟩
            have hQ3 : CQ m3 nq (stl nb B (i + 1) Q) := by
              rw [stl_t hs]
              exact hQ.put (m' := m3) (q := i) (by rw [f3 0 (by omega)]) (fun x hx hxi => f3 _ (by omega)) r3
            obtain ⟨m', p1, p2, p3⟩ := ih (i + 1) m3 (by omega) (by omega) (hB.fr hI.1 (fun c hc => f3 c (by omega))) hQ3 ((hW.cp (fun x hx => f3 _ (by omega))).s (fun z => by rw [hs] at z; exact absurd z (by decide)))
            exact ⟨m', p1, fun c hc => by rw [p2 c hc, f3 c (by omega)], p3⟩
      · have d1 : Q i 4 = 1 := by omega
        have hs : stB nb B (Q i) = false := by unfold stB; simp [d]
        rw [d1] at a4
        simp (disch := omega) only [ile_t, ile_f, ilt_t, ilt_f, ieq_t, ieq_f, gd_nI, gn_nI, gz_nI, b1_some, bd_some, lt1_eq, nI_add, nI_mul, nI_clamp, if_true, if_false, hQ.1, a4]
        exact ih (i + 1) m (by omega) (by omega) hB (by rw [stl_f hs]; exact hQ) (hW.s (fun _ z => absurd z d))
theorem settleC_s (hI : BI nb B) (hQQ : QQ nq Q) (hB : CB m nb B) (hQ : CQ m nq Q) : ∃ m', f_X4_settle m = some (0, m') ∧ (∀ c, c < 19 → m' c = m c) ∧ CQ m' nq (stl nb B nq Q) ∧ CW m' nb B nq (stl nb B nq Q) := by
  obtain ⟨m', p1, p2, p3, p4⟩ := settleC_L hI hQQ FU 0 m (Nat.zero_le _) (by rw [FU_eq]; have := hQQ.1; omega) hB (by rw [stl_0]; exact hQ) (fun q hq => by omega)
  exact ⟨m', p1, p2, p3, p4.w⟩
end CBB
