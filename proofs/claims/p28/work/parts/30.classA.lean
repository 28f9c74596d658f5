/-! THE CLASS: a state's cells hold a state; blocks -/
def CBr (m : SM) (B : BK) (b : Nat) : Prop := m (3 + b) 1 = nI (B b 0) ∧ m (3 + b) 2 = nI (B b 1) ∧ m (3 + b) 3 = nI (B b 2) ∧ m (3 + b) 4 = nI (B b 3) ∧ m (3 + b) 5 = nI (B b 4) ∧ m (3 + b) 6 = nI (sRd B b) ∧ m (3 + b) 7 = nI (mRd B b) ∧ m (3 + b) 8 = nI (gRd B b) ∧ ∀ r, r < B b 3 → m (11 + b) r = nI (B b (5 + r))
def CB (m : SM) (nb : Nat) (B : BK) : Prop := m 0 2 = nI nb ∧ ∀ b, b < nb → CBr m B b
def CQr (m : SM) (q : Nat) (qr : Nat → Nat) : Prop := m (19 + q) 0 = nI (qr 0) ∧ m (19 + q) 1 = nI (qr 1) ∧ m (19 + q) 2 = nI (qr 2) ∧ m (19 + q) 3 = nI (qr 3) ∧ m (19 + q) 4 = nI (qr 4) ∧ (qr 4 = 1 → m (19 + q) 5 = nI (qr 5) ∧ m (19 + q) 6 = nI (qr 6) ∧ m (19 + q) 7 = nI (qr 7))
def CQ (m : SM) (nq : Nat) (Q : BK) : Prop := m 0 3 = nI nq ∧ ∀ q, q < nq → CQr m q (Q q)
def CH (m : SM) (pl tu : Nat) : Prop := m 0 4 = nI pl ∧ m 0 5 = nI tu
/-- the bounds of the open questions are up to date -/
def CW (m : SM) (nb : Nat) (B : BK) (nq : Nat) (Q : BK) : Prop := ∀ q, q < nq → Q q 4 = 0 → rQ nb B (Q q 1) 3 ≠ 0 → m (19 + q) 5 = nI (ans nb B (Q q) 0) ∧ m (19 + q) 6 = nI (ans nb B (Q q) 1)
theorem CBr.cp {m m' : SM} {B : BK} {b : Nat} (h : CBr m B b) (h1 : m' (3 + b) = m (3 + b)) (h2 : m' (11 + b) = m (11 + b)) : CBr m' B b := by
  unfold CBr at h ⊢
  rw [h1, h2]
  exact h
theorem CBr.bk {m : SM} {B B2 : BK} {b : Nat} (h : CBr m B b) (hB : ∀ k, B2 b k = B b k) : CBr m B2 b := by
  have e : B2 b = B b := funext hB
  unfold CBr sRd mRd gRd at h ⊢
  rw [e]
  exact h
theorem CQr.cp {m m' : SM} {q : Nat} {qr : Nat → Nat} (h : CQr m q qr) (h1 : m' (19 + q) = m (19 + q)) : CQr m' q qr := by
  unfold CQr at h ⊢
  rw [h1]
  exact h
section CA
variable {m : SM} {nb nq pl tu b q k how ls lim n : Nat} {B Q : BK}
theorem upB_at {v : Nat} : upB B b k v b k = v := by unfold upB; rw [if_pos ⟨rfl, rfl⟩]
theorem upB_o {v b' k' : Nat} (h : b' ≠ b ∨ k' ≠ k) : upB B b k v b' k' = B b' k' := by
  unfold upB
  rw [if_neg (by omega)]
theorem isFT (ha : b < 2 ^ 31) (hb : q < 2 ^ 31) (hc : k < 2 ^ 31) : f_X5_isFromTo (nI b) (nI q) (nI k) = some (if q ≤ b ∧ b ≤ k then nI 1 else nI 0) := by
  unfold f_X5_isFromTo
  by_cases c : q ≤ b
  · by_cases d : b ≤ k
    · simp (disch := omega) only [ile_t, ile_f, ilt_t, ilt_f, ieq_t, ieq_f, gd_nI, gn_nI, gz_nI, b1_some, bd_some, lt1_eq, nI_add, nI_mul, nI_clamp, if_true, if_false, c, d, and_self]
    · simp (disch := omega) only [ile_t, ile_f, ilt_t, ilt_f, ieq_t, ieq_f, gd_nI, gn_nI, gz_nI, b1_some, bd_some, lt1_eq, nI_add, nI_mul, nI_clamp, if_true, if_false, c, d, and_false]
  · simp (disch := omega) only [ile_t, ile_f, ilt_t, ilt_f, ieq_t, ieq_f, gd_nI, gn_nI, gz_nI, b1_some, bd_some, lt1_eq, nI_add, nI_mul, nI_clamp, if_true, if_false, c, false_and]
theorem covers_s {l : Nat} (h1 : ls < 16) (h2 : l < 4) : f_X5_covers (nI ls) (nI l) = some (if ls.testBit l then nI 1 else nI 0) := by
  unfold f_X5_covers
  rw [cov_nI _ h1 _ h2]
  by_cases c : ls.testBit l = true
  · rw [if_pos c]
    simp (disch := omega) only [ile_t, ile_f, ilt_t, ilt_f, ieq_t, ieq_f, gd_nI, gn_nI, gz_nI, b1_some, bd_some, lt1_eq, nI_add, nI_mul, nI_clamp, if_true, if_false]
  · rw [if_neg c]
    simp (disch := omega) only [ile_t, ile_f, ilt_t, ilt_f, ieq_t, ieq_f, gd_nI, gn_nI, gz_nI, b1_some, bd_some, lt1_eq, nI_add, nI_mul, nI_clamp, if_true, if_false]
theorem unreadC_s (h : CBr m B b) (h4 : B b 4 ≤ B b 3) : f_X0_unread m b = some (nI (B b 3 - B b 4)) := by
  unfold f_X0_unread
  rw [h.2.2.2.1, h.2.2.2.2.1, nI_sub h4]
/-- one row of a block is read -/
theorem readRow_s (h : CBr m B b) (h4 : B b 4 < B b 3) (h16 : B b 3 ≤ 16) (hv : ∀ r, r < B b 3 → B b (5 + r) ≤ 999) : ∃ m', f_X0_readRow m b = some (nI (B b (5 + B b 4)), m') ∧ (∀ c, c ≠ 3 + b → m' c = m c) ∧ CBr m' (rdB B b) b := by
  obtain ⟨a1, a2, a3, a4, a5, a6, a7, a8, a9⟩ := h
  have hv4 := hv _ h4
  have hm : mRd B b ≤ 999 := mRd_le
  have hg : gRd B b ≤ 999 := maxB_bound (by omega) _ (fun i hi => hv i (by omega))
  have e9 := a9 (B b 4) h4
  unfold f_X0_readRow
  simp (disch := omega) only [ile_t, ile_f, ilt_t, ilt_f, ieq_t, ieq_f, gd_nI, gn_nI, gz_nI, b1_some, bd_some, lt1_eq, nI_add, nI_mul, nI_clamp, if_true, if_false, a4, a5, e9]
  have r6 : up m (3 + b) 5 (nI (B b 4 + 1)) (3 + b) 6 = nI (sRd B b) := by rw [up_o (Or.inr (by decide))]; exact a6
  simp only [r6, nI_add]
  have r7 : up (up m (3 + b) 5 (nI (B b 4 + 1))) (3 + b) 6 (nI (sRd B b + B b (5 + B b 4))) (3 + b) 7 = nI (mRd B b) := by rw [up_o (Or.inr (by decide)), up_o (Or.inr (by decide))]; exact a7
  rw [r7, mn_nI (by omega) (by omega)]
  have r8 : up (up (up m (3 + b) 5 (nI (B b 4 + 1))) (3 + b) 6 (nI (sRd B b + B b (5 + B b 4)))) (3 + b) 7 (nI (min (mRd B b) (B b (5 + B b 4)))) (3 + b) 8 = nI (gRd B b) := by rw [up_o (Or.inr (by decide)), up_o (Or.inr (by decide)), up_o (Or.inr (by decide))]; exact a8
  rw [r8, mx_nI (by omega) (by omega)]
  refine ⟨_, rfl, fun c hc => by rw [up_c hc, up_c hc, up_c hc, up_c hc], ?_⟩
  have n11 : 11 + b ≠ 3 + b := by omega
  have v5 : ∀ r, rdB B b b (5 + r) = B b (5 + r) := fun r => upB_o (Or.inr (by omega))
  have v4 : rdB B b b 4 = B b 4 + 1 := upB_at
  refine ⟨?_, ?_, ?_, ?_, ?_, ?_, ?_, ?_, fun r hr => ?_⟩
  · rw [up_o (Or.inr (by decide)), up_o (Or.inr (by decide)), up_o (Or.inr (by decide)), up_o (Or.inr (by decide)), a1, show rdB B b b 0 = B b 0 from upB_o (Or.inr (by decide))]
  · rw [up_o (Or.inr (by decide)), up_o (Or.inr (by decide)), up_o (Or.inr (by decide)), up_o (Or.inr (by decide)), a2, show rdB B b b 1 = B b 1 from upB_o (Or.inr (by decide))]
  · rw [up_o (Or.inr (by decide)), up_o (Or.inr (by decide)), up_o (Or.inr (by decide)), up_o (Or.inr (by decide)), a3, show rdB B b b 2 = B b 2 from upB_o (Or.inr (by decide))]
  · rw [up_o (Or.inr (by decide)), up_o (Or.inr (by decide)), up_o (Or.inr (by decide)), up_o (Or.inr (by decide)), a4, show rdB B b b 3 = B b 3 from upB_o (Or.inr (by decide))]
  · rw [up_o (Or.inr (by decide)), up_o (Or.inr (by decide)), up_o (Or.inr (by decide)), up_same, v4]
  · rw [up_o (Or.inr (by decide)), up_o (Or.inr (by decide)), up_same]
    unfold sRd
    rw [v4]
    congr 1
    show _ = sumTo _ (B b 4) + rdB B b b (5 + B b 4)
    rw [v5]
    congr 1
    exact sumTo_congr _ (fun i hi => (v5 i).symm)
  · rw [up_o (Or.inr (by decide)), up_same]
    unfold mRd
    rw [v4]
    congr 1
    show _ = min (minB 999 _ (B b 4)) (rdB B b b (5 + B b 4))
    rw [v5]
    congr 1
    exact minB_congr _ (fun i hi => (v5 i).symm)
  · rw [up_same]
    unfold gRd
    rw [v4]
    congr 1
    show _ = max (maxB 0 _ (B b 4)) (rdB B b b (5 + B b 4))
    rw [v5]
    congr 1
    exact maxB_congr _ (fun i hi => (v5 i).symm)
  · rw [up_o (Or.inl n11), up_o (Or.inl n11), up_o (Or.inl n11), up_o (Or.inl n11), v5]
    have hr : r < B b 3 := by
      have e : rdB B b b 3 = B b 3 := upB_o (Or.inr (by decide))
      omega
    exact a9 r hr
/-- the first h rows are read anew -/
theorem readFirst_L {h : Nat} (hh : h ≤ B b 3) (h16 : B b 3 ≤ 16) (hv : ∀ r, r < B b 3 → B b (5 + r) ≤ 999) : ∀ n i m, i ≤ h → h < i + n → CBr m (upB B b 4 i) b → ∃ m', f_X0_readFirst_L24 b (nI h) n m (nI i) = some (0, m') ∧ (∀ c, c ≠ 3 + b → m' c = m c) ∧ CBr m' (upB B b 4 h) b := by
  intro n
  induction n with
  | zero => intro i m h2 h3; omega
  | succ n ih =>
    intro i m h2 h3 hC
    rw [f_X0_readFirst_L24.eq_2]
    by_cases c : i = h
    · subst c
      simp (disch := omega) only [ile_t, ile_f, ilt_t, ilt_f, ieq_t, ieq_f, gd_nI, gn_nI, gz_nI, b1_some, bd_some, lt1_eq, nI_add, nI_mul, nI_clamp, if_true, if_false]
      exact ⟨m, rfl, fun _ _ => rfl, hC⟩
    · have e4 : upB B b 4 i b 4 = i := upB_at
      have e3 : upB B b 4 i b 3 = B b 3 := upB_o (Or.inr (by decide))
      obtain ⟨m1, g1, g2, g3⟩ := readRow_s hC (by rw [e4, e3]; omega) (by rw [e3]; exact h16) (fun r hr => by
        rw [upB_o (Or.inr (by omega))]
        exact hv r (by rw [e3] at hr; exact hr))
      have g3 : CBr m1 (upB B b 4 (i + 1)) b := g3.bk (fun k => by
        unfold rdB
        rw [e4]
        by_cases d : k = 4
        · subst d
          rw [upB_at, upB_at]
        · rw [upB_o (Or.inr d), upB_o (Or.inr d), upB_o (Or.inr d)])
      obtain ⟨m', p1, p2, p3⟩ := ih (i + 1) m1 (by omega) (by omega) g3
      simp (disch := omega) only [ile_t, ile_f, ilt_t, ilt_f, ieq_t, ieq_f, gd_nI, gn_nI, gz_nI, b1_some, bd_some, lt1_eq, nI_add, nI_mul, nI_clamp, if_true, if_false, g1]
      exact ⟨m', p1, fun c hc => by rw [p2 c hc, g2 c hc], p3⟩
theorem readFirst_s {h : Nat} (hh : h ≤ B b 3) (h16 : B b 3 ≤ 16) (hv : ∀ r, r < B b 3 → B b (5 + r) ≤ 999) (a1 : m (3 + b) 1 = nI (B b 0)) (a2 : m (3 + b) 2 = nI (B b 1)) (a3 : m (3 + b) 3 = nI (B b 2)) (a4 : m (3 + b) 4 = nI (B b 3)) (a9 : ∀ r, r < B b 3 → m (11 + b) r = nI (B b (5 + r))) : ∃ m', f_X0_readFirst m b (nI h) = some (0, m') ∧ (∀ c, c ≠ 3 + b → m' c = m c) ∧ CBr m' (upB B b 4 h) b := by
  unfold f_X0_readFirst
  simp only [lt1_eq]
  generalize hm1 : up (up (up (up m (3 + b) 5 (nI 0)) (3 + b) 6 (nI 0)) (3 + b) 7 (nI 999)) (3 + b) 8 (nI 0) = m1
  have n11 : 11 + b ≠ 3 + b := by omega
  have h0 : upB B b 4 0 b 4 = 0 := upB_at
  have hC : CBr m1 (upB B b 4 0) b := by
    rw [← hm1]
    refine ⟨?_, ?_, ?_, ?_, ?_, ?_, ?_, ?_, fun r hr => ?_⟩
    · rw [up_o (Or.inr (by decide)), up_o (Or.inr (by decide)), up_o (Or.inr (by decide)), up_o (Or.inr (by decide)), a1, upB_o (Or.inr (by decide))]
    · rw [up_o (Or.inr (by decide)), up_o (Or.inr (by decide)), up_o (Or.inr (by decide)), up_o (Or.inr (by decide)), a2, upB_o (Or.inr (by decide))]
    · rw [up_o (Or.inr (by decide)), up_o (Or.inr (by decide)), up_o (Or.inr (by decide)), up_o (Or.inr (by decide)), a3, upB_o (Or.inr (by decide))]
    · rw [up_o (Or.inr (by decide)), up_o (Or.inr (by decide)), up_o (Or.inr (by decide)), up_o (Or.inr (by decide)), a4, upB_o (Or.inr (by decide))]
    · rw [up_o (Or.inr (by decide)), up_o (Or.inr (by decide)), up_o (Or.inr (by decide)), up_same, h0]
    · rw [up_o (Or.inr (by decide)), up_o (Or.inr (by decide)), up_same]
      unfold sRd
      rw [h0]
      rfl
    · rw [up_o (Or.inr (by decide)), up_same]
      unfold mRd
      rw [h0]
      rfl
    · rw [up_same]
      unfold gRd
      rw [h0]
      rfl
    · rw [upB_o (Or.inr (by decide))] at hr
      rw [up_o (Or.inl n11), up_o (Or.inl n11), up_o (Or.inl n11), up_o (Or.inl n11), upB_o (Or.inr (by omega))]
      exact a9 r hr
  obtain ⟨m', p1, p2, p3⟩ := readFirst_L hh h16 hv FU 0 m1 (Nat.zero_le _) (by rw [FU_eq]; omega) hC
  exact ⟨m', p1, fun c hc => by rw [p2 c hc, ← hm1, up_c hc, up_c hc, up_c hc, up_c hc], p3⟩
theorem limit_L (h16 : B b 3 ≤ 16) (hv : ∀ r, r < B b 3 → B b (5 + r) ≤ 999) (h4 : B b 4 ≤ B b 3) (hl : lim ≤ 999) (h : CBr m B b) : ∀ n i, i ≤ B b 4 → B b 4 < i + n → f_X0_readFromLimit_L4 m b (nI lim) n (nI (sumTo (fun r => if lim ≤ B b (5 + r) then 1 else 0) i)) (nI i) = some (nI (cRd B b lim)) := by
  intro n
  induction n with
  | zero => intro i h2 h3; omega
  | succ n ih =>
    intro i h2 h3
    rw [f_X0_readFromLimit_L4.eq_2]
    by_cases c : i = B b 4
    · rw [c]
      simp (disch := omega) only [ile_t, ile_f, ilt_t, ilt_f, ieq_t, ieq_f, gd_nI, gn_nI, gz_nI, b1_some, bd_some, lt1_eq, nI_add, nI_mul, nI_clamp, if_true, if_false, h.2.2.2.2.1]
      rfl
    · have e := h.2.2.2.2.2.2.2.2 i (by omega)
      have h2' := hv i (by omega)
      have ih2 := ih (i + 1) (by omega) (by omega)
      have es : sumTo (fun r => if lim ≤ B b (5 + r) then 1 else 0) (i + 1) = sumTo (fun r => if lim ≤ B b (5 + r) then 1 else 0) i + (if lim ≤ B b (5 + i) then 1 else 0) := rfl
      rw [es] at ih2
      by_cases d : lim ≤ B b (5 + i)
      · rw [if_pos d] at ih2
        simp (disch := omega) only [ile_t, ile_f, ilt_t, ilt_f, ieq_t, ieq_f, gd_nI, gn_nI, gz_nI, b1_some, bd_some, lt1_eq, nI_add, nI_mul, nI_clamp, if_true, if_false, h.2.2.2.2.1, e]
        exact ih2
      · rw [if_neg d] at ih2
        simp (disch := omega) only [ile_t, ile_f, ilt_t, ilt_f, ieq_t, ieq_f, gd_nI, gn_nI, gz_nI, b1_some, bd_some, lt1_eq, nI_add, nI_mul, nI_clamp, if_true, if_false, h.2.2.2.2.1, e]
        exact ih2
theorem share_s {kind : Nat} (hI : BI nb B) (hb : b < nb) (hk : kind ≤ 4) (hl : lim ≤ 999) (h : CBr m B b) : f_X0_share m b (nI kind) (nI lim) (nI (tk nb B b how)) = some (nI (sh nb B kind lim b how)) := by
  have hbi := hI.2 b hb
  have hv : ∀ r, r < B b 3 → B b (5 + r) ≤ 999 := fun r hr => by have := hbi.2.2.2.2.2.2 r hr; omega
  have e1 := unreadC_s h hbi.2.2.2.2.2.1
  have e2 : f_X0_readFromLimit m b (nI lim) = some (nI (cRd B b lim)) := limit_L hbi.2.2.2.2.1 hv hbi.2.2.2.2.2.1 hl h FU 0 (Nat.zero_le _) (by rw [FU_eq]; omega)
  have ht := tk_le (how := how) hI hb
  have hm := mRd_le (B := B) (b := b)
  have hg := gRd_le hI hb
  obtain ⟨a1, a2, a3, a4, a5, a6, a7, a8, a9⟩ := h
  unfold f_X0_share sh
  rw [e1, b1_some]
  by_cases c1 : kind = 1
  · subst c1
    by_cases d : lim ≤ tk nb B b how
    · simp (disch := omega) only [ile_t, ile_f, ilt_t, ilt_f, ieq_t, ieq_f, gd_nI, gn_nI, gz_nI, b1_some, bd_some, lt1_eq, nI_add, nI_mul, nI_clamp, if_true, if_false, e2, d]
    · simp (disch := omega) only [ile_t, ile_f, ilt_t, ilt_f, ieq_t, ieq_f, gd_nI, gn_nI, gz_nI, b1_some, bd_some, lt1_eq, nI_add, nI_mul, nI_clamp, if_true, if_false, e2, d]
  · by_cases c2 : kind = 2
    · subst c2
      have t : ¬ (2 : Nat) = 1 := by decide
      by_cases d : B b 4 < B b 3
      · simp (disch := omega) only [ile_t, ile_f, ilt_t, ilt_f, ieq_t, ieq_f, gd_nI, gn_nI, gz_nI, b1_some, bd_some, lt1_eq, nI_add, nI_mul, nI_clamp, if_true, if_false, a7, mn_nI, d, t]
      · simp (disch := omega) only [ile_t, ile_f, ilt_t, ilt_f, ieq_t, ieq_f, gd_nI, gn_nI, gz_nI, b1_some, bd_some, lt1_eq, nI_add, nI_mul, nI_clamp, if_true, if_false, a7, d, t]
    · by_cases c3 : kind = 3
      · subst c3
        have t : ¬ (3 : Nat) = 1 := by decide
        have t2 : ¬ (3 : Nat) = 2 := by decide
        by_cases d : B b 4 < B b 3
        · simp (disch := omega) only [ile_t, ile_f, ilt_t, ilt_f, ieq_t, ieq_f, gd_nI, gn_nI, gz_nI, b1_some, bd_some, lt1_eq, nI_add, nI_mul, nI_clamp, if_true, if_false, a8, mx_nI, d, t, t2]
        · simp (disch := omega) only [ile_t, ile_f, ilt_t, ilt_f, ieq_t, ieq_f, gd_nI, gn_nI, gz_nI, b1_some, bd_some, lt1_eq, nI_add, nI_mul, nI_clamp, if_true, if_false, a8, d, t, t2]
      · simp (disch := omega) only [ile_t, ile_f, ilt_t, ilt_f, ieq_t, ieq_f, gd_nI, gn_nI, gz_nI, b1_some, bd_some, lt1_eq, nI_add, nI_mul, nI_clamp, if_true, if_false, a6, c1, c2, c3]
end CA
