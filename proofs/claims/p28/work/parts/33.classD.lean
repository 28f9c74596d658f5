/-! THE CLASS: copies; what an act does to the cells -/
def RC (m : SM) (S : AS) : Prop := CB m S.1 S.2.2.2.2.1 ∧ CQ m S.2.1 S.2.2.2.2.2 ∧ CH m S.2.2.1 S.2.2.2.1 ∧ CW m S.1 S.2.2.2.2.1 S.2.1 S.2.2.2.2.2
def SI (S : AS) : Prop := BI S.1 S.2.2.2.2.1 ∧ QQ S.2.1 S.2.2.2.2.2 ∧ S.2.2.1 ≤ 2 ∧ S.2.2.2.1 < 8 ∧ SD S.1 S.2.2.2.2.1 S.2.1 S.2.2.2.2.2
def EB (m mz : SM) (b b2 : Nat) : Prop := (∀ k, 1 ≤ k → k ≤ 8 → m (3 + b) k = mz (3 + b2) k) ∧ ∀ r, r < 16 → m (11 + b) r = mz (11 + b2) r
section CDD
variable {m mz : SM} {nb nq pl tu b q k how ls lim n : Nat} {B Q : BK} {S : AS}
theorem CBr.eb {b2 : Nat} (h : CBr mz B b2) (h16 : B b2 3 ≤ 16) (e : EB m mz b b2) {B2 : BK} (hB : B2 b = B b2) : CBr m B2 b := by
  obtain ⟨a1, a2, a3, a4, a5, a6, a7, a8, a9⟩ := h
  unfold CBr sRd mRd gRd
  rw [hB]
  refine ⟨?_, ?_, ?_, ?_, ?_, ?_, ?_, ?_, fun r hr => ?_⟩
  · rw [e.1 1 (by decide) (by decide)]; exact a1
  · rw [e.1 2 (by decide) (by decide)]; exact a2
  · rw [e.1 3 (by decide) (by decide)]; exact a3
  · rw [e.1 4 (by decide) (by decide)]; exact a4
  · rw [e.1 5 (by decide) (by decide)]; exact a5
  · rw [e.1 6 (by decide) (by decide)]; exact a6
  · rw [e.1 7 (by decide) (by decide)]; exact a7
  · rw [e.1 8 (by decide) (by decide)]; exact a8
  · rw [e.2 r (by omega)]; exact a9 r hr
theorem copyB_s {b2 : Nat} : ∃ m', f_X0_copyFrom m mz b b2 = some (0, m') ∧ (∀ c, c ≠ 3 + b → c ≠ 11 + b → m' c = m c) ∧ EB m' mz b b2 := by
  unfold f_X0_copyFrom
  simp only [lt1_eq]
  refine ⟨_, rfl, fun c h1 h2 => ?_, fun k h1 h2 => ?_, fun r hr => ?_⟩
  · rw [up_c h1, up_c h1, up_c h1, up_c h1, up_c h1, up_c h1, up_c h1, up_c h1, sc_ne h2]
  · have hk : k = 1 ∨ k = 2 ∨ k = 3 ∨ k = 4 ∨ k = 5 ∨ k = 6 ∨ k = 7 ∨ k = 8 := by omega
    rcases hk with rfl | rfl | rfl | rfl | rfl | rfl | rfl | rfl
    · rw [up_o (Or.inr (by decide)), up_o (Or.inr (by decide)), up_o (Or.inr (by decide)), up_o (Or.inr (by decide)), up_o (Or.inr (by decide)), up_o (Or.inr (by decide)), up_o (Or.inr (by decide)), up_same]
    · rw [up_o (Or.inr (by decide)), up_o (Or.inr (by decide)), up_o (Or.inr (by decide)), up_o (Or.inr (by decide)), up_o (Or.inr (by decide)), up_o (Or.inr (by decide)), up_same]
    · rw [up_o (Or.inr (by decide)), up_o (Or.inr (by decide)), up_o (Or.inr (by decide)), up_o (Or.inr (by decide)), up_o (Or.inr (by decide)), up_same]
    · rw [up_o (Or.inr (by decide)), up_o (Or.inr (by decide)), up_o (Or.inr (by decide)), up_o (Or.inr (by decide)), up_same]
    · rw [up_o (Or.inr (by decide)), up_o (Or.inr (by decide)), up_o (Or.inr (by decide)), up_same]
    · rw [up_o (Or.inr (by decide)), up_o (Or.inr (by decide)), up_same]
    · rw [up_o (Or.inr (by decide)), up_same]
    · rw [up_same]
  · have h1 : 11 + b ≠ 3 + b := by omega
    rw [up_c h1, up_c h1, up_c h1, up_c h1, up_c h1, up_c h1, up_c h1, up_c h1, sc_at]
    show (if 0 ≤ r ∧ r < 0 + 16 then mz (11 + b2) (0 + (r - 0)) else m (11 + b) r) = _
    rw [if_pos ⟨Nat.zero_le _, by omega⟩, Nat.zero_add, Nat.sub_zero]
theorem k8 (h : k < 8) : k = 0 ∨ k = 1 ∨ k = 2 ∨ k = 3 ∨ k = 4 ∨ k = 5 ∨ k = 6 ∨ k = 7 := by omega
theorem copyQ_s {q2 : Nat} (hz : mz (19 + q2) 4 = nI n) (hn : n ≤ 1) : ∃ m', f_X3_copyFrom m mz q q2 = some (0, m') ∧ (∀ c, c ≠ 19 + q → m' c = m c) ∧ ∀ k, k < 8 → m' (19 + q) k = mz (19 + q2) k := by
  unfold f_X3_copyFrom
  simp only [lt1_eq, hz, gz_nI hn]
  refine ⟨_, rfl, fun c h1 => ?_, fun k hk => ?_⟩
  · rw [up_c h1, up_c h1, up_c h1, up_c h1, up_c h1, up_c h1, up_c h1, up_c h1]
  · rcases k8 hk with rfl | rfl | rfl | rfl | rfl | rfl | rfl | rfl
    · rw [up_o (Or.inr (by decide)), up_o (Or.inr (by decide)), up_o (Or.inr (by decide)), up_o (Or.inr (by decide)), up_o (Or.inr (by decide)), up_o (Or.inr (by decide)), up_o (Or.inr (by decide)), up_same]
    · rw [up_o (Or.inr (by decide)), up_o (Or.inr (by decide)), up_o (Or.inr (by decide)), up_o (Or.inr (by decide)), up_o (Or.inr (by decide)), up_o (Or.inr (by decide)), up_same]
    · rw [up_o (Or.inr (by decide)), up_o (Or.inr (by decide)), up_o (Or.inr (by decide)), up_o (Or.inr (by decide)), up_o (Or.inr (by decide)), up_same]
    · rw [up_o (Or.inr (by decide)), up_o (Or.inr (by decide)), up_o (Or.inr (by decide)), up_o (Or.inr (by decide)), up_same]
    · rw [up_o (Or.inr (by decide)), up_o (Or.inr (by decide)), up_o (Or.inr (by decide)), up_same, hz]
    · rw [up_o (Or.inr (by decide)), up_o (Or.inr (by decide)), up_same]
    · rw [up_o (Or.inr (by decide)), up_same]
    · rw [up_same]
/-- the same copy within one state: no two cells are one -/
theorem copyQ_S {q2 : Nat} (h2 : q2 ≠ q) (hz : m (19 + q2) 4 = nI n) (hn : n ≤ 1) : ∃ m', f_X3_copyFromS m q q2 = some (0, m') ∧ (∀ c, c ≠ 19 + q → m' c = m c) ∧ ∀ k, k < 8 → m' (19 + q) k = m (19 + q2) k := by
  have d : 19 + q2 ≠ 19 + q := by omega
  obtain ⟨m', p1, p2, p3⟩ := copyQ_s (m := m) (mz := m) (q := q) (q2 := q2) hz hn
  refine ⟨m', ?_, p2, p3⟩
  rw [← p1]
  unfold f_X3_copyFromS f_X3_copyFrom
  simp only [lt1_eq, up_o (Or.inl d)]
theorem copy33 (hQQ : QQ nq Q) (hQ : CQ mz nq Q) : ∀ n i m, i ≤ nq → nq < i + n → (∀ q, q < i → ∀ k, k < 8 → m (19 + q) k = mz (19 + q) k) → ∃ m', f_X4_copyFrom_L33 mz n m (nI i) = some (0, m') ∧ (∀ c, 1 ≤ c → c < 19 → m' c = m c) ∧ (∀ q, q < nq → ∀ k, k < 8 → m' (19 + q) k = mz (19 + q) k) ∧ m' 0 2 = mz 0 2 ∧ m' 0 3 = mz 0 3 ∧ m' 0 4 = mz 0 4 ∧ m' 0 5 = mz 0 5 := by
  have hq6 := hQQ.1
  intro n
  induction n with
  | zero => intro i m h2 h3; omega
  | succ n ih =>
    intro i m h2 h3 h
    rw [f_X4_copyFrom_L33.eq_2]
    by_cases c : i = nq
    · subst c
      unfold f_X4_copyFrom_L62
      rw [hQ.1, ile_t (Nat.le_refl _) (by omega), ← hQ.1]
      simp only [lt1_eq]
      refine ⟨_, rfl, fun c h1 h2 => ?_, fun q hq k hk => ?_, ?_, ?_, ?_, ?_⟩
      · rw [up_c (by omega), up_c (by omega), up_c (by omega), up_c (by omega)]
      · rw [up_c (by omega), up_c (by omega), up_c (by omega), up_c (by omega)]
        exact h q hq k hk
      · rw [up_o (Or.inr (by decide)), up_o (Or.inr (by decide)), up_o (Or.inr (by decide)), up_same]
      · rw [up_o (Or.inr (by decide)), up_o (Or.inr (by decide)), up_same]
      · rw [up_o (Or.inr (by decide)), up_same]
      · rw [up_same]
    · have hqi := hQQ.2 i (by omega)
      obtain ⟨m1, g1, g2, g3⟩ := copyQ_s (m := m) (q := i) (hQ.2 i (by omega)).2.2.2.2.1 hqi.2.2.2.2.2
      obtain ⟨m', p1, p2, p3⟩ := ih (i + 1) m1 (by omega) (by omega) (fun q hq k hk => by
        by_cases d : q = i
        · subst d; exact g3 k hk
        · rw [g2 _ (by omega)]; exact h q (by omega) k hk)
      refine ⟨m', ?_, fun c h1 h2 => by rw [p2 c h1 h2, g2 c (by omega)], p3⟩
      simp (disch := omega) only [ile_t, ile_f, ilt_t, ilt_f, ieq_t, ieq_f, gd_nI, gn_nI, gz_nI, b1_some, bd_some, lt1_eq, nI_add, nI_mul, nI_clamp, if_true, if_false, hQ.1, g1]
      exact p1
theorem copy2 (hI : BI nb B) (hQQ : QQ nq Q) (hB : CB mz nb B) (hQ : CQ mz nq Q) : ∀ n i m, i ≤ nb → nb < i + n → (∀ b, b < i → EB m mz b b) → ∃ m', f_X4_copyFrom_L2 mz n m (nI i) = some (0, m') ∧ (∀ b, b < nb → EB m' mz b b) ∧ (∀ q, q < nq → ∀ k, k < 8 → m' (19 + q) k = mz (19 + q) k) ∧ m' 0 2 = mz 0 2 ∧ m' 0 3 = mz 0 3 ∧ m' 0 4 = mz 0 4 ∧ m' 0 5 = mz 0 5 := by
  have h8 := hI.1
  intro n
  induction n with
  | zero => intro i m h2 h3; omega
  | succ n ih =>
    intro i m h2 h3 h
    rw [f_X4_copyFrom_L2.eq_2]
    by_cases c : i = nb
    · subst c
      obtain ⟨m', p1, p2, p3⟩ := copy33 hQQ hQ FU 0 m (Nat.zero_le _) (by rw [FU_eq]; have := hQQ.1; omega) (fun q hq => by omega)
      unfold f_X4_copyFrom_L31
      refine ⟨m', by rw [hB.1, ile_t (Nat.le_refl _) (by omega)]; exact p1, fun b hb => ?_, p3⟩
      have e := h b hb
      unfold EB at e ⊢
      rw [p2 (3 + b) (by omega) (by omega), p2 (11 + b) (by omega) (by omega)]
      exact e
    · obtain ⟨m1, g1, g2, g3⟩ := copyB_s (m := m) (mz := mz) (b := i) (b2 := i)
      obtain ⟨m', p1, p2⟩ := ih (i + 1) m1 (by omega) (by omega) (fun b hb => by
        by_cases d : b = i
        · subst d; exact g3
        · have e := h b (by omega)
          unfold EB at e ⊢
          rw [g2 (3 + b) (by omega) (by omega), g2 (11 + b) (by omega) (by omega)]
          exact e)
      refine ⟨m', ?_, p2⟩
      simp (disch := omega) only [ile_t, ile_f, ilt_t, ilt_f, ieq_t, ieq_f, gd_nI, gn_nI, gz_nI, b1_some, bd_some, lt1_eq, nI_add, nI_mul, nI_clamp, if_true, if_false, hB.1, g1]
      exact p1
theorem copyC_s (hS : SI S) (hC : RC mz S) : ∃ m', f_X4_copyFrom m mz = some (0, m') ∧ RC m' S := by
  obtain ⟨nb, nq, pl, tu, B, Q⟩ := S
  obtain ⟨hI, hQQ, -⟩ := hS
  obtain ⟨hB, hQ, hH, hW⟩ := hC
  have hI : BI nb B := hI
  have hQQ : QQ nq Q := hQQ
  have hB : CB mz nb B := hB
  have hQ : CQ mz nq Q := hQ
  have hH : CH mz pl tu := hH
  have hW : CW mz nb B nq Q := hW
  obtain ⟨m', p1, p2, p3, p4, p5, p6, p7⟩ := copy2 hI hQQ hB hQ FU 0 m (Nat.zero_le _) (by rw [FU_eq]; have := hI.1; omega) (fun q hq => by omega)
  refine ⟨m', p1, ?_, ?_, ?_, ?_⟩
  · exact ⟨by rw [p4]; exact hB.1, fun b hb => (hB.2 b hb).eb (hI.2 b hb).2.2.2.2.1 (p2 b hb) rfl⟩
  · refine ⟨by rw [p5]; exact hQ.1, fun q hq => ?_⟩
    show CQr m' q (Q q)
    have e := p3 q hq
    obtain ⟨a0, a1, a2, a3, a4, a5⟩ := hQ.2 q hq
    exact ⟨by rw [e 0 (by decide)]; exact a0, by rw [e 1 (by decide)]; exact a1, by rw [e 2 (by decide)]; exact a2, by rw [e 3 (by decide)]; exact a3, by rw [e 4 (by decide)]; exact a4, by rw [e 5 (by decide), e 6 (by decide), e 7 (by decide)]; exact a5⟩
  · exact ⟨by rw [p6]; exact hH.1, by rw [p7]; exact hH.2⟩
  · intro q hq h4 hr
    have e := p3 q hq
    rw [e 5 (by decide), e 6 (by decide)]
    exact hW q hq h4 hr
/-- a block's bounds are set -/
theorem boundC_s {x y : Nat} (hI : BI nb B) (hB : CB m nb B) (hb : b < nb) : CB (up (up m (3 + b) 2 (nI x)) (3 + b) 3 (nI y)) nb (upB (upB B b 1 x) b 2 y) := by
  have h8 := hI.1
  obtain ⟨a1, a2, a3, a4, a5, a6, a7, a8, a9⟩ := hB.2 b hb
  have n11 : 11 + b ≠ 3 + b := by omega
  have o2 : ∀ k, k ≠ 1 → k ≠ 2 → upB (upB B b 1 x) b 2 y b k = B b k := fun k h1 h2 => by rw [upB_o (Or.inr h2), upB_o (Or.inr h1)]
  have f1 : ∀ c, c ≠ 3 + b → up (up m (3 + b) 2 (nI x)) (3 + b) 3 (nI y) c = m c := fun c hc => by rw [up_c hc, up_c hc]
  have k1 : ∀ k, k ≠ 2 → k ≠ 3 → up (up m (3 + b) 2 (nI x)) (3 + b) 3 (nI y) (3 + b) k = m (3 + b) k := fun k h2 h3 => by rw [up_o (Or.inr h3), up_o (Or.inr h2)]
  refine ⟨by rw [f1 0 (by omega)]; exact hB.1, fun z hz => ?_⟩
  by_cases c : z = b
  · subst c
    refine ⟨?_, ?_, ?_, ?_, ?_, ?_, ?_, ?_, fun r hr => ?_⟩
    · rw [k1 _ (by decide) (by decide), o2 _ (by decide) (by decide)]; exact a1
    · rw [up_o (Or.inr (by decide)), up_same, upB_o (Or.inr (by decide)), upB_at]
    · rw [up_same, upB_at]
    · rw [k1 _ (by decide) (by decide), o2 _ (by decide) (by decide)]; exact a4
    · rw [k1 _ (by decide) (by decide), o2 _ (by decide) (by decide)]; exact a5
    · have e : sRd (upB (upB B z 1 x) z 2 y) z = sRd B z := by
        unfold sRd
        rw [o2 4 (by decide) (by decide)]
        exact sumTo_congr _ (fun i hi => o2 _ (by omega) (by omega))
      rw [k1 _ (by decide) (by decide), e]; exact a6
    · have e : mRd (upB (upB B z 1 x) z 2 y) z = mRd B z := by
        unfold mRd
        rw [o2 4 (by decide) (by decide)]
        exact minB_congr _ (fun i hi => o2 _ (by omega) (by omega))
      rw [k1 _ (by decide) (by decide), e]; exact a7
    · have e : gRd (upB (upB B z 1 x) z 2 y) z = gRd B z := by
        unfold gRd
        rw [o2 4 (by decide) (by decide)]
        exact maxB_congr _ (fun i hi => o2 _ (by omega) (by omega))
      rw [k1 _ (by decide) (by decide), e]; exact a8
    · rw [o2 3 (by decide) (by decide)] at hr
      rw [f1 _ n11, o2 _ (by omega) (by omega)]
      exact a9 r hr
  · exact ((hB.2 z hz).cp (f1 _ (by omega)) (f1 _ (by omega))).bk (fun k => by rw [upB_o (Or.inl c), upB_o (Or.inl c)])
/-- the first i blocks' reads are forgotten -/
def fgB (B : BK) (i : Nat) : BK := fun b k => if b < i ∧ k = 4 then 0 else B b k
theorem fgB_0 : fgB B 0 = B := by
  funext b k
  unfold fgB
  rw [if_neg (by omega)]
/-- a question is put behind -/
theorem addQC_s {k l li t : Nat} {f : Nat → Nat} (hQQ : QQ nq Q) (hQ : CQ m nq Q) (h6 : nq < 6) (f0 : f 0 = k) (f1 : f 1 = l) (f2 : f 2 = li) (f3 : f 3 = t) (f4 : f 4 = 0) : ∃ m', f_X4_appendQuestion m (nI k) (nI l) (nI li) (nI t) = some (nI nq, m') ∧ (∀ c, 1 ≤ c → c < 19 → m' c = m c) ∧ (∀ k, k ≠ 3 → m' 0 k = m 0 k) ∧ CQ m' (nq + 1) (setR Q nq f) := by
  unfold f_X4_appendQuestion
  rw [hQ.1, ilt_t h6 (by decide), gd_nI h6 (by decide), nI_clamp (by omega)]
  simp only [lt1_eq]
  have r3 : ∀ (mm : SM) (k : Nat) (v : Int32), up mm (19 + nq) k v 0 3 = mm 0 3 := fun mm k v => up_o (Or.inl (by omega))
  simp only [r3, hQ.1, nI_add]
  have e0 : nI (nq + 1) - nI 1 = nI nq := by rw [nI_sub (by omega), Nat.add_sub_cancel]
  rw [up_same, e0]
  refine ⟨_, rfl, fun c h1 h2 => ?_, fun k hk => ?_, up_same, fun q hq => ?_⟩
  · rw [up_c (by omega), up_c (by omega), up_c (by omega), up_c (by omega), up_c (by omega), up_c (by omega)]
  · rw [up_o (Or.inr hk), up_c (by omega), up_c (by omega), up_c (by omega), up_c (by omega), up_c (by omega)]
  · unfold setR
    by_cases c : q = nq
    · subst c
      rw [if_pos rfl]
      refine ⟨?_, ?_, ?_, ?_, ?_, fun h => ?_⟩
      · rw [f0, up_c (by omega), up_o (Or.inr (by decide)), up_o (Or.inr (by decide)), up_o (Or.inr (by decide)), up_o (Or.inr (by decide)), up_same]
      · rw [f1, up_c (by omega), up_o (Or.inr (by decide)), up_o (Or.inr (by decide)), up_o (Or.inr (by decide)), up_same]
      · rw [f2, up_c (by omega), up_o (Or.inr (by decide)), up_o (Or.inr (by decide)), up_same]
      · rw [f3, up_c (by omega), up_o (Or.inr (by decide)), up_same]
      · rw [f4, up_c (by omega), up_same]
      · rw [f4] at h; exact absurd h (by decide)
    · rw [if_neg c]
      exact (hQ.2 q (by omega)).cp (by rw [up_c (by omega), up_c (by omega), up_c (by omega), up_c (by omega), up_c (by omega), up_c (by omega)])
/-- question q is taken away -/
def rmQ (Q : BK) (q : Nat) : BK := fun x => if x < q then Q x else Q (x + 1)
end CDD
