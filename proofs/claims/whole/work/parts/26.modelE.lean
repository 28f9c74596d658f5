/-! THE REFERENCE: states are copied; runs of reads -/
abbrev AS : Type := Nat × Nat × Nat × Nat × BK × BK
def ZR (z : Nat → Int32) (S : AS) : Prop := ZB z S.1 S.2.2.2.2.1 ∧ ZQ z S.2.1 S.2.2.2.2.2 ∧ ZH z S.2.2.1 S.2.2.2.1
theorem ZR.cp {z z2 : Nat → Int32} {S : AS} (h : ZR z S) (hz : ∀ k, k < 220 → z2 k = z k) : ZR z2 S := by
  obtain ⟨⟨b0, b1⟩, ⟨q0, q1⟩, ⟨h0, h1⟩⟩ := h
  exact ⟨⟨by rw [hz 0 (by decide)]; exact b0, fun b k hb hk => by rw [hz _ (by omega)]; exact b1 b k hb hk⟩, ⟨by rw [hz 1 (by decide)]; exact q0, fun b k hb hk => by rw [hz _ (by omega)]; exact q1 b k hb hk⟩, by rw [hz 2 (by decide)]; exact h0, by rw [hz 3 (by decide)]; exact h1⟩
/-- the reference's history -/
def HM (m : SM) (hn : Nat) (Hs : Nat → AS) : Prop := m 0 3 = nI hn ∧ ∀ h, h < hn → ZR (fun k => m 2 (220 * h + k)) (Hs h)
def puN (hn : Nat) : Nat := if hn = 4 then 4 else hn + 1
def puH (hn : Nat) (Hs : Nat → AS) (S : AS) : Nat → AS := if hn = 4 then (fun h => if h = 3 then S else Hs (h + 1)) else (fun h => if h = hn then S else Hs h)
/-- all but z, the history and what is scratch -/
def SY (m m' : SM) : Prop := m' 3 = m 3 ∧ m' 4 = m 4 ∧ m' 5 = m 5 ∧ m' 0 4 = m 0 4 ∧ m' 0 7 = m 0 7
theorem SY.rf {m : SM} : SY m m := ⟨rfl, rfl, rfl, rfl, rfl⟩
theorem SY.tr {m m1 m2 : SM} (h : SY m m1) (h2 : SY m1 m2) : SY m m2 := by
  obtain ⟨a1, a2, a3, a4, a5⟩ := h
  obtain ⟨b1, b2, b3, b4, b5⟩ := h2
  exact ⟨b1.trans a1, b2.trans a2, b3.trans a3, b4.trans a4, b5.trans a5⟩
theorem SX.y {m m' : SM} (h : SX m m') : SY m m' := ⟨h.2.1, h.2.2.1, h.2.2.2.1, h.2.2.2.2.2.1, h.2.2.2.2.2.2⟩
theorem HM.x {m m' : SM} {hn : Nat} {Hs : Nat → AS} (h : HM m hn Hs) (s : SX m m') : HM m' hn Hs := ⟨by rw [s.2.2.2.2.1]; exact h.1, by rw [s.1]; exact h.2⟩
section ME
variable {m : SM} {nb nq pl tu b q k how ls n hn : Nat} {B Q : BK} {S : AS} {Hs : Nat → AS}
theorem aside_L : ∀ n i m, i ≤ 220 → 220 < i + n → (∀ k, k < i → m 4 k = m 1 k) → ∃ m', f_X6_putAside_L2 n m (nI i) = some (0, m') ∧ (∀ c, c ≠ 4 → m' c = m c) ∧ ∀ k, k < 220 → m' 4 k = m 1 k := by
  intro n
  induction n with
  | zero => intro i m h2 h3; omega
  | succ n ih =>
    intro i m h2 h3 h
    rw [f_X6_putAside_L2.eq_2]
    by_cases c : i = 220
    · subst c
      simp (disch := omega) only [ile_t, ile_f, ilt_t, ilt_f, ieq_t, ieq_f, gd_nI, gn_nI, gz_nI, b1_some, bd_some, lt1_eq, nI_add, nI_mul, nI_clamp, if_true, if_false]
      exact ⟨m, rfl, fun _ _ => rfl, h⟩
    · simp (disch := omega) only [ile_t, ile_f, ilt_t, ilt_f, ieq_t, ieq_f, gd_nI, gn_nI, gz_nI, b1_some, bd_some, lt1_eq, nI_add, nI_mul, nI_clamp, if_true, if_false]
      obtain ⟨m', p1, p2, p3⟩ := ih (i + 1) (up m 4 i (m 1 i)) (by omega) (by omega) (fun k hk => by
        by_cases d : k = i
        · subst d
          rw [up_same, up_o (Or.inl (by decide))]
        · rw [up_o (Or.inr d), up_o (Or.inl (by decide))]
          exact h k (by omega))
      exact ⟨m', p1, fun c hc => by rw [p2 c hc, up_c hc], fun k hk => by rw [p3 k hk, up_o (Or.inl (by decide))]⟩
theorem aside_s : ∃ m', f_X6_putAside m = some (0, m') ∧ (∀ c, c ≠ 4 → m' c = m c) ∧ ∀ k, k < 220 → m' 4 k = m 1 k :=
  aside_L FU 0 m (by omega) (by rw [FU_eq]; omega) (fun k hk => by omega)
theorem back_L : ∀ n i m, i ≤ 220 → 220 < i + n → (∀ k, k < i → m 1 k = m 4 k) → ∃ m', f_X6_bringBack_L2 n m (nI i) = some (0, m') ∧ (∀ c, c ≠ 1 → m' c = m c) ∧ ∀ k, k < 220 → m' 1 k = m 4 k := by
  intro n
  induction n with
  | zero => intro i m h2 h3; omega
  | succ n ih =>
    intro i m h2 h3 h
    rw [f_X6_bringBack_L2.eq_2]
    by_cases c : i = 220
    · subst c
      simp (disch := omega) only [ile_t, ile_f, ilt_t, ilt_f, ieq_t, ieq_f, gd_nI, gn_nI, gz_nI, b1_some, bd_some, lt1_eq, nI_add, nI_mul, nI_clamp, if_true, if_false]
      exact ⟨m, rfl, fun _ _ => rfl, h⟩
    · simp (disch := omega) only [ile_t, ile_f, ilt_t, ilt_f, ieq_t, ieq_f, gd_nI, gn_nI, gz_nI, b1_some, bd_some, lt1_eq, nI_add, nI_mul, nI_clamp, if_true, if_false]
      obtain ⟨m', p1, p2, p3⟩ := ih (i + 1) (up m 1 i (m 4 i)) (by omega) (by omega) (fun k hk => by
        by_cases d : k = i
        · subst d
          rw [up_same, up_o (Or.inl (by decide))]
        · rw [up_o (Or.inr d), up_o (Or.inl (by decide))]
          exact h k (by omega))
      exact ⟨m', p1, fun c hc => by rw [p2 c hc, up_c hc], fun k hk => by rw [p3 k hk, up_o (Or.inl (by decide))]⟩
theorem back_s : ∃ m', f_X6_bringBack m = some (0, m') ∧ (∀ c, c ≠ 1 → m' c = m c) ∧ ∀ k, k < 220 → m' 1 k = m 4 k :=
  back_L FU 0 m (by omega) (by rw [FU_eq]; omega) (fun k hk => by omega)
theorem keep_L : ∀ n i m, i ≤ 220 → 220 < i + n → (∀ k, k < i → m 3 k = m 1 k) → ∃ m', f_X6_keep_L7 n m (nI i) = (b1 (f_X6_allOf m' (nI 4)) fun r3 => some (r3, m')) ∧ (∀ c, c ≠ 3 → m' c = m c) ∧ ∀ k, k < 220 → m' 3 k = m 1 k := by
  intro n
  induction n with
  | zero => intro i m h2 h3; omega
  | succ n ih =>
    intro i m h2 h3 h
    rw [f_X6_keep_L7.eq_2]
    by_cases c : i = 220
    · subst c
      simp (disch := omega) only [ile_t, ile_f, ilt_t, ilt_f, ieq_t, ieq_f, gd_nI, gn_nI, gz_nI, b1_some, bd_some, lt1_eq, nI_add, nI_mul, nI_clamp, if_true, if_false]
      exact ⟨m, rfl, fun _ _ => rfl, h⟩
    · simp (disch := omega) only [ile_t, ile_f, ilt_t, ilt_f, ieq_t, ieq_f, gd_nI, gn_nI, gz_nI, b1_some, bd_some, lt1_eq, nI_add, nI_mul, nI_clamp, if_true, if_false]
      obtain ⟨m', p1, p2, p3⟩ := ih (i + 1) (up m 3 i (m 1 i)) (by omega) (by omega) (fun k hk => by
        by_cases d : k = i
        · subst d
          rw [up_same, up_o (Or.inl (by decide))]
        · rw [up_o (Or.inr d), up_o (Or.inl (by decide))]
          exact h k (by omega))
      exact ⟨m', p1, fun c hc => by rw [p2 c hc, up_c hc], fun k hk => by rw [p3 k hk, up_o (Or.inl (by decide))]⟩
theorem restore_L : ∀ n i m, i ≤ 220 → 220 < i + n → (∀ k, k < i → m 1 k = m 3 k) → ∃ m', f_X6_restore_L16 n m (nI i) = (b1 (f_X6_allOf m' (nI 4)) fun r3 => some (r3, m')) ∧ (∀ c, c ≠ 1 → m' c = m c) ∧ ∀ k, k < 220 → m' 1 k = m 3 k := by
  intro n
  induction n with
  | zero => intro i m h2 h3; omega
  | succ n ih =>
    intro i m h2 h3 h
    rw [f_X6_restore_L16.eq_2]
    by_cases c : i = 220
    · subst c
      simp (disch := omega) only [ile_t, ile_f, ilt_t, ilt_f, ieq_t, ieq_f, gd_nI, gn_nI, gz_nI, b1_some, bd_some, lt1_eq, nI_add, nI_mul, nI_clamp, if_true, if_false]
      exact ⟨m, rfl, fun _ _ => rfl, h⟩
    · simp (disch := omega) only [ile_t, ile_f, ilt_t, ilt_f, ieq_t, ieq_f, gd_nI, gn_nI, gz_nI, b1_some, bd_some, lt1_eq, nI_add, nI_mul, nI_clamp, if_true, if_false]
      obtain ⟨m', p1, p2, p3⟩ := ih (i + 1) (up m 1 i (m 3 i)) (by omega) (by omega) (fun k hk => by
        by_cases d : k = i
        · subst d
          rw [up_same, up_o (Or.inl (by decide))]
        · rw [up_o (Or.inr d), up_o (Or.inl (by decide))]
          exact h k (by omega))
      exact ⟨m', p1, fun c hc => by rw [p2 c hc, up_c hc], fun k hk => by rw [p3 k hk, up_o (Or.inl (by decide))]⟩
theorem undo_L (hh : hn < 4) : ∀ n i m, i ≤ 220 → 220 < i + n → m 0 3 = nI hn → (∀ k, k < i → m 1 k = m 2 (220 * hn + k)) → ∃ m', f_X6_undo_L22 n m (nI i) = some (nI hn, m') ∧ (∀ c, c ≠ 1 → m' c = m c) ∧ ∀ k, k < 220 → m' 1 k = m 2 (220 * hn + k) := by
  intro n
  induction n with
  | zero => intro i m h2 h3; omega
  | succ n ih =>
    intro i m h2 h3 h0 h
    rw [f_X6_undo_L22.eq_2]
    by_cases c : i = 220
    · subst c
      simp (disch := omega) only [ile_t, ile_f, ilt_t, ilt_f, ieq_t, ieq_f, gd_nI, gn_nI, gz_nI, b1_some, bd_some, lt1_eq, nI_add, nI_mul, nI_clamp, if_true, if_false, h0]
      exact ⟨m, rfl, fun _ _ => rfl, h⟩
    · simp (disch := omega) only [ile_t, ile_f, ilt_t, ilt_f, ieq_t, ieq_f, gd_nI, gn_nI, gz_nI, b1_some, bd_some, lt1_eq, nI_add, nI_mul, nI_clamp, if_true, if_false, h0]
      rw [Nat.mul_comm hn 220]
      obtain ⟨m', p1, p2, p3⟩ := ih (i + 1) (up m 1 i (m 2 (220 * hn + i))) (by omega) (by omega) (by rw [up_o (Or.inl (by decide))]; exact h0) (fun k hk => by
        by_cases d : k = i
        · subst d
          rw [up_same, up_o (Or.inl (by decide))]
        · rw [up_o (Or.inr d), up_o (Or.inl (by decide))]
          exact h k (by omega))
      exact ⟨m', p1, fun c hc => by rw [p2 c hc, up_c hc], fun k hk => by rw [p3 k hk, up_o (Or.inl (by decide))]⟩
/-- the loop that writes z behind the history -/
theorem rec51 (hh : hn < 4) : ∀ n i m, i ≤ 220 → 220 < i + n → m 0 3 = nI hn → (∀ k, k < i → m 2 (220 * hn + k) = m 1 k) → ∃ m', f_X6_record_L51 n m (nI i) = some (0, m') ∧ (∀ c, c ≠ 2 → c ≠ 0 → m' c = m c) ∧ (∀ k, k ≠ 3 → m' 0 k = m 0 k) ∧ m' 0 3 = nI (hn + 1) ∧ (∀ k, k < 220 → m' 2 (220 * hn + k) = m 1 k) ∧ (∀ j, j < 220 * hn → m' 2 j = m 2 j) := by
  intro n
  induction n with
  | zero => intro i m h2 h3; omega
  | succ n ih =>
    intro i m h2 h3 h0 h
    rw [f_X6_record_L51.eq_2]
    by_cases c : i = 220
    · subst c
      simp (disch := omega) only [ile_t, ile_f, ilt_t, ilt_f, ieq_t, ieq_f, gd_nI, gn_nI, gz_nI, b1_some, bd_some, lt1_eq, nI_add, nI_mul, nI_clamp, if_true, if_false, h0]
      refine ⟨_, rfl, fun c h1 h2 => up_c h2, fun k hk => up_o (Or.inr hk), up_same, fun k hk => ?_, fun j hj => up_o (Or.inl (by decide))⟩
      rw [up_o (Or.inl (by decide))]
      exact h k hk
    · simp (disch := omega) only [ile_t, ile_f, ilt_t, ilt_f, ieq_t, ieq_f, gd_nI, gn_nI, gz_nI, b1_some, bd_some, lt1_eq, nI_add, nI_mul, nI_clamp, if_true, if_false, h0]
      rw [Nat.mul_comm hn 220]
      obtain ⟨m', p1, p2, p3, p4, p5, p6⟩ := ih (i + 1) (up m 2 (220 * hn + i) (m 1 i)) (by omega) (by omega) (by rw [up_o (Or.inl (by decide))]; exact h0) (fun k hk => by
        by_cases d : k = i
        · subst d
          rw [up_same, up_o (Or.inl (by decide))]
        · rw [up_o (Or.inr (by omega)), up_o (Or.inl (by decide))]
          exact h k (by omega))
      exact ⟨m', p1, fun c h1 h2 => by rw [p2 c h1 h2, up_c h1], fun k hk => by rw [p3 k hk, up_o (Or.inl (by decide))], p4, fun k hk => by rw [p5 k hk, up_o (Or.inl (by decide))], fun j hj => by rw [p6 j hj, up_o (Or.inr (by omega))]⟩
/-- the loop that drops the oldest one -/
theorem rec10 : ∀ n i m, i ≤ 660 → 660 < i + n → ∃ m', f_X6_record_L10 n m (nI i) = f_X6_record_L39 m' ∧ (∀ c, c ≠ 2 → m' c = m c) ∧ (∀ j, i ≤ j → j < 660 → m' 2 j = m 2 (j + 220)) ∧ (∀ j, j < i → m' 2 j = m 2 j) := by
  intro n
  induction n with
  | zero => intro i m h2 h3; omega
  | succ n ih =>
    intro i m h2 h3
    rw [f_X6_record_L10.eq_2]
    by_cases c : i = 660
    · subst c
      simp (disch := omega) only [ile_t, ile_f, ilt_t, ilt_f, ieq_t, ieq_f, gd_nI, gn_nI, gz_nI, b1_some, bd_some, lt1_eq, nI_add, nI_mul, nI_clamp, if_true, if_false]
      exact ⟨m, rfl, fun _ _ => rfl, fun j h1 h2 => by omega, fun j h1 => rfl⟩
    · simp (disch := omega) only [ile_t, ile_f, ilt_t, ilt_f, ieq_t, ieq_f, gd_nI, gn_nI, gz_nI, b1_some, bd_some, lt1_eq, nI_add, nI_mul, nI_clamp, if_true, if_false]
      obtain ⟨m', p1, p2, p3, p4⟩ := ih (i + 1) (up m 2 i (m 2 (i + 220))) (by omega) (by omega)
      refine ⟨m', p1, fun c hc => by rw [p2 c hc, up_c hc], fun j h1 h2 => ?_, fun j h1 => by rw [p4 j (by omega), up_o (Or.inr (by omega))]⟩
      by_cases d : j = i
      · subst d
        rw [p4 j (by omega), up_same]
      · rw [p3 j (by omega) h2, up_o (Or.inr (by omega))]
theorem rec_hist4 {m m' : SM} (hZ : ZR (m 1) S) (hH : ∀ h, h < 4 → ZR (fun k => m 2 (220 * h + k)) (Hs h)) (a1 : ∀ k, k < 220 → m' 2 (660 + k) = m 1 k) (a2 : ∀ j, j < 660 → m' 2 j = m 2 (j + 220)) : ∀ h, h < 4 → ZR (fun k => m' 2 (220 * h + k)) (if h = 3 then S else Hs (h + 1)) := by
  intro h hlt
  by_cases d : h = 3
  · subst d
    rw [if_pos rfl]
    exact hZ.cp (fun k hk => a1 k hk)
  · rw [if_neg d]
    refine (hH (h + 1) (by omega)).cp (fun k hk => ?_)
    have e : 220 * h + k + 220 = 220 * (h + 1) + k := by omega
    have e2 := a2 (220 * h + k) (by omega)
    rw [e] at e2
    exact e2
theorem record_4 (hZ : ZR (m 1) S) (hH : HM m 4 Hs) : ∃ m', f_X6_record m = some (0, m') ∧ (SY m m' ∧ m' 8 = m 8 ∧ m' 0 15 = m 0 15) ∧ m' 1 = m 1 ∧ m' 0 3 = nI 4 ∧ (∀ k, k < 220 → m' 2 (660 + k) = m 1 k) ∧ (∀ j, j < 660 → m' 2 j = m 2 (j + 220)) := by
  unfold f_X6_record
  simp (disch := omega) only [ile_t, ile_f, ilt_t, ilt_f, ieq_t, ieq_f, gd_nI, gn_nI, gz_nI, b1_some, bd_some, lt1_eq, nI_add, nI_mul, nI_clamp, if_true, if_false, hH.1]
  obtain ⟨m1, p1, p2, p3, p4⟩ := rec10 FU 0 m (by omega) (by rw [FU_eq]; omega)
  rw [p1]
  unfold f_X6_record_L39
  have h0 : m1 0 3 = nI 4 := by rw [p2 0 (by decide)]; exact hH.1
  have e : nI 4 - nI 1 = nI 3 := nI_sub (by decide)
  simp only [lt1_eq, h0, e]
  obtain ⟨m', r1, r2, r3, r4, r5, r6⟩ := rec51 (hn := 3) (by decide) FU 0 (up m1 0 3 (nI 3)) (by omega) (by rw [FU_eq]; omega) up_same (fun k hk => by omega)
  have e1 : m' 1 = m 1 := by rw [r2 1 (by decide) (by decide), up_c (by decide), p2 1 (by decide)]
  refine ⟨m', r1, ⟨⟨?_, ?_, ?_, ?_, ?_⟩, ?_, ?_⟩, e1, r4, fun k hk => ?_, fun j hj => ?_⟩
  · rw [r2 3 (by decide) (by decide), up_c (by decide), p2 3 (by decide)]
  · rw [r2 4 (by decide) (by decide), up_c (by decide), p2 4 (by decide)]
  · rw [r2 5 (by decide) (by decide), up_c (by decide), p2 5 (by decide)]
  · rw [r3 4 (by decide), up_o (Or.inr (by decide)), p2 0 (by decide)]
  · rw [r3 7 (by decide), up_o (Or.inr (by decide)), p2 0 (by decide)]
  · rw [r2 8 (by decide) (by decide), up_c (by decide), p2 8 (by decide)]
  · rw [r3 15 (by decide), up_o (Or.inr (by decide)), p2 0 (by decide)]
  · have e2 := r5 k hk
    have e3 : 220 * 3 + k = 660 + k := by omega
    rw [up_c (by decide), p2 1 (by decide), e3] at e2
    exact e2
  · rw [r6 j (by omega), up_c (by decide), p3 j (Nat.zero_le _) hj]
theorem record_n (hZ : ZR (m 1) S) (hH : HM m hn Hs) (hh : hn < 4) : ∃ m', f_X6_record m = some (0, m') ∧ (SY m m' ∧ m' 8 = m 8 ∧ m' 0 15 = m 0 15) ∧ m' 1 = m 1 ∧ HM m' (hn + 1) (fun h => if h = hn then S else Hs h) := by
  unfold f_X6_record
  simp (disch := omega) only [ile_t, ile_f, ilt_t, ilt_f, ieq_t, ieq_f, gd_nI, gn_nI, gz_nI, b1_some, bd_some, lt1_eq, nI_add, nI_mul, nI_clamp, if_true, if_false, hH.1]
  obtain ⟨m', r1, r2, r3, r4, r5, r6⟩ := rec51 (hn := hn) (by omega) FU 0 m (by omega) (by rw [FU_eq]; omega) hH.1 (fun k hk => by omega)
  refine ⟨m', r1, ⟨⟨r2 3 (by decide) (by decide), r2 4 (by decide) (by decide), r2 5 (by decide) (by decide), r3 4 (by decide), r3 7 (by decide)⟩, r2 8 (by decide) (by decide), r3 15 (by decide)⟩, r2 1 (by decide) (by decide), r4, fun h hlt => ?_⟩
  show ZR _ (if h = hn then S else Hs h)
  by_cases d : h = hn
  · subst d
    rw [if_pos rfl]
    exact hZ.cp (fun k hk => by rw [r5 k hk])
  · rw [if_neg d]
    exact (hH.2 h (by omega)).cp (fun k hk => by rw [r6 _ (by omega)])
theorem record_s (hZ : ZR (m 1) S) (hH : HM m hn Hs) (hh : hn ≤ 4) : ∃ m', f_X6_record m = some (0, m') ∧ (SY m m' ∧ m' 8 = m 8 ∧ m' 0 15 = m 0 15) ∧ m' 1 = m 1 ∧ HM m' (puN hn) (puH hn Hs S) := by
  unfold puN puH
  by_cases c : hn = 4
  · rw [if_pos c, if_pos c]
    subst c
    obtain ⟨m', r1, r2, r3, r4, r5, r6⟩ := record_4 hZ hH
    exact ⟨m', r1, r2, r3, r4, rec_hist4 hZ hH.2 r5 r6⟩
  · rw [if_neg c, if_neg c]
    exact record_n hZ hH (by omega)
/-- a reading state in z -/
def ZT (z : Nat → Int32) (pl nb nq : Nat) (T : T3) : Prop := ZB z nb T.2.1 ∧ ZQ z nq T.2.2 ∧ ZH z pl T.1
theorem readNext_T (hpl : pl ≤ 2) {T : T3} (hT : TI nb nq T) (hZ : ZT (m 1) pl nb nq T) (hu : ua nb T.2.1 ≠ 0) : ∃ m', f_X6_readNext m = some (0, m') ∧ SX m m' ∧ ZT (m' 1) pl nb nq (stp pl nb nq T) := by
  obtain ⟨b, e⟩ := nx_ex (pl := pl) (tu := T.1) (nq := nq) (Q := T.2.2) hT.2.1 hu
  obtain ⟨m', p1, p2, p3, p4, p5⟩ := readNext_s hT.2.1 hT.2.2 hpl hT.1 hZ.1 hZ.2.1 hZ.2.2 e
  refine ⟨m', p1, p2, ?_⟩
  unfold stp
  rw [e]
  exact ⟨p3, p4, p5⟩
theorem goOn_L (hpl : pl ≤ 2) : ∀ n k cnt m (T : T3), TI nb nq T → ZT (m 1) pl nb nq T → ua nb T.2.1 ≤ k → k < n → ∃ m', f_X6_goOn_L2 n m (nI cnt) = some (nI (cnt + (run pl nb nq (fun Q => decide (opn nq Q = 0)) k T).1), m') ∧ SX m m' ∧ ZT (m' 1) pl nb nq (run pl nb nq (fun Q => decide (opn nq Q = 0)) k T).2 := by
  intro n
  induction n with
  | zero => intro k cnt m T h1 h2 h3 h4; omega
  | succ n ih =>
    intro k cnt m T hT hZ hk hkn
    have e1 := openMany_s hT.2.2 hZ.2.1
    have e2 := unreadAll_s hT.2.1 hZ.1
    have hou : opn nq T.2.2 ≤ 6 := by
      have := sumTo_le (f := fun q => 1 - T.2.2 q 4) (c := 1) nq (fun i hi => by omega)
      have h6 := hT.2.2.1
      unfold opn
      omega
    have hua : ua nb T.2.1 ≤ 128 := by
      have := ua_split hT.2.1 nb (Nat.le_refl _)
      have := s3_le hT.2.1
      unfold ua
      omega
    rw [f_X6_goOn_L2.eq_2]
    by_cases c : opn nq T.2.2 = 0
    · have er : run pl nb nq (fun Q => decide (opn nq Q = 0)) k T = (0, T) := by
        cases k with
        | zero => rfl
        | succ k =>
          unfold run
          rw [if_pos (Or.inl (decide_eq_true c))]
      rw [er]
      rw [c] at e1
      simp (disch := omega) only [ile_t, ile_f, ilt_t, ilt_f, ieq_t, ieq_f, gd_nI, gn_nI, gz_nI, b1_some, bd_some, lt1_eq, nI_add, nI_mul, nI_clamp, if_true, if_false, e1]
      exact ⟨m, rfl, SX.rf, hZ⟩
    · by_cases d : ua nb T.2.1 = 0
      · have er : run pl nb nq (fun Q => decide (opn nq Q = 0)) k T = (0, T) := by
          cases k with
          | zero => rfl
          | succ k =>
            unfold run
            rw [if_pos (Or.inr d)]
        rw [er]
        rw [d] at e2
        simp (disch := omega) only [ile_t, ile_f, ilt_t, ilt_f, ieq_t, ieq_f, gd_nI, gn_nI, gz_nI, b1_some, bd_some, lt1_eq, nI_add, nI_mul, nI_clamp, if_true, if_false, e1, e2]
        exact ⟨m, rfl, SX.rf, hZ⟩
      · obtain ⟨m1, g1, g2, g3⟩ := readNext_T hpl hT hZ d
        have hst := ua_stp (pl := pl) hT d
        cases k with
        | zero => omega
        | succ k =>
          obtain ⟨m', p1, p2, p3⟩ := ih k (cnt + 1) m1 (stp pl nb nq T) (TI_stp hT) g3 (by omega) (by omega)
          unfold run
          rw [if_neg (by
            rintro (h | h)
            · exact c (of_decide_eq_true h)
            · exact d h)]
          simp (disch := omega) only [ile_t, ile_f, ilt_t, ilt_f, ieq_t, ieq_f, gd_nI, gn_nI, gz_nI, b1_some, bd_some, lt1_eq, nI_add, nI_mul, nI_clamp, if_true, if_false, e1, e2, g1]
          refine ⟨m', ?_, g2.tr p2, p3⟩
          rw [p1]
          congr 3
          omega
theorem ua_le (hI : BI nb B) : ua nb B ≤ 128 := by
  have := ua_split hI nb (Nat.le_refl _)
  have := s3_le hI
  unfold ua
  omega
theorem goOn_s (hpl : pl ≤ 2) {T : T3} (hT : TI nb nq T) (hZ : ZT (m 1) pl nb nq T) : ∃ m', f_X6_goOn m = some (nI (run pl nb nq (fun Q => decide (opn nq Q = 0)) 128 T).1, m') ∧ SX m m' ∧ ZT (m' 1) pl nb nq (run pl nb nq (fun Q => decide (opn nq Q = 0)) 128 T).2 := by
  obtain ⟨m', p1, p2, p3⟩ := goOn_L hpl FU 128 0 m T hT hZ (ua_le hT.2.1) (by decide)
  rw [Nat.zero_add] at p1
  exact ⟨m', p1, p2, p3⟩
end ME
