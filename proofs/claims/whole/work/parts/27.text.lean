/-! TEXTS: what a text of a block is (tl characters tx), and how the reference reads it -/
def isD (tl : Nat) (tx : Nat → Int32) (i : Nat) : Bool := decide (i < tl) && (decide (nI 48 ≤ tx i) && decide (tx i ≤ nI 57))
def isC (tl : Nat) (tx : Nat → Int32) (i : Nat) (c : Nat) : Bool := decide (i < tl) && decide (tx i = nI c)
def dg (tx : Nat → Int32) (i : Nat) : Nat := (tx i).toNatClampNeg - 48
/-- a number from i on, and the place behind it -/
def num (tl : Nat) (tx : Nat → Int32) (i : Nat) : Option (Nat × Nat) :=
  if isD tl tx i = true then
    if dg tx i = 0 then some (0, i + 1)
    else if isD tl tx (i + 1) = true then
      if isD tl tx (i + 2) = true then some (10 * (10 * dg tx i + dg tx (i + 1)) + dg tx (i + 2), i + 3) else some (10 * dg tx i + dg tx (i + 1), i + 2)
    else some (dg tx i, i + 1)
  else none
def upV (v : Nat → Nat) (k x : Nat) : Nat → Nat := fun j => if j = k then x else v j
/-- values from i on, k were read: a fault's place, or how many and which -/
def pV (tl : Nat) (tx : Nat → Int32) : Nat → Nat → Nat → (Nat → Nat) → Nat ⊕ (Nat × (Nat → Nat))
  | 0, _, i, _ => .inl i
  | n + 1, k, i, v => match num tl tx i with
    | none => .inl i
    | some x => if tl ≤ x.2 then .inr (k + 1, upV v k x.1)
      else if n = 0 then .inl x.2
      else if isC tl tx x.2 44 = true then pV tl tx n (k + 1) (x.2 + 1) (upV v k x.1)
      else .inl x.2
/-- the whole text: layer, bottom, top, how many values, which -/
def pP (tl : Nat) (tx : Nat → Int32) : Nat ⊕ (Nat × Nat × Nat × Nat × (Nat → Nat)) :=
  if isD tl tx 0 = true ∧ dg tx 0 ≤ 3 then
    if isC tl tx 1 58 = true then
      match num tl tx 2 with
      | none => .inl 2
      | some x => if isC tl tx x.2 45 = true then
          match num tl tx (x.2 + 1) with
          | none => .inl (x.2 + 1)
          | some y => if isC tl tx y.2 61 = true then
              match pV tl tx 16 0 (y.2 + 1) (fun _ => 0) with
              | .inl f => .inl f
              | .inr w => .inr (dg tx 0, x.1, y.1, w.1, w.2)
            else .inl y.2
        else .inl x.2
    else .inl 1
  else .inl 0
section TX
variable {tl : Nat} {tx : Nat → Int32} {i k s n w : Nat} {m : SM} {v : Nat → Nat}
theorem isD_dg (h : isD tl tx i = true) : i < tl ∧ tx i = nI (48 + dg tx i) ∧ dg tx i ≤ 9 := by
  unfold isD at h
  simp only [Bool.and_eq_true, decide_eq_true_eq] at h
  obtain ⟨h1, h2, h3⟩ := h
  refine ⟨h1, ?_⟩
  rcases nI_ex (tx i) with ⟨n, hn, e⟩ | hneg
  · rw [e] at h2 h3
    have h2 := (nI_leI (by decide) hn).mp h2
    have h3 := (nI_leI hn (by decide)).mp h3
    unfold dg
    rw [e, nI_clamp hn]
    exact ⟨by congr 1; omega, by omega⟩
  · exfalso
    have := lt_nI_neg hneg (n := 48) (by decide)
    rw [Int32.lt_iff_toInt_lt] at this
    rw [Int32.le_iff_toInt_le] at h2
    omega
theorem isD_not (h : isD tl tx i = false) (hi : i < tl) : tx i < nI 48 ∨ (¬ tx i < nI 48 ∧ nI 57 < tx i) := by
  unfold isD at h
  by_cases c : tx i < nI 48
  · exact Or.inl c
  · refine Or.inr ⟨c, ?_⟩
    have h1 : nI 48 ≤ tx i := by
      rw [Int32.lt_iff_toInt_lt] at c
      rw [Int32.le_iff_toInt_le]
      omega
    by_cases d : nI 57 < tx i
    · exact d
    · exfalso
      have h2 : tx i ≤ nI 57 := by
        rw [Int32.lt_iff_toInt_lt] at d
        rw [Int32.le_iff_toInt_le]
        omega
      simp [hi, h1, h2] at h
theorem num_lt {x : Nat × Nat} (h : num tl tx i = some x) : i < x.2 ∧ x.2 ≤ tl ∧ x.2 ≤ i + 3 ∧ x.1 ≤ 999 := by
  unfold num at h
  by_cases c : isD tl tx i = true
  · rw [if_pos c] at h
    obtain ⟨a1, a2, a3⟩ := isD_dg c
    by_cases d : dg tx i = 0
    · rw [if_pos d] at h
      cases h
      exact ⟨by simp, by simp; omega, by simp, by simp⟩
    · rw [if_neg d] at h
      by_cases e : isD tl tx (i + 1) = true
      · rw [if_pos e] at h
        obtain ⟨b1, b2, b3⟩ := isD_dg e
        by_cases f : isD tl tx (i + 2) = true
        · rw [if_pos f] at h
          obtain ⟨c1, c2, c3⟩ := isD_dg f
          cases h
          refine ⟨?_, ?_, ?_, ?_⟩ <;> dsimp only <;> omega
        · rw [if_neg f] at h
          cases h
          refine ⟨?_, ?_, ?_, ?_⟩ <;> dsimp only <;> omega
      · rw [if_neg e] at h
        cases h
        refine ⟨?_, ?_, ?_, ?_⟩ <;> dsimp only <;> omega
  · rw [if_neg c] at h
    cases h
/-- the text as the reference holds it -/
def TM (m : SM) (tl : Nat) (tx : Nat → Int32) : Prop := m 0 7 = nI tl ∧ ∀ i, i < tl → m 5 i = tx i
theorem TM.e {m m' : SM} (h : TM m tl tx) (s : SE m m') : TM m' tl tx := ⟨by rw [s.1.2.2.2.2.2.2]; exact h.1, by rw [s.1.2.2.2.1]; exact h.2⟩
theorem m1_ne {c : Nat} (hc : c < 2 ^ 31) : ¬ (-1 : Int32) = nI c := by
  intro h
  have h1 := congrArg Int32.toInt h
  rw [nI_toInt hc] at h1
  have h2 : (-1 : Int32).toInt = -1 := rfl
  omega
theorem letter_s (h : TM m tl tx) (ht : tl ≤ 80) (hk : k < 2 ^ 30) : f_X6_letter m (nI k) = some (if k < tl then tx k else -1) := by
  unfold f_X6_letter
  by_cases c : k < tl
  · rw [if_pos c]
    simp (disch := omega) only [ile_t, ile_f, ilt_t, ilt_f, ieq_t, ieq_f, gd_nI, gn_nI, gz_nI, b1_some, bd_some, lt1_eq, nI_add, nI_mul, nI_clamp, if_true, if_false, h.1, h.2 k c]
  · rw [if_neg c]
    simp (disch := omega) only [ile_t, ile_f, ilt_t, ilt_f, ieq_t, ieq_f, gd_nI, gn_nI, gz_nI, b1_some, bd_some, lt1_eq, nI_add, nI_mul, nI_clamp, if_true, if_false, h.1]
theorem isDigit_s (h : TM m tl tx) (ht : tl ≤ 80) (hk : k < 2 ^ 30) : f_X6_isDigit m (nI k) = some (if isD tl tx k = true then nI 1 else nI 0) := by
  have e := letter_s h ht hk
  unfold f_X6_isDigit
  cases c : isD tl tx k with
  | true =>
    obtain ⟨h1, h2, h3⟩ := isD_dg c
    rw [if_pos h1, h2] at e
    simp (disch := omega) only [ile_t, ile_f, ilt_t, ilt_f, ieq_t, ieq_f, gd_nI, gn_nI, gz_nI, b1_some, bd_some, lt1_eq, nI_add, nI_mul, nI_clamp, if_true, if_false, e]
  | false =>
    by_cases d : k < tl
    · rw [if_pos d] at e
      simp only [e, b1_some]
      rcases isD_not c d with h1 | ⟨h1, h2⟩
      · rw [if_pos h1]; rfl
      · rw [if_neg h1, if_pos h2]; rfl
    · rw [if_neg d] at e
      simp only [e, b1_some]
      rw [if_pos (by decide)]; rfl
/-- the reference's cursor: wrong, spot, how many values -/
def CU (m : SM) (w : Int32) (s n : Nat) : Prop := m 0 17 = w ∧ m 0 16 = nI s ∧ m 0 15 = nI n
theorem fail_ok (h : CU m (-5) s n) : ∃ m', f_X6_fail m = some (0, m') ∧ SE m m' ∧ m' 8 = m 8 ∧ CU m' (nI s) s n := by
  unfold f_X6_fail
  rw [h.1, i5_t, lt1_eq]
  refine ⟨_, rfl, SE.up0 (by decide), up_c (by decide), ?_, ?_, ?_⟩
  · rw [up_same]; exact h.2.1
  · rw [up_o (Or.inr (by decide))]; exact h.2.1
  · rw [up_o (Or.inr (by decide))]; exact h.2.2
theorem fail_bad (hw : w < 2 ^ 31) (h : CU m (nI w) s n) : ∃ m', f_X6_fail m = some (0, m') ∧ SE m m' ∧ m' 8 = m 8 ∧ CU m' (nI w) s n := by
  unfold f_X6_fail
  rw [h.1, i5_f hw, lt1_eq]
  refine ⟨_, rfl, SE.up0 (by decide), up_c (by decide), ?_, ?_, ?_⟩
  · rw [up_same]
  · rw [up_o (Or.inr (by decide))]; exact h.2.1
  · rw [up_o (Or.inr (by decide))]; exact h.2.2
theorem takes16 {m : SM} {w : Int32} {p0 : Int32} (h : CU m w s n) : ∃ m', f_X6_takes_L16 p0 m = some (0, m') ∧ SE m m' ∧ m' 8 = m 8 ∧ CU m' w (s + 1) n := by
  unfold f_X6_takes_L16
  rw [h.2.1, nI_add, lt1_eq]
  refine ⟨_, rfl, SE.up0 (by decide), up_c (by decide), ?_, up_same, ?_⟩
  · rw [up_o (Or.inr (by decide))]; exact h.1
  · rw [up_o (Or.inr (by decide))]; exact h.2.2
theorem takes_ok {c : Nat} (hT : TM m tl tx) (ht : tl ≤ 80) (hs : s < 2 ^ 30) (hc : c < 2 ^ 31) (h : CU m (-5) s n) : ∃ m', f_X6_takes m (nI c) = some (0, m') ∧ SE m m' ∧ m' 8 = m 8 ∧ CU m' (if isC tl tx s c = true then -5 else nI s) (s + 1) n := by
  have e := letter_s hT ht hs
  unfold f_X6_takes
  rw [h.2.1, e, b1_some]
  cases d : isC tl tx s c with
  | true =>
    unfold isC at d
    simp only [Bool.and_eq_true, decide_eq_true_eq] at d
    rw [if_pos d.1, if_pos d.2]
    exact takes16 h
  | false =>
    have hne : ¬ (if s < tl then tx s else -1) = nI c := by
      unfold isC at d
      by_cases f : s < tl
      · rw [if_pos f]
        simpa [f] using d
      · rw [if_neg f]
        exact m1_ne hc
    rw [if_neg hne]
    obtain ⟨m1, g1, g2, g3, g4⟩ := fail_ok h
    obtain ⟨m', p1, p2, p3, p4⟩ := takes16 (p0 := nI c) g4
    rw [g1, bd_some]
    exact ⟨m', p1, g2.tr p2, by rw [p3, g3], p4⟩
theorem takes_bad {c : Nat} (hT : TM m tl tx) (ht : tl ≤ 80) (hs : s < 2 ^ 30) (hw : w < 2 ^ 31) (h : CU m (nI w) s n) : ∃ m', f_X6_takes m (nI c) = some (0, m') ∧ SE m m' ∧ m' 8 = m 8 ∧ CU m' (nI w) (s + 1) n := by
  have e := letter_s hT ht hs
  unfold f_X6_takes
  rw [h.2.1, e, b1_some]
  by_cases d : (if s < tl then tx s else -1) = nI c
  · rw [if_pos d]
    exact takes16 h
  · rw [if_neg d]
    obtain ⟨m1, g1, g2, g3, g4⟩ := fail_bad hw h
    obtain ⟨m', p1, p2, p3, p4⟩ := takes16 (p0 := nI c) g4
    rw [g1, bd_some]
    exact ⟨m', p1, g2.tr p2, by rw [p3, g3], p4⟩
theorem tn72 {k33 : SM → Int32 → Int32 → Option (Int32 × SM)} {x1 : Int32} {x : Nat} (hT : TM m tl tx) (ht : tl ≤ 80) (h : CU m (-5) s n) (hd : isD tl tx s = true) : ∃ m', f_X6_takesNumber_L72 k33 m x1 (nI x) = k33 m' x1 (nI (10 * x + dg tx s)) ∧ SE m m' ∧ m' 8 = m 8 ∧ CU m' (-5) (s + 1) n := by
  obtain ⟨h1, h2, h3⟩ := isD_dg hd
  have e := letter_s (k := s) hT ht (by omega)
  rw [if_pos h1, h2] at e
  unfold f_X6_takesNumber_L72
  rw [h.2.1, e, b1_some, lt1_eq]
  refine ⟨up m 0 16 (nI s + nI 1), ?_, SE.up0 (by decide), up_c (by decide), ?_, ?_, ?_⟩
  · simp only [nI_mul, nI_add]
    rw [nI_sub (by omega)]
    congr 2
    omega
  · rw [up_o (Or.inr (by decide))]; exact h.1
  · rw [up_same, nI_add]
  · rw [up_o (Or.inr (by decide))]; exact h.2.2
theorem number_ok (hT : TM m tl tx) (ht : tl ≤ 80) (hs : s < 2 ^ 29) (h : CU m (-5) s n) : match num tl tx s with
    | none => ∃ m', f_X6_takesNumber m = some (nI 0, m') ∧ SE m m' ∧ m' 8 = m 8 ∧ CU m' (nI s) s n
    | some x => ∃ m', f_X6_takesNumber m = some (nI x.1, m') ∧ SE m m' ∧ m' 8 = m 8 ∧ CU m' (-5) x.2 n := by
  have e0 := isDigit_s (k := s) hT ht (by omega)
  unfold f_X6_takesNumber num
  rw [h.1, i5_t, h.2.1]
  cases c : isD tl tx s with
  | false =>
    rw [c] at e0
    simp only [e0, b1_some]
    obtain ⟨m1, g1, g2, g3, g4⟩ := fail_ok h
    simp only [Bool.false_eq_true, if_false, if_true, g1, bd_some]
    exact ⟨m1, rfl, g2, g3, g4⟩
  | true =>
    obtain ⟨h1, h2, h3⟩ := isD_dg c
    rw [c, if_pos rfl] at e0
    simp (disch := omega) only [ile_t, ile_f, ilt_t, ilt_f, ieq_t, ieq_f, gd_nI, gn_nI, gz_nI, b1_some, bd_some, lt1_eq, nI_add, nI_mul, nI_clamp, if_true, if_false, e0]
    rw [show FU = 996 + 1 + 1 + 1 + 1 from rfl, f_X6_takesNumber_L33.eq_2]
    have ez : nI s - nI s = nI 0 := by rw [nI_sub (Nat.le_refl s), Nat.sub_self]
    simp (disch := omega) only [ile_t, ile_f, ilt_t, ilt_f, ieq_t, ieq_f, gd_nI, gn_nI, gz_nI, b1_some, bd_some, lt1_eq, nI_add, nI_mul, nI_clamp, if_true, if_false, h.2.1, e0, ez]
    obtain ⟨m1, g1, g2, g3, g4⟩ := tn72 (k33 := f_X6_takesNumber_L33 (996 + 1 + 1 + 1)) (x1 := nI s) (x := 0) hT ht h c
    rw [g1, f_X6_takesNumber_L33.eq_2]
    have hT1 := hT.e g2
    have e1 := isDigit_s (k := s + 1) hT1 ht (by omega)
    have l0 := letter_s (k := s) hT1 ht (by omega)
    rw [if_pos h1, h2] at l0
    have ed : 10 * 0 + dg tx s = dg tx s := by omega
    rw [ed]
    have f1 : nI (s + 1) - nI s = nI 1 := by rw [nI_sub (by omega)]; congr 1; omega
    by_cases z : dg tx s = 0
    · rw [if_pos z]
      rw [z] at l0 ⊢
      refine ⟨m1, ?_, g2, g3, g4⟩
      cases d : isD tl tx (s + 1) with
      | false =>
        rw [d] at e1
        simp only [Bool.false_eq_true, if_false] at e1
        simp (disch := omega) only [ile_t, ile_f, ilt_t, ilt_f, ieq_t, ieq_f, gd_nI, gn_nI, gz_nI, b1_some, bd_some, lt1_eq, nI_add, nI_mul, nI_clamp, if_true, if_false, g4.2.1, e1]
      | true =>
        rw [d] at e1
        simp only [if_true] at e1
        simp (disch := omega) only [ile_t, ile_f, ilt_t, ilt_f, ieq_t, ieq_f, gd_nI, gn_nI, gz_nI, b1_some, bd_some, lt1_eq, nI_add, nI_mul, nI_clamp, if_true, if_false, g4.2.1, e1, f1, l0]
    · rw [if_neg z]
      cases d : isD tl tx (s + 1) with
      | false =>
        rw [d] at e1
        simp only [Bool.false_eq_true, if_false] at e1
        simp only [Bool.false_eq_true, if_false]
        refine ⟨m1, ?_, g2, g3, g4⟩
        simp (disch := omega) only [ile_t, ile_f, ilt_t, ilt_f, ieq_t, ieq_f, gd_nI, gn_nI, gz_nI, b1_some, bd_some, lt1_eq, nI_add, nI_mul, nI_clamp, if_true, if_false, g4.2.1, e1]
      | true =>
        obtain ⟨i1, i2, i3⟩ := isD_dg d
        rw [d] at e1
        simp only [if_true] at e1
        simp (disch := omega) only [ile_t, ile_f, ilt_t, ilt_f, ieq_t, ieq_f, gd_nI, gn_nI, gz_nI, b1_some, bd_some, lt1_eq, nI_add, nI_mul, nI_clamp, if_true, if_false, g4.2.1, e1, f1, l0]
        obtain ⟨m2, p1, p2, p3, p4⟩ := tn72 (k33 := f_X6_takesNumber_L33 (996 + 1 + 1)) (x1 := nI s) (x := dg tx s) hT1 ht g4 d
        rw [p1, f_X6_takesNumber_L33.eq_2]
        have hT2 := hT1.e p2
        have e2 := isDigit_s (k := s + 2) hT2 ht (by omega)
        have l1 := letter_s (k := s) hT2 ht (by omega)
        rw [if_pos h1, h2] at l1
        have f2 : nI (s + 1 + 1) - nI s = nI 2 := by rw [nI_sub (by omega)]; congr 1; omega
        cases f : isD tl tx (s + 2) with
        | false =>
          rw [f] at e2
          simp only [Bool.false_eq_true, if_false] at e2
          simp only [Bool.false_eq_true, if_false]
          refine ⟨m2, ?_, g2.tr p2, by rw [p3, g3], p4⟩
          simp (disch := omega) only [ile_t, ile_f, ilt_t, ilt_f, ieq_t, ieq_f, gd_nI, gn_nI, gz_nI, b1_some, bd_some, lt1_eq, nI_add, nI_mul, nI_clamp, if_true, if_false, p4.2.1, e2]
        | true =>
          obtain ⟨j1, j2, j3⟩ := isD_dg f
          rw [f] at e2
          simp only [if_true] at e2
          simp (disch := omega) only [ile_t, ile_f, ilt_t, ilt_f, ieq_t, ieq_f, gd_nI, gn_nI, gz_nI, b1_some, bd_some, lt1_eq, nI_add, nI_mul, nI_clamp, if_true, if_false, p4.2.1, e2, f2, l1]
          obtain ⟨m3, r1, r2, r3, r4⟩ := tn72 (k33 := f_X6_takesNumber_L33 (996 + 1)) (x1 := nI s) (x := 10 * dg tx s + dg tx (s + 1)) hT2 ht p4 f
          rw [r1, f_X6_takesNumber_L33.eq_2]
          have hT3 := hT2.e r2
          have e3 := isDigit_s (k := s + 1 + 1 + 1) hT3 ht (by omega)
          have f3 : nI (s + 1 + 1 + 1) - nI s = nI 3 := by rw [nI_sub (by omega)]; congr 1; omega
          refine ⟨m3, ?_, (g2.tr p2).tr r2, by rw [r3, p3, g3], r4⟩
          cases o : isD tl tx (s + 1 + 1 + 1) with
          | false =>
            rw [o] at e3
            simp only [Bool.false_eq_true, if_false] at e3
            simp (disch := omega) only [ile_t, ile_f, ilt_t, ilt_f, ieq_t, ieq_f, gd_nI, gn_nI, gz_nI, b1_some, bd_some, lt1_eq, nI_add, nI_mul, nI_clamp, if_true, if_false, r4.2.1, e3]
          | true =>
            rw [o] at e3
            simp only [if_true] at e3
            simp (disch := omega) only [ile_t, ile_f, ilt_t, ilt_f, ieq_t, ieq_f, gd_nI, gn_nI, gz_nI, b1_some, bd_some, lt1_eq, nI_add, nI_mul, nI_clamp, if_true, if_false, r4.2.1, e3, f3]
theorem number_bad (hw : w < 2 ^ 31) (h : CU m (nI w) s n) : ∃ m', f_X6_takesNumber m = some (nI 0, m') ∧ SE m m' ∧ m' 8 = m 8 ∧ CU m' (nI w) s n := by
  unfold f_X6_takesNumber
  obtain ⟨m1, g1, g2, g3, g4⟩ := fail_bad hw h
  rw [h.1, i5_f hw, g1, bd_some]
  exact ⟨m1, rfl, g2, g3, g4⟩
end TX
