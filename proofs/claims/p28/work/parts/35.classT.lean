/-! THE CLASS: how it reads a text -/
def TC (m : SM) (tl : Nat) (tx : Nat → Int32) : Prop := m 0 2 = nI tl ∧ ∀ i, i < tl → m 1 i = tx i
/-- only the place moved, to s -/
def AT (m m' : SM) (s : Nat) : Prop := m' 0 3 = nI s ∧ (∀ c, c ≠ 0 → m' c = m c) ∧ ∀ k, k ≠ 3 → m' 0 k = m 0 k
/-- what a reading of values changes -/
def VF (m m' : SM) : Prop := m' 1 = m 1 ∧ m' 0 2 = m 0 2 ∧ m' 0 4 = m 0 4 ∧ m' 0 5 = m 0 5 ∧ m' 0 6 = m 0 6
section CT
variable {tl : Nat} {tx : Nat → Int32} {i k s n w c : Nat} {m : SM} {v : Nat → Nat}
theorem AT.tr {m m1 m2 : SM} {s1 : Nat} (h : AT m m1 s1) (h2 : AT m1 m2 s) : AT m m2 s :=
  ⟨h2.1, fun c hc => by rw [h2.2.1 c hc, h.2.1 c hc], fun k hk => by rw [h2.2.2 k hk, h.2.2 k hk]⟩
theorem AT.rf (h : m 0 3 = nI s) : AT m m s := ⟨h, fun _ _ => rfl, fun _ _ => rfl⟩
theorem AT.up : AT m (up m 0 3 (nI s)) s := ⟨up_same, fun c hc => up_c hc, fun k hk => up_o (Or.inr hk)⟩
theorem AT.vf {m m' : SM} (h : AT m m' s) : VF m m' := ⟨h.2.1 1 (by decide), h.2.2 2 (by decide), h.2.2 4 (by decide), h.2.2 5 (by decide), h.2.2 6 (by decide)⟩
theorem VF.tr {m m1 m2 : SM} (h : VF m m1) (h2 : VF m1 m2) : VF m m2 := by
  obtain ⟨a1, a2, a3, a4, a5⟩ := h
  obtain ⟨b1, b2, b3, b4, b5⟩ := h2
  exact ⟨b1.trans a1, b2.trans a2, b3.trans a3, b4.trans a4, b5.trans a5⟩
theorem TC.fr {m m' : SM} (h : TC m tl tx) (h1 : m' 1 = m 1) (h2 : m' 0 2 = m 0 2) : TC m' tl tx := ⟨by rw [h2]; exact h.1, by rw [h1]; exact h.2⟩
theorem TC.at {m m' : SM} (h : TC m tl tx) (a : AT m m' s) : TC m' tl tx := h.fr (a.2.1 1 (by decide)) (a.2.2 2 (by decide))
theorem TC.vf {m m' : SM} (h : TC m tl tx) (a : VF m m') : TC m' tl tx := h.fr a.1 a.2.1
theorem dig_t (hT : TC m tl tx) (ht : tl ≤ 80) (ha : m 0 3 = nI s) (hd : isD tl tx s = true) (hc : dg tx s ≤ c) (hc9 : c ≤ 9) : f_X1_takeDigit m (nI 48) (nI (48 + c)) = some (nI (dg tx s), up m 0 3 (nI (s + 1))) := by
  obtain ⟨h1, h2, h3⟩ := isD_dg hd
  have h4 := hT.2 s h1
  rw [h2] at h4
  have e : nI (48 + dg tx s) - nI 48 = nI (dg tx s) := by rw [nI_sub (by omega), Nat.add_sub_cancel_left]
  unfold f_X1_takeDigit
  simp (disch := omega) only [ile_t, ile_f, ilt_t, ilt_f, ieq_t, ieq_f, gd_nI, gn_nI, gz_nI, b1_some, bd_some, lt1_eq, nI_add, nI_mul, nI_clamp, if_true, if_false, ha, hT.1, h4, e]
theorem dig_f (hT : TC m tl tx) (ht : tl ≤ 80) (ha : m 0 3 = nI s) (hs : s < 2 ^ 30) (hc9 : c ≤ 9) (hd : ¬ (isD tl tx s = true ∧ dg tx s ≤ c)) : f_X1_takeDigit m (nI 48) (nI (48 + c)) = some (-1, m) := by
  unfold f_X1_takeDigit
  by_cases h1 : s < tl
  · have h4 := hT.2 s h1
    cases e : isD tl tx s with
    | true =>
      obtain ⟨-, h2, h3⟩ := isD_dg e
      have h5 : ¬ dg tx s ≤ c := fun z => hd ⟨e, z⟩
      rw [h2] at h4
      simp (disch := omega) only [ile_t, ile_f, ilt_t, ilt_f, ieq_t, ieq_f, gd_nI, gn_nI, gz_nI, b1_some, bd_some, lt1_eq, nI_add, nI_mul, nI_clamp, if_true, if_false, ha, hT.1, h4]
    | false =>
      simp (disch := omega) only [ile_t, ile_f, ilt_t, ilt_f, ieq_t, ieq_f, gd_nI, gn_nI, gz_nI, b1_some, bd_some, lt1_eq, nI_add, nI_mul, nI_clamp, if_true, if_false, ha, hT.1, h4]
      rcases isD_not e h1 with h | ⟨h, h2⟩
      · rw [if_pos h]
      · rw [if_neg h, if_neg (fun z => by
          rw [Int32.le_iff_toInt_le, nI_toInt (by omega)] at z
          rw [Int32.lt_iff_toInt_lt, nI_toInt (by omega)] at h2
          omega)]
  · simp (disch := omega) only [ile_t, ile_f, ilt_t, ilt_f, ieq_t, ieq_f, gd_nI, gn_nI, gz_nI, b1_some, bd_some, lt1_eq, nI_add, nI_mul, nI_clamp, if_true, if_false, ha, hT.1]
theorem sig_t (hT : TC m tl tx) (ht : tl ≤ 80) (ha : m 0 3 = nI s) (hc : isC tl tx s c = true) : f_X1_takeSign m (nI c) = some (nI 1, up m 0 3 (nI (s + 1))) := by
  unfold isC at hc
  rw [Bool.and_eq_true, decide_eq_true_eq, decide_eq_true_eq] at hc
  have h4 := hT.2 s hc.1
  rw [hc.2] at h4
  have h1 := hc.1
  unfold f_X1_takeSign
  simp (disch := omega) only [ile_t, ile_f, ilt_t, ilt_f, ieq_t, ieq_f, gd_nI, gn_nI, gz_nI, b1_some, bd_some, lt1_eq, nI_add, nI_mul, nI_clamp, if_true, if_false, ha, hT.1, h4]
theorem sig_f (hT : TC m tl tx) (ht : tl ≤ 80) (ha : m 0 3 = nI s) (hs : s < 2 ^ 30) (hc : ¬ isC tl tx s c = true) : f_X1_takeSign m (nI c) = some (nI 0, m) := by
  unfold f_X1_takeSign
  by_cases h1 : s < tl
  · have h4 := hT.2 s h1
    have h5 : ¬ tx s = nI c := fun z => hc (by unfold isC; rw [decide_eq_true h1, decide_eq_true z]; rfl)
    simp (disch := omega) only [ile_t, ile_f, ilt_t, ilt_f, ieq_t, ieq_f, gd_nI, gn_nI, gz_nI, b1_some, bd_some, lt1_eq, nI_add, nI_mul, nI_clamp, if_true, if_false, ha, hT.1, h4]
    rw [if_neg h5]
  · simp (disch := omega) only [ile_t, ile_f, ilt_t, ilt_f, ieq_t, ieq_f, gd_nI, gn_nI, gz_nI, b1_some, bd_some, lt1_eq, nI_add, nI_mul, nI_clamp, if_true, if_false, ha, hT.1]
theorem m1_le : (-1 : Int32) ≤ nI 0 := by decide
theorem m1_nle : ¬ nI 0 ≤ (-1 : Int32) := by decide
theorem m1_lt : (-1 : Int32) < nI 0 := by decide
theorem numC_none (hT : TC m tl tx) (ht : tl ≤ 80) (ha : m 0 3 = nI s) (hs : s < 2 ^ 30) (h : num tl tx s = none) : f_X1_takeNumber m = some (-1, m) := by
  have hd : isD tl tx s = false := by
    cases e : isD tl tx s with
    | false => rfl
    | true =>
      unfold num at h
      rw [if_pos e] at h
      repeat' split at h
      all_goals cases h
  have e := dig_f (c := 9) hT ht ha hs (by decide) (by rw [hd]; simp)
  have e : f_X1_takeDigit m (nI 48) (nI 57) = some (-1, m) := e
  unfold f_X1_takeNumber
  rw [e, bd_some, show FU = 999 + 1 from rfl, f_X1_takeNumber_L11.eq_2, ile_f (by decide) (by decide), if_pos m1_le]
theorem numC_some {x : Nat × Nat} (hT : TC m tl tx) (ht : tl ≤ 80) (ha : m 0 3 = nI s) (h : num tl tx s = some x) : ∃ m', f_X1_takeNumber m = some (nI x.1, m') ∧ AT m m' x.2 := by
  unfold num at h
  by_cases d0 : isD tl tx s = true
  · rw [if_pos d0] at h
    obtain ⟨h1, h2, h3⟩ := isD_dg d0
    have e0 : f_X1_takeDigit m (nI 48) (nI 57) = some (nI (dg tx s), up m 0 3 (nI (s + 1))) := dig_t (c := 9) hT ht ha d0 h3 (by decide)
    have hT1 : TC (up m 0 3 (nI (s + 1))) tl tx := hT.at AT.up
    unfold f_X1_takeNumber
    rw [e0, bd_some, show FU = 997 + 1 + 1 + 1 from rfl, f_X1_takeNumber_L11.eq_2, ile_f (by decide) (by decide)]
    by_cases z : dg tx s = 0
    · rw [if_pos z] at h
      cases h
      rw [z, ile_t (by decide) (by decide)]
      exact ⟨_, rfl, AT.up⟩
    · rw [if_neg z] at h
      rw [ile_f (by omega) (by omega)]
      by_cases d1 : isD tl tx (s + 1) = true
      · rw [if_pos d1] at h
        obtain ⟨g1, g2, g3⟩ := isD_dg d1
        have e1 : f_X1_takeDigit (up m 0 3 (nI (s + 1))) (nI 48) (nI 57) = some (nI (dg tx (s + 1)), up (up m 0 3 (nI (s + 1))) 0 3 (nI (s + 1 + 1))) := dig_t (c := 9) hT1 ht up_same d1 g3 (by decide)
        have hT2 : TC (up (up m 0 3 (nI (s + 1))) 0 3 (nI (s + 1 + 1))) tl tx := hT1.at AT.up
        rw [e1, bd_some, ile_t (Nat.zero_le _) (by omega), nI_mul, nI_add, nI_add, f_X1_takeNumber_L11.eq_2, ile_f (by decide) (by decide), ile_f (by omega) (by omega)]
        by_cases d2 : isD tl tx (s + 2) = true
        · rw [if_pos d2] at h
          cases h
          obtain ⟨w1, w2, w3⟩ := isD_dg d2
          have e2 : f_X1_takeDigit (up (up m 0 3 (nI (s + 1))) 0 3 (nI (s + 1 + 1))) (nI 48) (nI 57) = some (nI (dg tx (s + 2)), up (up (up m 0 3 (nI (s + 1))) 0 3 (nI (s + 1 + 1))) 0 3 (nI (s + 2 + 1))) := dig_t (c := 9) hT2 ht up_same d2 w3 (by decide)
          rw [e2, bd_some, ile_t (Nat.zero_le _) (by omega), nI_mul, nI_add, nI_add, f_X1_takeNumber_L11.eq_2, ile_t (by decide) (by decide)]
          exact ⟨_, rfl, (AT.up.tr AT.up).tr AT.up⟩
        · rw [if_neg d2] at h
          cases h
          have e2 : f_X1_takeDigit (up (up m 0 3 (nI (s + 1))) 0 3 (nI (s + 1 + 1))) (nI 48) (nI 57) = some (-1, up (up m 0 3 (nI (s + 1))) 0 3 (nI (s + 1 + 1))) := dig_f (c := 9) hT2 ht up_same (by omega) (by decide) (fun q => d2 q.1)
          rw [e2, bd_some, if_neg m1_nle]
          exact ⟨_, rfl, AT.up.tr AT.up⟩
      · rw [if_neg d1] at h
        cases h
        have e1 : f_X1_takeDigit (up m 0 3 (nI (s + 1))) (nI 48) (nI 57) = some (-1, up m 0 3 (nI (s + 1))) := dig_f (c := 9) hT1 ht up_same (by omega) (by decide) (fun q => d1 q.1)
        rw [e1, bd_some, if_neg m1_nle]
        exact ⟨_, rfl, AT.up⟩
  · rw [if_neg d0] at h
    cases h
/-- what the class holds behind its values -/
def VP (m m' : SM) (r : Nat ⊕ (Nat × (Nat → Nat))) : Prop := match r with
  | .inl f => m' 0 3 = nI f
  | .inr x => m' 0 7 = nI x.1 ∧ ∀ q, q < x.1 → m' 2 q = nI (x.2 q)
def vR (r : Nat ⊕ (Nat × (Nat → Nat))) : Int32 := match r with
  | .inl _ => nI 0
  | .inr _ => nI 1
theorem valC_L (ht : tl ≤ 80) : ∀ (j n k i : Nat) (m : SM) (v : Nat → Nat), j + 1 + k = 16 → j < n → i < 2 ^ 28 → TC m tl tx → m 0 3 = nI i → m 0 7 = nI k → (∀ q, q < k → m 2 q = nI (v q)) → ∃ m', f_X1_takeValues_L28 (f_X1_takeValues_L7 n) m (nI k) = some (vR (pV tl tx (j + 1) k i v), m') ∧ VF m m' ∧ VP m m' (pV tl tx (j + 1) k i v) := by
  intro j
  induction j with
  | zero =>
    intro n k i m v hk hn hi hT ha h7 hV
    obtain ⟨n, rfl⟩ : ∃ n', n = n' + 1 := ⟨n - 1, by omega⟩
    have k15 : k = 15 := by omega
    subst k15
    unfold f_X1_takeValues_L28
    cases e : num tl tx i with
    | none =>
      have ep : pV tl tx (0 + 1) 15 i v = .inl i := by unfold pV; rw [e]
      rw [ep, numC_none hT ht ha (by omega) e, bd_some, if_neg m1_nle]
      exact ⟨m, rfl, (AT.rf ha).vf, ha⟩
    | some x =>
      obtain ⟨m1, g1, g2⟩ := numC_some hT ht ha e
      have hx := num_lt e
      rw [g1, bd_some, ile_t (Nat.zero_le _) (by omega), gd_nI (by decide) (by decide), nI_clamp (by decide)]
      have e7 : up m1 2 15 (nI x.1) 0 7 = nI 15 := by rw [up_c (by decide), g2.2.2 7 (by decide)]; exact h7
      simp only [lt1_eq, e7]
      generalize hm2 : up (up m1 2 15 (nI x.1)) 0 7 (nI 15 + nI 1) = m2
      have q3 : m2 0 3 = nI x.2 := by rw [← hm2, up_o (Or.inr (by decide)), up_c (by decide)]; exact g2.1
      have q2 : m2 0 2 = nI tl := by rw [← hm2, up_o (Or.inr (by decide)), up_c (by decide), g2.2.2 2 (by decide)]; exact hT.1
      have q7 : m2 0 7 = nI (15 + 1) := by rw [← hm2, up_same, nI_add]
      have qf : VF m m2 := by
        rw [← hm2]
        exact ⟨by rw [up_c (by decide), up_c (by decide)]; exact g2.2.1 1 (by decide), by rw [up_o (Or.inr (by decide)), up_c (by decide)]; exact g2.2.2 2 (by decide), by rw [up_o (Or.inr (by decide)), up_c (by decide)]; exact g2.2.2 4 (by decide), by rw [up_o (Or.inr (by decide)), up_c (by decide)]; exact g2.2.2 5 (by decide), by rw [up_o (Or.inr (by decide)), up_c (by decide)]; exact g2.2.2 6 (by decide)⟩
      have qv : ∀ q, q < 15 + 1 → m2 2 q = nI (upV v 15 x.1 q) := fun q hq => by
        rw [← hm2, up_c (by decide)]
        unfold upV
        by_cases d : q = 15
        · subst d; rw [up_same, if_pos rfl]
        · rw [up_o (Or.inr d), if_neg d, g2.2.1 2 (by decide)]
          exact hV q (by omega)
      rw [q3, q2]
      by_cases d : tl ≤ x.2
      · have ep : pV tl tx (0 + 1) 15 i v = .inr (15 + 1, upV v 15 x.1) := by unfold pV; rw [e]; simp only [if_pos d]
        rw [ep, ilt_f d (by omega)]
        exact ⟨m2, rfl, qf, q7, qv⟩
      · have ep : pV tl tx (0 + 1) 15 i v = .inl x.2 := by unfold pV; rw [e]; simp only [if_neg d, if_true]
        rw [ep, ilt_t (by omega) (by omega), nI_add, f_X1_takeValues_L7.eq_2, ile_t (by decide) (by decide)]
        exact ⟨m2, rfl, qf, q3⟩
  | succ j ih =>
    intro n k i m v hk hn hi hT ha h7 hV
    obtain ⟨n, rfl⟩ : ∃ n', n = n' + 1 := ⟨n - 1, by omega⟩
    unfold f_X1_takeValues_L28
    cases e : num tl tx i with
    | none =>
      have ep : pV tl tx (j + 1 + 1) k i v = .inl i := by unfold pV; rw [e]
      rw [ep, numC_none hT ht ha (by omega) e, bd_some, if_neg m1_nle]
      exact ⟨m, rfl, (AT.rf ha).vf, ha⟩
    | some x =>
      obtain ⟨m1, g1, g2⟩ := numC_some hT ht ha e
      have hx := num_lt e
      rw [g1, bd_some, ile_t (Nat.zero_le _) (by omega), gd_nI (by omega) (by decide), nI_clamp (by omega)]
      have e7 : up m1 2 k (nI x.1) 0 7 = nI k := by rw [up_c (by decide), g2.2.2 7 (by decide)]; exact h7
      simp only [lt1_eq, e7]
      generalize hm2 : up (up m1 2 k (nI x.1)) 0 7 (nI k + nI 1) = m2
      have q3 : m2 0 3 = nI x.2 := by rw [← hm2, up_o (Or.inr (by decide)), up_c (by decide)]; exact g2.1
      have q2 : m2 0 2 = nI tl := by rw [← hm2, up_o (Or.inr (by decide)), up_c (by decide), g2.2.2 2 (by decide)]; exact hT.1
      have q7 : m2 0 7 = nI (k + 1) := by rw [← hm2, up_same, nI_add]
      have qf : VF m m2 := by
        rw [← hm2]
        exact ⟨by rw [up_c (by decide), up_c (by decide)]; exact g2.2.1 1 (by decide), by rw [up_o (Or.inr (by decide)), up_c (by decide)]; exact g2.2.2 2 (by decide), by rw [up_o (Or.inr (by decide)), up_c (by decide)]; exact g2.2.2 4 (by decide), by rw [up_o (Or.inr (by decide)), up_c (by decide)]; exact g2.2.2 5 (by decide), by rw [up_o (Or.inr (by decide)), up_c (by decide)]; exact g2.2.2 6 (by decide)⟩
      have qv : ∀ q, q < k + 1 → m2 2 q = nI (upV v k x.1 q) := fun q hq => by
        rw [← hm2, up_c (by decide)]
        unfold upV
        by_cases d : q = k
        · subst d; rw [up_same, if_pos rfl]
        · rw [up_o (Or.inr d), if_neg d, g2.2.1 2 (by decide)]
          exact hV q (by omega)
      have hT2 := hT.vf qf
      rw [q3, q2]
      by_cases d : tl ≤ x.2
      · have ep : pV tl tx (j + 1 + 1) k i v = .inr (k + 1, upV v k x.1) := by unfold pV; rw [e]; simp only [if_pos d]
        rw [ep, ilt_f d (by omega)]
        exact ⟨m2, rfl, qf, q7, qv⟩
      · rw [ilt_t (by omega) (by omega), nI_add, f_X1_takeValues_L7.eq_2, ile_f (by omega) (by decide), ile_f (by omega) (by omega)]
        have jn : ¬ j + 1 = 0 := by omega
        by_cases f : isC tl tx x.2 44 = true
        · have ep : pV tl tx (j + 1 + 1) k i v = pV tl tx (j + 1) (k + 1) (x.2 + 1) (upV v k x.1) := by
            conv => lhs; unfold pV
            rw [e]
            simp only [if_neg d, if_neg jn, if_pos f]
          rw [ep, sig_t hT2 ht q3 f, bd_some, ieq_f (by decide) (by decide) (by decide)]
          have a2 : AT m2 (up m2 0 3 (nI (x.2 + 1))) (x.2 + 1) := AT.up
          obtain ⟨m', p1, p2, p3⟩ := ih n (k + 1) (x.2 + 1) (up m2 0 3 (nI (x.2 + 1))) (upV v k x.1) (by omega) (by omega) (by omega) (hT2.at a2) up_same (by rw [a2.2.2 7 (by decide)]; exact q7) (fun q hq => by rw [a2.2.1 2 (by decide)]; exact qv q hq)
          exact ⟨m', p1, (qf.tr a2.vf).tr p2, p3⟩
        · have ep : pV tl tx (j + 1 + 1) k i v = .inl x.2 := by
            unfold pV
            rw [e]
            simp only [if_neg d, if_neg jn, if_neg f]
          rw [ep, sig_f hT2 ht q3 (by omega) f, bd_some, ieq_t rfl]
          exact ⟨m2, rfl, qf, q3⟩
theorem valsC_s (ht : tl ≤ 80) (hi : i < 2 ^ 28) (hT : TC m tl tx) (ha : m 0 3 = nI i) : ∃ m', f_X1_takeValues m = some (vR (pV tl tx 16 0 i (fun _ => 0)), m') ∧ VF m m' ∧ VP m m' (pV tl tx 16 0 i (fun _ => 0)) := by
  unfold f_X1_takeValues
  rw [lt1_eq, show FU = 999 + 1 from rfl, f_X1_takeValues_L7.eq_2, ile_f (by decide) (by decide), ile_t (by decide) (by decide)]
  have f0 : VF m (up m 0 7 (nI 0)) := ⟨up_c (by decide), up_o (Or.inr (by decide)), up_o (Or.inr (by decide)), up_o (Or.inr (by decide)), up_o (Or.inr (by decide))⟩
  obtain ⟨m', p1, p2, p3⟩ := valC_L ht 15 999 0 i (up m 0 7 (nI 0)) (fun _ => 0) (by decide) (by decide) hi (hT.vf f0) (by rw [up_o (Or.inr (by decide))]; exact ha) up_same (fun q hq => by omega)
  exact ⟨m', p1, f0.tr p2, p3⟩
/-- what the class holds behind a text -/
def PK (m' : SM) (r : Nat ⊕ (Nat × Nat × Nat × Nat × (Nat → Nat))) : Prop := match r with
  | .inl f => m' 0 3 = nI f
  | .inr x => m' 0 4 = nI x.1 ∧ m' 0 5 = nI x.2.1 ∧ m' 0 6 = nI x.2.2.1 ∧ m' 0 7 = nI x.2.2.2.1 ∧ ∀ q, q < x.2.2.2.1 → m' 2 q = nI (x.2.2.2.2 q)
def pR (r : Nat ⊕ (Nat × Nat × Nat × Nat × (Nat → Nat))) : Int32 := match r with
  | .inl _ => nI 0
  | .inr _ => nI 1
theorem parse_s (ht : tl ≤ 80) (hT : TC m tl tx) : ∃ m', f_X1_parse m = some (pR (pP tl tx), m') ∧ TC m' tl tx ∧ PK m' (pP tl tx) := by
  unfold f_X1_parse
  rw [lt1_eq]
  have hT0 : TC (up m 0 3 (nI 0)) tl tx := hT.at AT.up
  by_cases c0 : isD tl tx 0 = true ∧ dg tx 0 ≤ 3
  · have e0 : f_X1_takeDigit (up m 0 3 (nI 0)) (nI 48) (nI 51) = some (nI (dg tx 0), up (up m 0 3 (nI 0)) 0 3 (nI (0 + 1))) := dig_t (c := 3) hT0 ht up_same c0.1 c0.2 (by decide)
    rw [e0, bd_some, lt1_eq, up_same, ilt_f (Nat.zero_le _) (by omega)]
    generalize hm1 : up (up (up m 0 3 (nI 0)) 0 3 (nI (0 + 1))) 0 4 (nI (dg tx 0)) = m1
    have t1 : TC m1 tl tx := hT0.fr (by rw [← hm1, up_c (by decide), up_c (by decide)]) (by rw [← hm1, up_o (Or.inr (by decide)), up_o (Or.inr (by decide))])
    have a1 : m1 0 3 = nI 1 := by rw [← hm1, up_o (Or.inr (by decide)), up_same]
    have l1 : m1 0 4 = nI (dg tx 0) := by rw [← hm1, up_same]
    by_cases c1 : isC tl tx 1 58 = true
    · rw [sig_t t1 ht a1 c1, bd_some, ieq_f (by decide) (by decide) (by decide)]
      generalize hm2 : up m1 0 3 (nI (1 + 1)) = m2
      have f2 : AT m1 m2 2 := by rw [← hm2]; exact AT.up
      have t2 := t1.at f2
      cases e : num tl tx 2 with
      | none =>
        have ep : pP tl tx = .inl 2 := by unfold pP; simp only [if_pos c0, if_pos c1, e]
        rw [ep, numC_none t2 ht f2.1 (by decide) e, bd_some, lt1_eq, up_same, if_pos m1_lt]
        exact ⟨_, rfl, t2.fr (up_c (by decide)) (up_o (Or.inr (by decide))), by show up m2 0 5 (-1) 0 3 = nI 2; rw [up_o (Or.inr (by decide))]; exact f2.1⟩
      | some x =>
        obtain ⟨m3, g1, g2⟩ := numC_some t2 ht f2.1 e
        have hx := num_lt e
        rw [g1, bd_some, lt1_eq, up_same, ilt_f (Nat.zero_le _) (by omega)]
        generalize hm4 : up m3 0 5 (nI x.1) = m4
        have t4 : TC m4 tl tx := (t2.at g2).fr (by rw [← hm4, up_c (by decide)]) (by rw [← hm4, up_o (Or.inr (by decide))])
        have a4 : m4 0 3 = nI x.2 := by rw [← hm4, up_o (Or.inr (by decide))]; exact g2.1
        have l4 : m4 0 4 = nI (dg tx 0) := by rw [← hm4, up_o (Or.inr (by decide)), g2.2.2 4 (by decide), f2.2.2 4 (by decide)]; exact l1
        have b4 : m4 0 5 = nI x.1 := by rw [← hm4, up_same]
        by_cases c2 : isC tl tx x.2 45 = true
        · rw [sig_t t4 ht a4 c2, bd_some, ieq_f (by decide) (by decide) (by decide)]
          generalize hm5 : up m4 0 3 (nI (x.2 + 1)) = m5
          have f5 : AT m4 m5 (x.2 + 1) := by rw [← hm5]; exact AT.up
          have t5 := t4.at f5
          cases e2 : num tl tx (x.2 + 1) with
          | none =>
            have ep : pP tl tx = .inl (x.2 + 1) := by unfold pP; simp only [if_pos c0, if_pos c1, e, if_pos c2, e2]
            rw [ep, numC_none t5 ht f5.1 (by omega) e2, bd_some, lt1_eq, up_same, if_pos m1_lt]
            exact ⟨_, rfl, t5.fr (up_c (by decide)) (up_o (Or.inr (by decide))), by show up m5 0 6 (-1) 0 3 = nI (x.2 + 1); rw [up_o (Or.inr (by decide))]; exact f5.1⟩
          | some y =>
            obtain ⟨m6, g3, g4⟩ := numC_some t5 ht f5.1 e2
            have hy := num_lt e2
            rw [g3, bd_some, lt1_eq, up_same, ilt_f (Nat.zero_le _) (by omega)]
            generalize hm7 : up m6 0 6 (nI y.1) = m7
            have t7 : TC m7 tl tx := (t5.at g4).fr (by rw [← hm7, up_c (by decide)]) (by rw [← hm7, up_o (Or.inr (by decide))])
            have a7 : m7 0 3 = nI y.2 := by rw [← hm7, up_o (Or.inr (by decide))]; exact g4.1
            have l7 : m7 0 4 = nI (dg tx 0) := by rw [← hm7, up_o (Or.inr (by decide)), g4.2.2 4 (by decide), f5.2.2 4 (by decide)]; exact l4
            have b7 : m7 0 5 = nI x.1 := by rw [← hm7, up_o (Or.inr (by decide)), g4.2.2 5 (by decide), f5.2.2 5 (by decide)]; exact b4
            have d7 : m7 0 6 = nI y.1 := by rw [← hm7, up_same]
            by_cases c3 : isC tl tx y.2 61 = true
            · rw [sig_t t7 ht a7 c3, bd_some, ieq_f (by decide) (by decide) (by decide)]
              generalize hm8 : up m7 0 3 (nI (y.2 + 1)) = m8
              have f8 : AT m7 m8 (y.2 + 1) := by rw [← hm8]; exact AT.up
              have t8 := t7.at f8
              obtain ⟨m', p1, p2, p3⟩ := valsC_s (i := y.2 + 1) ht (by omega) t8 f8.1
              rw [p1, bd_some]
              have hl : m' 0 4 = nI (dg tx 0) := by rw [p2.2.2.1, f8.2.2 4 (by decide)]; exact l7
              have hb : m' 0 5 = nI x.1 := by rw [p2.2.2.2.1, f8.2.2 5 (by decide)]; exact b7
              have hd : m' 0 6 = nI y.1 := by rw [p2.2.2.2.2, f8.2.2 6 (by decide)]; exact d7
              cases ev : pV tl tx 16 0 (y.2 + 1) (fun _ => 0) with
              | inl f =>
                have ep : pP tl tx = .inl f := by unfold pP; simp only [if_pos c0, if_pos c1, e, if_pos c2, e2, if_pos c3, ev]
                rw [ev] at p3
                rw [ep, show vR (.inl f) = nI 0 from rfl, gz_nI (by decide)]
                exact ⟨m', rfl, t8.vf p2, p3⟩
              | inr w =>
                have ep : pP tl tx = .inr (dg tx 0, x.1, y.1, w.1, w.2) := by unfold pP; simp only [if_pos c0, if_pos c1, e, if_pos c2, e2, if_pos c3, ev]
                rw [ev] at p3
                rw [ep, show vR (.inr w) = nI 1 from rfl, gz_nI (by decide)]
                exact ⟨m', rfl, t8.vf p2, hl, hb, hd, p3.1, p3.2⟩
            · have ep : pP tl tx = .inl y.2 := by unfold pP; simp only [if_pos c0, if_pos c1, e, if_pos c2, e2, if_neg c3]
              rw [ep, sig_f t7 ht a7 (by omega) c3, bd_some, ieq_t rfl]
              exact ⟨m7, rfl, t7, a7⟩
        · have ep : pP tl tx = .inl x.2 := by unfold pP; simp only [if_pos c0, if_pos c1, e, if_neg c2]
          rw [ep, sig_f t4 ht a4 (by omega) c2, bd_some, ieq_t rfl]
          exact ⟨m4, rfl, t4, a4⟩
    · have ep : pP tl tx = .inl 1 := by unfold pP; simp only [if_pos c0, if_neg c1]
      rw [ep, sig_f t1 ht a1 (by decide) c1, bd_some, ieq_t rfl]
      exact ⟨m1, rfl, t1, a1⟩
  · have ep : pP tl tx = .inl 0 := by unfold pP; simp only [if_neg c0]
    have e0 : f_X1_takeDigit (up m 0 3 (nI 0)) (nI 48) (nI 51) = some (-1, up m 0 3 (nI 0)) := dig_f (c := 3) hT0 ht up_same (by decide) (by decide) c0
    rw [ep, e0, bd_some, lt1_eq, up_same, if_pos m1_lt]
    exact ⟨_, rfl, hT0.fr (up_c (by decide)) (up_o (Or.inr (by decide))), by show up (up m 0 3 (nI 0)) 0 4 (-1) 0 3 = nI 0; rw [up_o (Or.inr (by decide)), up_same]⟩
/-! what a text's numbers can be; are the values within -/
theorem pV_b (ht : tl ≤ 80) : ∀ (j k i : Nat) (v : Nat → Nat), i ≤ 83 → (∀ q, q < k → v q ≤ 999) → match pV tl tx j k i v with
    | .inl f => f ≤ 83
    | .inr x => k + 1 ≤ x.1 ∧ x.1 ≤ k + j ∧ ∀ q, q < x.1 → x.2 q ≤ 999
  | 0, k, i, v, hi, _ => hi
  | j + 1, k, i, v, hi, hv => by
    unfold pV
    cases e : num tl tx i with
    | none => exact hi
    | some x =>
      have hx := num_lt e
      have hv2 : ∀ q, q < k + 1 → upV v k x.1 q ≤ 999 := fun q hq => by
        unfold upV
        by_cases d : q = k
        · rw [if_pos d]; omega
        · rw [if_neg d]; exact hv q (by omega)
      by_cases c1 : tl ≤ x.2
      · simp only [if_pos c1]
        exact ⟨Nat.le_refl _, by omega, hv2⟩
      · by_cases c2 : j = 0
        · simp only [if_neg c1, if_pos c2]
          omega
        · by_cases c3 : isC tl tx x.2 44 = true
          · simp only [if_neg c1, if_neg c2, if_pos c3]
            have ih := pV_b ht j (k + 1) (x.2 + 1) (upV v k x.1) (by omega) hv2
            cases ev : pV tl tx j (k + 1) (x.2 + 1) (upV v k x.1) with
            | inl f => rw [ev] at ih; exact ih
            | inr w =>
              rw [ev] at ih
              exact ⟨by have := ih.1; omega, by have := ih.2.1; omega, ih.2.2⟩
          · simp only [if_neg c1, if_neg c2, if_neg c3]
            omega
theorem pP_b (ht : tl ≤ 80) : match pP tl tx with
    | .inl f => f ≤ 83
    | .inr x => x.1 ≤ 3 ∧ x.2.1 ≤ 999 ∧ x.2.2.1 ≤ 999 ∧ 1 ≤ x.2.2.2.1 ∧ x.2.2.2.1 ≤ 16 ∧ ∀ q, q < x.2.2.2.1 → x.2.2.2.2 q ≤ 999 := by
  unfold pP
  by_cases c0 : isD tl tx 0 = true ∧ dg tx 0 ≤ 3
  · by_cases c1 : isC tl tx 1 58 = true
    · simp only [if_pos c0, if_pos c1]
      cases e : num tl tx 2 with
      | none => show 2 ≤ 83; decide
      | some x =>
        have hx := num_lt e
        by_cases c2 : isC tl tx x.2 45 = true
        · simp only [if_pos c2]
          cases e2 : num tl tx (x.2 + 1) with
          | none => show x.2 + 1 ≤ 83; omega
          | some y =>
            have hy := num_lt e2
            by_cases c3 : isC tl tx y.2 61 = true
            · simp only [if_pos c3]
              have ih := pV_b (tl := tl) (tx := tx) ht 16 0 (y.2 + 1) (fun _ => 0) (by omega) (fun q hq => by omega)
              cases ev : pV tl tx 16 0 (y.2 + 1) (fun _ => 0) with
              | inl f => rw [ev] at ih; exact ih
              | inr w =>
                rw [ev] at ih
                exact ⟨c0.2, hx.2.2.2, hy.2.2.2, by have := ih.1; omega, by have := ih.2.1; omega, ih.2.2⟩
            · simp only [if_neg c3]; omega
        · simp only [if_neg c2]; omega
    · simp only [if_pos c0, if_neg c1]; omega
  · simp only [if_neg c0]; omega
/-- the values lie within the bounds -/
def inW (b t n : Nat) (v : Nat → Nat) : Prop := b ≤ t ∧ ∀ q, q < n → b ≤ v q ∧ v q ≤ t
theorem inC_t {b t : Nat} (hW : inW b t n v) (hb : b ≤ 999) (ht : t ≤ 999) (hn : n ≤ 16) (h5 : m 0 5 = nI b) (h6 : m 0 6 = nI t) (h7 : m 0 7 = nI n) (hv : ∀ q, q < n → m 2 q = nI (v q)) : f_X1_isInRange m = some (nI 1) := by
  have L : ∀ k i, i ≤ n → n < i + k → f_X1_isInRange_L15 m k (nI i) = some (nI 1) := by
    intro k
    induction k with
    | zero => intro i h1 h2; omega
    | succ k ih =>
      intro i h1 h2
      rw [f_X1_isInRange_L15.eq_2]
      by_cases c : i = n
      · subst c
        simp (disch := omega) only [ile_t, ile_f, ilt_t, ilt_f, ieq_t, ieq_f, gd_nI, gn_nI, gz_nI, b1_some, bd_some, lt1_eq, nI_add, nI_mul, nI_clamp, if_true, if_false, h7]
      · have e := hv i (by omega)
        have w := hW.2 i (by omega)
        have e2 := isFT (b := v i) (q := b) (k := t) (by omega) (by omega) (by omega)
        rw [if_pos w] at e2
        simp (disch := omega) only [ile_t, ile_f, ilt_t, ilt_f, ieq_t, ieq_f, gd_nI, gn_nI, gz_nI, b1_some, bd_some, lt1_eq, nI_add, nI_mul, nI_clamp, if_true, if_false, h7, h5, h6, e, e2]
        exact ih (i + 1) (by omega) (by omega)
  unfold f_X1_isInRange
  rw [h5, h6, ile_t hW.1 (by omega)]
  exact L FU 0 (Nat.zero_le _) (by rw [FU_eq]; omega)
theorem inC_f {b t : Nat} (hW : ¬ inW b t n v) (hb : b ≤ 999) (ht : t ≤ 999) (hn : n ≤ 16) (hv9 : ∀ q, q < n → v q ≤ 999) (h5 : m 0 5 = nI b) (h6 : m 0 6 = nI t) (h7 : m 0 7 = nI n) (hv : ∀ q, q < n → m 2 q = nI (v q)) : f_X1_isInRange m = some (nI 0) := by
  unfold f_X1_isInRange
  rw [h5, h6]
  by_cases c0 : b ≤ t
  · have L : ∀ k i, i ≤ n → n < i + k → (∀ q, q < i → b ≤ v q ∧ v q ≤ t) → f_X1_isInRange_L15 m k (nI i) = some (nI 0) := by
      intro k
      induction k with
      | zero => intro i h1 h2; omega
      | succ k ih =>
        intro i h1 h2 hg
        rw [f_X1_isInRange_L15.eq_2]
        by_cases c : i = n
        · subst c
          exact absurd ⟨c0, hg⟩ hW
        · have e := hv i (by omega)
          have w9 := hv9 i (by omega)
          have e2 := isFT (b := v i) (q := b) (k := t) (by omega) (by omega) (by omega)
          by_cases w : b ≤ v i ∧ v i ≤ t
          · rw [if_pos w] at e2
            simp (disch := omega) only [ile_t, ile_f, ilt_t, ilt_f, ieq_t, ieq_f, gd_nI, gn_nI, gz_nI, b1_some, bd_some, lt1_eq, nI_add, nI_mul, nI_clamp, if_true, if_false, h7, h5, h6, e, e2]
            exact ih (i + 1) (by omega) (by omega) (fun q hq => by
              by_cases d : q = i
              · subst d; exact w
              · exact hg q (by omega))
          · rw [if_neg w] at e2
            simp (disch := omega) only [ile_t, ile_f, ilt_t, ilt_f, ieq_t, ieq_f, gd_nI, gn_nI, gz_nI, b1_some, bd_some, lt1_eq, nI_add, nI_mul, nI_clamp, if_true, if_false, h7, h5, h6, e, e2]
    rw [ile_t c0 (by omega)]
    exact L FU 0 (Nat.zero_le _) (by rw [FU_eq]; omega) (fun q hq => by omega)
  · rw [ile_f (by omega) (by omega)]
end CT
