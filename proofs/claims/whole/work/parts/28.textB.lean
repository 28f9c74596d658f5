/-! TEXTS: the reference's reading of a whole text -/
section TB2
variable {tl : Nat} {tx : Nat → Int32} {i k s n w : Nat} {m : SM} {v : Nat → Nat}
theorem told_up {m : SM} {w : Int32} {q : Nat} {x : Int32} (h : CU m w s n) : CU (up m 8 q x) w s n := ⟨by rw [up_o (Or.inl (by decide))]; exact h.1, by rw [up_o (Or.inl (by decide))]; exact h.2.1, by rw [up_o (Or.inl (by decide))]; exact h.2.2⟩
def rI (r : Nat ⊕ (Nat × (Nat → Nat))) : Int32 := match r with
  | .inl f => nI f
  | .inr _ => -5
/-- what the reference holds behind its values -/
def VE (m m' : SM) (r : Nat ⊕ (Nat × (Nat → Nat))) : Prop := match r with
  | .inl f => m' 0 17 = nI f
  | .inr x => m' 0 17 = -5 ∧ m' 0 15 = nI x.1 ∧ (∀ q, q < x.1 → m' 8 (3 + q) = nI (x.2 q)) ∧ ∀ q, q < 3 → m' 8 q = m 8 q
theorem L104_0 : f_X6_readText_L104 (n + 1) m (nI 0) = some (m 0 17, m) := by
  rw [f_X6_readText_L104.eq_2]
  simp (disch := omega) only [ile_t, ile_f, ilt_t, ilt_f, ieq_t, ieq_f, gd_nI, gn_nI, gz_nI, b1_some, bd_some, lt1_eq, nI_add, nI_mul, nI_clamp, if_true, if_false]
theorem vals_L (ht : tl ≤ 80) : ∀ (j n k i : Nat) (m : SM) (v : Nat → Nat), j + 1 + k = 16 → j + 1 < n → i < 2 ^ 28 → TM m tl tx → CU m (-5) i k → (∀ q, q < k → m 8 (3 + q) = nI (v q)) → ∃ m', f_X6_readText_L104 n m (nI 1) = some (rI (pV tl tx (j + 1) k i v), m') ∧ SE m m' ∧ VE m m' (pV tl tx (j + 1) k i v) := by
  intro j
  induction j with
  | zero =>
    intro n k i m v hk hn hi hT hC hV
    obtain ⟨n, rfl⟩ : ∃ n', n = n' + 1 + 1 := ⟨n - 2, by omega⟩
    rw [f_X6_readText_L104.eq_2]
    have hnum := number_ok (n := k) hT ht (s := i) (by omega) hC
    unfold pV
    cases e : num tl tx i with
    | none =>
      rw [e] at hnum
      obtain ⟨m1, g1, g2, g3, g4⟩ := hnum
      simp (disch := omega) only [ile_t, ile_f, ilt_t, ilt_f, ieq_t, ieq_f, gd_nI, gn_nI, gz_nI, b1_some, bd_some, lt1_eq, nI_add, nI_mul, nI_clamp, if_true, if_false, g1, hC.2.2]
      have c1 := told_up (q := 3 + k) (x := nI 0) g4
      have d1 : up (up m1 8 (3 + k) (nI 0)) 0 15 (nI (k + 1)) 0 17 = nI i := by rw [up_o (Or.inr (by decide))]; exact c1.1
      simp (disch := omega) only [ile_t, ile_f, ilt_t, ilt_f, ieq_t, ieq_f, gd_nI, gn_nI, gz_nI, b1_some, bd_some, lt1_eq, nI_add, nI_mul, nI_clamp, if_true, if_false, c1.2.2, d1, i5_f, f_X6_readText_L157, f_X6_readText_L158, L104_0]
      exact ⟨_, rfl, (g2.tr (SE.upC (by decide))).tr (SE.up0 (by decide)), d1⟩
    | some x =>
      rw [e] at hnum
      obtain ⟨m1, g1, g2, g3, g4⟩ := hnum
      obtain ⟨l1, l2, l3, l4⟩ := num_lt e
      simp (disch := omega) only [ile_t, ile_f, ilt_t, ilt_f, ieq_t, ieq_f, gd_nI, gn_nI, gz_nI, b1_some, bd_some, lt1_eq, nI_add, nI_mul, nI_clamp, if_true, if_false, g1, hC.2.2]
      have c1 := told_up (q := 3 + k) (x := nI x.1) g4
      generalize hm2 : up (up m1 8 (3 + k) (nI x.1)) 0 15 (nI (k + 1)) = m2
      have s2 : SE m m2 := by rw [← hm2]; exact (g2.tr (SE.upC (by decide))).tr (SE.up0 (by decide))
      have d1 : CU m2 (-5) x.2 (k + 1) := by
        rw [← hm2]
        exact ⟨by rw [up_o (Or.inr (by decide))]; exact c1.1, by rw [up_o (Or.inr (by decide))]; exact c1.2.1, up_same⟩
      have hT2 := hT.e s2
      have hV2 : ∀ q, q < k + 1 → m2 8 (3 + q) = nI (upV v k x.1 q) := fun q hq => by
        rw [← hm2, up_c (by decide)]
        unfold upV
        by_cases a : q = k
        · subst a
          rw [up_same, if_pos rfl]
        · rw [up_o (Or.inr (by omega)), if_neg a, g3]
          exact hV q (by omega)
      have hL2 : ∀ q, q < 3 → m2 8 q = m 8 q := fun q hq => by rw [← hm2, up_c (by decide), up_o (Or.inr (by omega)), g3]
      simp (disch := omega) only [ile_t, ile_f, ilt_t, ilt_f, ieq_t, ieq_f, gd_nI, gn_nI, gz_nI, b1_some, bd_some, lt1_eq, nI_add, nI_mul, nI_clamp, if_true, if_false, c1.2.2, hm2, d1.1, i5_t, hT2.1, d1.2.1]
      by_cases f : tl ≤ x.2
      · rw [ile_t f (by omega), if_pos f]
        simp (disch := omega) only [ile_t, ile_f, ilt_t, ilt_f, ieq_t, ieq_f, gd_nI, gn_nI, gz_nI, b1_some, bd_some, lt1_eq, nI_add, nI_mul, nI_clamp, if_true, if_false, f_X6_readText_L157, f_X6_readText_L158, L104_0, d1.1]
        exact ⟨m2, rfl, s2, d1.1, d1.2.2, hV2, hL2⟩
      · rw [ile_f (by omega) (by omega), if_neg f]
        have hk16 : k + 1 = 16 := by omega
        have d3 : m2 0 15 = nI 16 := by rw [d1.2.2, hk16]
        obtain ⟨m3, p1, p2, p3, p4⟩ := fail_ok d1
        obtain ⟨m4, r1, r2, r3, r4⟩ := takes_bad (c := 44) (hT2.e p2) ht (s := x.2) (by omega) (by omega) p4
        simp (disch := omega) only [ile_t, ile_f, ilt_t, ilt_f, ieq_t, ieq_f, gd_nI, gn_nI, gz_nI, b1_some, bd_some, lt1_eq, nI_add, nI_mul, nI_clamp, if_true, if_false, f_X6_readText_L158, f_X6_readText_L176, d3, p1, r1, r4.1, i5_f, L104_0]
        exact ⟨m4, rfl, (s2.tr p2).tr r2, r4.1⟩
  | succ j ih =>
    intro n k i m v hk hn hi hT hC hV
    obtain ⟨n, rfl⟩ : ∃ n', n = n' + 1 + 1 := ⟨n - 2, by omega⟩
    rw [f_X6_readText_L104.eq_2]
    have hnum := number_ok (n := k) hT ht (s := i) (by omega) hC
    unfold pV
    cases e : num tl tx i with
    | none =>
      rw [e] at hnum
      obtain ⟨m1, g1, g2, g3, g4⟩ := hnum
      simp (disch := omega) only [ile_t, ile_f, ilt_t, ilt_f, ieq_t, ieq_f, gd_nI, gn_nI, gz_nI, b1_some, bd_some, lt1_eq, nI_add, nI_mul, nI_clamp, if_true, if_false, g1, hC.2.2]
      have c1 := told_up (q := 3 + k) (x := nI 0) g4
      have d1 : up (up m1 8 (3 + k) (nI 0)) 0 15 (nI (k + 1)) 0 17 = nI i := by rw [up_o (Or.inr (by decide))]; exact c1.1
      simp (disch := omega) only [ile_t, ile_f, ilt_t, ilt_f, ieq_t, ieq_f, gd_nI, gn_nI, gz_nI, b1_some, bd_some, lt1_eq, nI_add, nI_mul, nI_clamp, if_true, if_false, c1.2.2, d1, i5_f, f_X6_readText_L157, f_X6_readText_L158, L104_0]
      exact ⟨_, rfl, (g2.tr (SE.upC (by decide))).tr (SE.up0 (by decide)), d1⟩
    | some x =>
      rw [e] at hnum
      obtain ⟨m1, g1, g2, g3, g4⟩ := hnum
      obtain ⟨l1, l2, l3, l4⟩ := num_lt e
      simp (disch := omega) only [ile_t, ile_f, ilt_t, ilt_f, ieq_t, ieq_f, gd_nI, gn_nI, gz_nI, b1_some, bd_some, lt1_eq, nI_add, nI_mul, nI_clamp, if_true, if_false, g1, hC.2.2]
      have c1 := told_up (q := 3 + k) (x := nI x.1) g4
      generalize hm2 : up (up m1 8 (3 + k) (nI x.1)) 0 15 (nI (k + 1)) = m2
      have s2 : SE m m2 := by rw [← hm2]; exact (g2.tr (SE.upC (by decide))).tr (SE.up0 (by decide))
      have d1 : CU m2 (-5) x.2 (k + 1) := by
        rw [← hm2]
        exact ⟨by rw [up_o (Or.inr (by decide))]; exact c1.1, by rw [up_o (Or.inr (by decide))]; exact c1.2.1, up_same⟩
      have hT2 := hT.e s2
      have hV2 : ∀ q, q < k + 1 → m2 8 (3 + q) = nI (upV v k x.1 q) := fun q hq => by
        rw [← hm2, up_c (by decide)]
        unfold upV
        by_cases a : q = k
        · subst a
          rw [up_same, if_pos rfl]
        · rw [up_o (Or.inr (by omega)), if_neg a, g3]
          exact hV q (by omega)
      have hL2 : ∀ q, q < 3 → m2 8 q = m 8 q := fun q hq => by rw [← hm2, up_c (by decide), up_o (Or.inr (by omega)), g3]
      simp (disch := omega) only [ile_t, ile_f, ilt_t, ilt_f, ieq_t, ieq_f, gd_nI, gn_nI, gz_nI, b1_some, bd_some, lt1_eq, nI_add, nI_mul, nI_clamp, if_true, if_false, c1.2.2, hm2, d1.1, i5_t, hT2.1, d1.2.1]
      by_cases f : tl ≤ x.2
      · rw [ile_t f (by omega), if_pos f]
        simp (disch := omega) only [ile_t, ile_f, ilt_t, ilt_f, ieq_t, ieq_f, gd_nI, gn_nI, gz_nI, b1_some, bd_some, lt1_eq, nI_add, nI_mul, nI_clamp, if_true, if_false, f_X6_readText_L157, f_X6_readText_L158, L104_0, d1.1]
        exact ⟨m2, rfl, s2, d1.1, d1.2.2, hV2, hL2⟩
      · rw [ile_f (by omega) (by omega), if_neg f, if_neg (by omega)]
        obtain ⟨m4, r1, r2, r3, r4⟩ := takes_ok (c := 44) hT2 ht (s := x.2) (by omega) (by decide) d1
        cases hc : isC tl tx x.2 44 with
        | true =>
          rw [hc, if_pos rfl] at r4
          simp (disch := omega) only [ile_t, ile_f, ilt_t, ilt_f, ieq_t, ieq_f, gd_nI, gn_nI, gz_nI, b1_some, bd_some, lt1_eq, nI_add, nI_mul, nI_clamp, if_true, if_false, f_X6_readText_L158, f_X6_readText_L176, d1.2.2, r1, r4.1, i5_t]
          obtain ⟨m', t1, t2, t3⟩ := ih (n + 1) (k + 1) (x.2 + 1) m4 (upV v k x.1) (by omega) (by omega) (by omega) (hT2.e r2) r4 (fun q hq => by rw [r3]; exact hV2 q hq)
          rw [t1]
          refine ⟨m', rfl, (s2.tr r2).tr t2, ?_⟩
          revert t3
          cases pV tl tx (j + 1) (k + 1) (x.2 + 1) (upV v k x.1) with
          | inl f => exact fun t3 => t3
          | inr y => exact fun t3 => ⟨t3.1, t3.2.1, t3.2.2.1, fun q hq => by rw [t3.2.2.2 q hq, r3, hL2 q hq]⟩
        | false =>
          rw [hc] at r4
          simp only [Bool.false_eq_true, if_false] at r4
          simp (disch := omega) only [ile_t, ile_f, ilt_t, ilt_f, ieq_t, ieq_f, gd_nI, gn_nI, gz_nI, b1_some, bd_some, lt1_eq, nI_add, nI_mul, nI_clamp, if_true, if_false, f_X6_readText_L158, f_X6_readText_L176, d1.2.2, r1, r4.1, i5_f, L104_0, Bool.false_eq_true]
          exact ⟨m4, rfl, s2.tr r2, r4.1⟩
/-! the head, a step at a time -/
def H1 (m : SM) : Option (Int32 × SM) := f_X6_readText_L104 FU m (nI 1)
def H2 (m : SM) : Option (Int32 × SM) := bd (f_X6_takes m (nI 61)) fun _ m23 => H1 m23
def H3 (m : SM) : Option (Int32 × SM) := bd (f_X6_takesNumber m) fun r16 m17 => gd (nI 2) 19 (lt1 (up m17 8 (nI 2).toNatClampNeg r16) fun m20 => H2 m20)
def H4 (m : SM) : Option (Int32 × SM) := bd (f_X6_takes m (nI 45)) fun _ m14 => H3 m14
def H5 (m : SM) : Option (Int32 × SM) := bd (f_X6_takesNumber m) fun r7 m8 => gd (nI 1) 19 (lt1 (up m8 8 (nI 1).toNatClampNeg r7) fun m11 => H4 m11)
def H6 (m : SM) : Option (Int32 × SM) := bd (f_X6_takes m (nI 58)) fun _ m5 => H5 m5
theorem L54_H : f_X6_readText_L54 m = lt1 (up m 0 16 ((m 0 16) + (nI 1))) fun m2 => H6 m2 := Eq.trans rfl rfl
def BD (f : SM → Option (Int32 × SM)) (c tl : Nat) (tx : Nat → Int32) : Prop := ∀ (m : SM) (w s : Nat), w < 2 ^ 31 → s + c < 2 ^ 28 → TM m tl tx → CU m (nI w) s 0 → ∃ m', f m = some (nI w, m') ∧ SE m m' ∧ m' 0 17 = nI w
theorem bad1 : BD H1 0 tl tx := by
  intro m w s hw hs hT hC
  unfold H1
  rw [show FU = 998 + 1 + 1 from rfl, f_X6_readText_L104.eq_2]
  obtain ⟨m1, g1, g2, g3, g4⟩ := number_bad hw hC
  simp (disch := omega) only [ile_t, ile_f, ilt_t, ilt_f, ieq_t, ieq_f, gd_nI, gn_nI, gz_nI, b1_some, bd_some, lt1_eq, nI_add, nI_mul, nI_clamp, if_true, if_false, g1, hC.2.2]
  have c1 := told_up (q := 3 + 0) (x := nI 0) g4
  have d1 : up (up m1 8 (3 + 0) (nI 0)) 0 15 (nI (0 + 1)) 0 17 = nI w := by rw [up_o (Or.inr (by decide))]; exact c1.1
  simp (disch := omega) only [ile_t, ile_f, ilt_t, ilt_f, ieq_t, ieq_f, gd_nI, gn_nI, gz_nI, b1_some, bd_some, lt1_eq, nI_add, nI_mul, nI_clamp, if_true, if_false, c1.2.2, d1, i5_f, f_X6_readText_L157, f_X6_readText_L158, L104_0]
  exact ⟨_, rfl, (g2.tr (SE.upC (by decide))).tr (SE.up0 (by decide)), d1⟩
theorem badT {f : SM → Option (Int32 × SM)} {c c2 : Nat} (ht : tl ≤ 80) (hf : BD f c tl tx) : BD (fun m => bd (f_X6_takes m (nI c2)) fun _ m2 => f m2) (c + 1) tl tx := by
  intro m w s hw hs hT hC
  obtain ⟨m1, g1, g2, g3, g4⟩ := takes_bad (c := c2) hT ht (by omega) hw hC
  obtain ⟨m', p1, p2, p3⟩ := hf m1 w (s + 1) hw (by omega) (hT.e g2) g4
  refine ⟨m', ?_, g2.tr p2, p3⟩
  show bd (f_X6_takes m (nI c2)) _ = _
  rw [g1, bd_some, p1]
theorem badN {f : SM → Option (Int32 × SM)} {c q : Nat} (hq : q < 19) (hf : BD f c tl tx) : BD (fun m => bd (f_X6_takesNumber m) fun r m2 => gd (nI q) 19 (lt1 (up m2 8 (nI q).toNatClampNeg r) fun m3 => f m3)) c tl tx := by
  intro m w s hw hs hT hC
  obtain ⟨m1, g1, g2, g3, g4⟩ := number_bad hw hC
  have s2 : SE m (up m1 8 q (nI 0)) := g2.tr (SE.upC (by decide))
  obtain ⟨m', p1, p2, p3⟩ := hf (up m1 8 q (nI 0)) w s hw hs (hT.e s2) (told_up g4)
  refine ⟨m', ?_, s2.tr p2, p3⟩
  show bd (f_X6_takesNumber m) _ = _
  rw [g1, bd_some, gd_nI hq (by decide), lt1_eq, nI_clamp (by omega), p1]
theorem bad2 (ht : tl ≤ 80) : BD H2 1 tl tx := badT ht bad1
theorem bad3 (ht : tl ≤ 80) : BD H3 1 tl tx := badN (by decide) (bad2 ht)
theorem bad4 (ht : tl ≤ 80) : BD H4 2 tl tx := badT ht (bad3 ht)
theorem bad5 (ht : tl ≤ 80) : BD H5 2 tl tx := badN (by decide) (bad4 ht)
theorem bad6 (ht : tl ≤ 80) : BD H6 3 tl tx := badT ht (bad5 ht)
def pI (r : Nat ⊕ (Nat × Nat × Nat × Nat × (Nat → Nat))) : Int32 := match r with
  | .inl f => nI f
  | .inr _ => -5
/-- what the reference holds behind a text -/
def PE (m' : SM) (r : Nat ⊕ (Nat × Nat × Nat × Nat × (Nat → Nat))) : Prop := match r with
  | .inl f => m' 0 17 = nI f
  | .inr x => m' 0 17 = -5 ∧ m' 8 0 = nI x.1 ∧ m' 8 1 = nI x.2.1 ∧ m' 8 2 = nI x.2.2.1 ∧ m' 0 15 = nI x.2.2.2.1 ∧ ∀ q, q < x.2.2.2.1 → m' 8 (3 + q) = nI (x.2.2.2.2 q)
theorem readText_s (hT : TM m tl tx) (ht : tl ≤ 80) : ∃ m', f_X6_readText m = some (pI (pP tl tx), m') ∧ SE m m' ∧ PE m' (pP tl tx) := by
  unfold f_X6_readText
  simp only [lt1_eq]
  generalize hm1 : up (up (up m 0 17 (-5)) 0 16 (nI 0)) 0 15 (nI 0) = m1
  have s1 : SE m m1 := by rw [← hm1]; exact ((SE.up0 (by decide)).tr (SE.up0 (by decide))).tr (SE.up0 (by decide))
  have c1 : CU m1 (-5) 0 0 := by
    rw [← hm1]
    exact ⟨by rw [up_o (Or.inr (by decide)), up_o (Or.inr (by decide)), up_same], by rw [up_o (Or.inr (by decide)), up_same], up_same⟩
  have hT1 := hT.e s1
  have l0 := letter_s (k := 0) hT1 ht (by decide)
  rw [l0, b1_some, gd_nI (by decide) (by decide), nI_clamp (by decide)]
  generalize hm2 : up m1 8 0 ((if 0 < tl then tx 0 else -1) - nI 48) = m2
  have s2 : SE m m2 := by rw [← hm2]; exact s1.tr (SE.upC (by decide))
  have c2 : CU m2 (-5) 0 0 := by rw [← hm2]; exact told_up c1
  have hT2 := hT.e s2
  have l2 := letter_s (k := 0) hT2 ht (by decide)
  rw [l2, b1_some]
  -- the head with no layer
  have bad0 : ¬ (isD tl tx 0 = true ∧ dg tx 0 ≤ 3) → ∃ m', f_X6_readText_L50 m2 = some (pI (pP tl tx), m') ∧ SE m m' ∧ PE m' (pP tl tx) := by
    intro hn
    unfold pP f_X6_readText_L50
    rw [if_neg hn]
    obtain ⟨m3, g1, g2, g3, g4⟩ := fail_ok c2
    rw [g1, bd_some, L54_H, lt1_eq, g4.2.1, nI_add]
    have s3 : SE m (up m3 0 16 (nI (0 + 1))) := (s2.tr g2).tr (SE.up0 (by decide))
    have c3 : CU (up m3 0 16 (nI (0 + 1))) (nI 0) 1 0 := ⟨by rw [up_o (Or.inr (by decide))]; exact g4.1, up_same, by rw [up_o (Or.inr (by decide))]; exact g4.2.2⟩
    obtain ⟨m', p1, p2, p3⟩ := bad6 ht _ 0 1 (by decide) (by decide) (hT.e s3) c3
    exact ⟨m', p1, s3.tr p2, p3⟩
  have good : (isD tl tx 0 = true ∧ dg tx 0 ≤ 3) → ∃ m', f_X6_readText_L54 m2 = some (pI (pP tl tx), m') ∧ SE m m' ∧ PE m' (pP tl tx) := by
    intro hg
    obtain ⟨a1, a2, a3⟩ := isD_dg hg.1
    have t0 : m2 8 0 = nI (dg tx 0) := by
      rw [← hm2, up_same, if_pos a1, a2, nI_sub (by omega), Nat.add_sub_cancel_left]
    unfold pP
    rw [if_pos hg, L54_H, lt1_eq, c2.2.1, nI_add]
    generalize hm3 : up m2 0 16 (nI (0 + 1)) = m3
    have s3 : SE m m3 := by rw [← hm3]; exact s2.tr (SE.up0 (by decide))
    have c3 : CU m3 (-5) 1 0 := by
      rw [← hm3]
      exact ⟨by rw [up_o (Or.inr (by decide))]; exact c2.1, up_same, by rw [up_o (Or.inr (by decide))]; exact c2.2.2⟩
    have t3 : m3 8 0 = nI (dg tx 0) := by rw [← hm3, up_c (by decide)]; exact t0
    have hT3 := hT.e s3
    obtain ⟨m4, g1, g2, g3, g4⟩ := takes_ok (c := 58) hT3 ht (s := 1) (by decide) (by decide) c3
    have s4 := s3.tr g2
    have hT4 := hT.e s4
    unfold H6
    rw [g1, bd_some]
    cases e1 : isC tl tx 1 58 with
    | false =>
      rw [e1] at g4
      simp only [Bool.false_eq_true, if_false] at g4 ⊢
      obtain ⟨m', p1, p2, p3⟩ := bad5 ht m4 1 (1 + 1) (by decide) (by decide) hT4 g4
      exact ⟨m', p1, s4.tr p2, p3⟩
    | true =>
      rw [e1] at g4
      simp only [if_true] at g4 ⊢
      have hnum := number_ok hT4 ht (s := 2) (by decide) g4
      unfold H5
      cases e2 : num tl tx 2 with
      | none =>
        rw [e2] at hnum
        obtain ⟨m5, h1, h2, h3, h4⟩ := hnum
        have s5 : SE m (up m5 8 1 (nI 0)) := (s4.tr h2).tr (SE.upC (by decide))
        obtain ⟨m', p1, p2, p3⟩ := bad4 ht (up m5 8 1 (nI 0)) 2 2 (by decide) (by decide) (hT.e s5) (told_up h4)
        rw [h1, bd_some, gd_nI (by decide) (by decide), lt1_eq, nI_clamp (by decide), p1]
        exact ⟨m', rfl, s5.tr p2, p3⟩
      | some x =>
        rw [e2] at hnum
        obtain ⟨m5, h1, h2, h3, h4⟩ := hnum
        obtain ⟨x1, x2, x3, x4⟩ := num_lt e2
        rw [h1, bd_some, gd_nI (by decide) (by decide), lt1_eq, nI_clamp (by decide)]
        generalize hm6 : up m5 8 1 (nI x.1) = m6
        have s6 : SE m m6 := by rw [← hm6]; exact (s4.tr h2).tr (SE.upC (by decide))
        have c6 : CU m6 (-5) x.2 0 := by rw [← hm6]; exact told_up h4
        have t6 : m6 8 0 = nI (dg tx 0) ∧ m6 8 1 = nI x.1 := by
          rw [← hm6]
          exact ⟨by rw [up_o (Or.inr (by decide)), h3, g3]; exact t3, up_same⟩
        have hT6 := hT.e s6
        obtain ⟨m7, k1, k2, k3, k4⟩ := takes_ok (c := 45) hT6 ht (s := x.2) (by omega) (by decide) c6
        have s7 := s6.tr k2
        have hT7 := hT.e s7
        unfold H4
        rw [k1, bd_some]
        cases e3 : isC tl tx x.2 45 with
        | false =>
          rw [e3] at k4
          simp only [Bool.false_eq_true, if_false] at k4 ⊢
          obtain ⟨m', p1, p2, p3⟩ := bad3 ht m7 x.2 (x.2 + 1) (by omega) (by omega) hT7 k4
          simp only [e3, Bool.false_eq_true, if_false]
          exact ⟨m', p1, s7.tr p2, p3⟩
        | true =>
          rw [e3] at k4
          simp only [if_true] at k4
          simp only [e3, if_true]
          have hnum2 := number_ok hT7 ht (s := x.2 + 1) (by omega) k4
          unfold H3
          cases e4 : num tl tx (x.2 + 1) with
          | none =>
            rw [e4] at hnum2
            obtain ⟨m8, q1, q2, q3, q4⟩ := hnum2
            have s8 : SE m (up m8 8 2 (nI 0)) := (s7.tr q2).tr (SE.upC (by decide))
            obtain ⟨m', p1, p2, p3⟩ := bad2 ht (up m8 8 2 (nI 0)) (x.2 + 1) (x.2 + 1) (by omega) (by omega) (hT.e s8) (told_up q4)
            rw [q1, bd_some, gd_nI (by decide) (by decide), lt1_eq, nI_clamp (by decide), p1]
            exact ⟨m', rfl, s8.tr p2, p3⟩
          | some y =>
            rw [e4] at hnum2
            obtain ⟨m8, q1, q2, q3, q4⟩ := hnum2
            obtain ⟨y1, y2, y3, y4⟩ := num_lt e4
            rw [q1, bd_some, gd_nI (by decide) (by decide), lt1_eq, nI_clamp (by decide)]
            generalize hm9 : up m8 8 2 (nI y.1) = m9
            have s9 : SE m m9 := by rw [← hm9]; exact (s7.tr q2).tr (SE.upC (by decide))
            have c9 : CU m9 (-5) y.2 0 := by rw [← hm9]; exact told_up q4
            have t9 : m9 8 0 = nI (dg tx 0) ∧ m9 8 1 = nI x.1 ∧ m9 8 2 = nI y.1 := by
              rw [← hm9]
              exact ⟨by rw [up_o (Or.inr (by decide)), q3, k3]; exact t6.1, by rw [up_o (Or.inr (by decide)), q3, k3]; exact t6.2, up_same⟩
            have hT9 := hT.e s9
            obtain ⟨m10, r1, r2, r3, r4⟩ := takes_ok (c := 61) hT9 ht (s := y.2) (by omega) (by decide) c9
            have s10 := s9.tr r2
            have hT10 := hT.e s10
            unfold H2
            rw [r1, bd_some]
            cases e5 : isC tl tx y.2 61 with
            | false =>
              rw [e5] at r4
              simp only [Bool.false_eq_true, if_false] at r4
              obtain ⟨m', p1, p2, p3⟩ := bad1 (tl := tl) (tx := tx) m10 y.2 (y.2 + 1) (by omega) (by omega) hT10 r4
              simp only [e5, Bool.false_eq_true, if_false]
              exact ⟨m', p1, s10.tr p2, p3⟩
            | true =>
              rw [e5] at r4
              simp only [if_true] at r4
              simp only [e5, if_true]
              unfold H1
              obtain ⟨m', p1, p2, p3⟩ := vals_L (tl := tl) (tx := tx) ht 15 FU 0 (y.2 + 1) m10 (fun _ => 0) rfl (by decide) (by omega) hT10 r4 (fun q hq => by omega)
              rw [p1]
              revert p3
              cases pV tl tx (15 + 1) 0 (y.2 + 1) (fun _ => 0) with
              | inl f => exact fun p3 => ⟨m', rfl, s10.tr p2, p3⟩
              | inr z => exact fun p3 => ⟨m', rfl, s10.tr p2, p3.1, by rw [p3.2.2.2 0 (by decide), r3]; exact t9.1, by rw [p3.2.2.2 1 (by decide), r3]; exact t9.2.1, by rw [p3.2.2.2 2 (by decide), r3]; exact t9.2.2, p3.2.1, p3.2.2.1⟩
  by_cases hz : 0 < tl
  · rw [if_pos hz]
    by_cases d : tx 0 < nI 48
    · rw [if_pos d]
      refine bad0 (fun z => ?_)
      obtain ⟨a1, a2, a3⟩ := isD_dg z.1
      rw [a2, nI_ltI (by omega) (by decide)] at d
      omega
    · rw [if_neg d, b1_some]
      by_cases f : tx 0 ≤ nI 51
      · rw [if_pos f]
        refine good ?_
        rcases nI_ex (tx 0) with ⟨c, hc, e⟩ | hneg
        · rw [e, nI_leI hc (by decide)] at f
          rw [e, nI_ltI hc (by decide)] at d
          have hD : isD tl tx 0 = true := by
            unfold isD
            rw [e]
            simp only [Bool.and_eq_true, decide_eq_true_eq]
            exact ⟨hz, nI_le (by omega) hc, nI_le (by omega) (by decide)⟩
          refine ⟨hD, ?_⟩
          unfold dg
          rw [e, nI_clamp hc]
          omega
        · exact absurd (lt_nI_neg hneg (n := 48) (by decide)) d
      · rw [if_neg f]
        refine bad0 (fun z => f ?_)
        obtain ⟨a1, a2, a3⟩ := isD_dg z.1
        rw [a2]
        exact nI_le (by omega) (by decide)
  · rw [if_neg hz, if_pos (by decide)]
    refine bad0 (fun z => ?_)
    obtain ⟨a1, a2, a3⟩ := isD_dg z.1
    omega
end TB2
