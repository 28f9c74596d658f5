/-! TEXTS: what a text of a block is (tl characters tx), and how the reference reads it -/
def isD (tl : Nat) (tx : Nat → Int32) (i : Nat) : Bool := decide (i < tl) && (decide (nI 48 ≤ tx i) && decide (tx i ≤ nI 57))
def isC (tl : Nat) (tx : Nat → Int32) (i : Nat) (c : Nat) : Bool := decide (i < tl) && decide (tx i = nI c)
def dg (tx : Nat → Int32) (i : Nat) : Nat := (tx i).toNatClampNeg - 48
/-- a number from i on, and the place behind it -/
def num (tl : Nat) (tx : Nat → Int32) (i : Nat) : Option (Nat × Nat) :=
  if isD tl tx i = true then
    if dg tx i = 0 then some (0, i + 1)
    else if isD tl tx (i + 1) = true then
      if isD tl tx (i + 2) = true then some (10 * (10 * dg tx i + dg tx (i + 1)) + dg tx (i + 2), i + 3) else some (10 * dg tx i + dg tx (i + 1), i + 2)
    else some (dg tx i, i + 1)
  else none
def upV (v : Nat → Nat) (k x : Nat) : Nat → Nat := fun j => if j = k then x else v j
/-- values from i on, k were read: a fault's place, or how many and which -/
def pV (tl : Nat) (tx : Nat → Int32) : Nat → Nat → Nat → (Nat → Nat) → Nat ⊕ (Nat × (Nat → Nat))
  | 0, _, i, _ => .inl i
  | n + 1, k, i, v => match num tl tx i with
    | none => .inl i
    | some x => if tl ≤ x.2 then .inr (k + 1, upV v k x.1)
      else if n = 0 then .inl x.2
      else if isC tl tx x.2 44 = true then pV tl tx n (k + 1) (x.2 + 1) (upV v k x.1)
      else .inl x.2
/-- the whole text: layer, bottom, top, how many values, which -/
def pP (tl : Nat) (tx : Nat → Int32) : Nat ⊕ (Nat × Nat × Nat × Nat × (Nat → Nat)) :=
  if isD tl tx 0 = true ∧ dg tx 0 ≤ 3 then
    if isC tl tx 1 58 = true then
      match num tl tx 2 with
      | none => .inl 2
      | some x => if isC tl tx x.2 45 = true then
          match num tl tx (x.2 + 1) with
          | none => .inl (x.2 + 1)
          | some y => if isC tl tx y.2 61 = true then
              match pV tl tx 16 0 (y.2 + 1) (fun _ => 0) with
              | .inl f => .inl f
              | .inr w => .inr (dg tx 0, x.1, y.1, w.1, w.2)
            else .inl y.2
        else .inl x.2
    else .inl 1
  else .inl 0
section TX
variable {tl : Nat} {tx : Nat → Int32} {i k s n w : Nat} {m : SM} {v : Nat → Nat}
theorem isD_dg (h : isD tl tx i = true) : i < tl ∧ tx i = nI (48 + dg tx i) ∧ dg tx i ≤ 9 := by
  unfold isD at h
  simp only [Bool.and_eq_true, decide_eq_true_eq] at h
  obtain ⟨h1, h2, h3⟩ := h
  refine ⟨h1, ?_⟩
  rcases nI_ex (tx i) with ⟨n, hn, e⟩ | hneg
  · rw [e] at h2 h3
    have h2 := (nI_leI (by decide) hn).mp h2
    have h3 := (nI_leI hn (by decide)).mp h3
    unfold dg
    rw [e, nI_clamp hn]
    exact ⟨by congr 1; omega, by omega⟩
  · exfalso
    have := lt_nI_neg hneg (n := 48) (by decide)
    rw [Int32.lt_iff_toInt_lt] at this
    rw [Int32.le_iff_toInt_le] at h2
    omega
theorem isD_not (h : isD tl tx i = false) (hi : i < tl) : tx i < nI 48 ∨ (¬ tx i < nI 48 ∧ nI 57 < tx i) := by
  unfold isD at h
  by_cases c : tx i < nI 48
  · exact Or.inl c
  · refine Or.inr ⟨c, ?_⟩
    have h1 : nI 48 ≤ tx i := by
      rw [Int32.lt_iff_toInt_lt] at c
      rw [Int32.le_iff_toInt_le]
      omega
    by_cases d : nI 57 < tx i
    · exact d
    · exfalso
      have h2 : tx i ≤ nI 57 := by
        rw [Int32.lt_iff_toInt_lt] at d
        rw [Int32.le_iff_toInt_le]
        omega
      simp [hi, h1, h2] at h
theorem num_lt {x : Nat × Nat} (h : num tl tx i = some x) : i < x.2 ∧ x.2 ≤ tl ∧ x.2 ≤ i + 3 ∧ x.1 ≤ 999 := by
  unfold num at h
  by_cases c : isD tl tx i = true
  · rw [if_pos c] at h
    obtain ⟨a1, a2, a3⟩ := isD_dg c
    by_cases d : dg tx i = 0
    · rw [if_pos d] at h
      cases h
      exact ⟨by simp, by simp; omega, by simp, by simp⟩
    · rw [if_neg d] at h
      by_cases e : isD tl tx (i + 1) = true
      · rw [if_pos e] at h
        obtain ⟨b1, b2, b3⟩ := isD_dg e
        by_cases f : isD tl tx (i + 2) = true
        · rw [if_pos f] at h
          obtain ⟨c1, c2, c3⟩ := isD_dg f
          cases h
          refine ⟨?_, ?_, ?_, ?_⟩ <;> dsimp only <;> omega
        · rw [if_neg f] at h
          cases h
          refine ⟨?_, ?_, ?_, ?_⟩ <;> dsimp only <;> omega
      · rw [if_neg e] at h
        cases h
        refine ⟨?_, ?_, ?_, ?_⟩ <;> dsimp only <;> omega
  · rw [if_neg c] at h
    cases h
/-- the text as the reference holds it -/
def TM (m : SM) (tl : Nat) (tx : Nat → Int32) : Prop := m 0 7 = nI tl ∧ ∀ i, i < tl → m 5 i = tx i
theorem TM.e {m m' : SM} (h : TM m tl tx) (s : SE m m') : TM m' tl tx := ⟨by rw [s.1.2.2.2.2.2.2]; exact h.1, by rw [s.1.2.2.2.1]; exact h.2⟩
theorem m1_ne {c : Nat} (hc : c < 2 ^ 31) : ¬ (-1 : Int32) = nI c := by
  intro h
  have h1 := congrArg Int32.toInt h
  rw [nI_toInt hc] at h1
  have h2 : (-1 : Int32).toInt = -1 := rfl
  omega
/-- the reference's cursor: wrong, spot, how many values -/
def CU (m : SM) (w : Int32) (s n : Nat) : Prop := m 0 17 = w ∧ m 0 16 = nI s ∧ m 0 15 = nI n
end TX
