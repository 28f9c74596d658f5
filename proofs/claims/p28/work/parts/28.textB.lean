/-! TEXTS: the reference's reading of a whole text -/
section TB2
variable {tl : Nat} {tx : Nat → Int32} {i k s n w : Nat} {m : SM} {v : Nat → Nat}
theorem told_up {m : SM} {w : Int32} {q : Nat} {x : Int32} (h : CU m w s n) : CU (up m 8 q x) w s n := ⟨by rw [up_o (Or.inl (by decide))]; exact h.1, by rw [up_o (Or.inl (by decide))]; exact h.2.1, by rw [up_o (Or.inl (by decide))]; exact h.2.2⟩
def rI (r : Nat ⊕ (Nat × (Nat → Nat))) : Int32 := match r with
  | .inl f => nI f
  | .inr _ => -5
/-- what the reference holds behind its values -/
def VE (m m' : SM) (r : Nat ⊕ (Nat × (Nat → Nat))) : Prop := match r with
  | .inl f => m' 0 17 = nI f
  | .inr x => m' 0 17 = -5 ∧ m' 0 15 = nI x.1 ∧ (∀ q, q < x.1 → m' 8 (3 + q) = nI (x.2 q)) ∧ ∀ q, q < 3 → m' 8 q = m 8 q
/-! the head, a step at a time -/
def BD (f : SM → Option (Int32 × SM)) (c tl : Nat) (tx : Nat → Int32) : Prop := ∀ (m : SM) (w s : Nat), w < 2 ^ 31 → s + c < 2 ^ 28 → TM m tl tx → CU m (nI w) s 0 → ∃ m', f m = some (nI w, m') ∧ SE m m' ∧ m' 0 17 = nI w
def pI (r : Nat ⊕ (Nat × Nat × Nat × Nat × (Nat → Nat))) : Int32 := match r with
  | .inl f => nI f
  | .inr _ => -5
/-- what the reference holds behind a text -/
def PE (m' : SM) (r : Nat ⊕ (Nat × Nat × Nat × Nat × (Nat → Nat))) : Prop := match r with
  | .inl f => m' 0 17 = nI f
  | .inr x => m' 0 17 = -5 ∧ m' 8 0 = nI x.1 ∧ m' 8 1 = nI x.2.1 ∧ m' 8 2 = nI x.2.2.1 ∧ m' 0 15 = nI x.2.2.2.1 ∧ ∀ q, q < x.2.2.2.1 → m' 8 (3 + q) = nI (x.2.2.2.2 q)
end TB2
