/-! THE REFERENCE'S ANSWERS -/
section MB
variable {m : SM} {nb nq pl tu b q k how ls n : Nat} {B Q : BK} {qr qr2 : Nat → Nat}
theorem aG_pos (h : BI nb B) : ∀ n : Nat, n ≤ nb → sumTo (fun b => if ls.testBit (B b 0) then B b 3 else 0) n ≠ 0 → 1 ≤ aG nb B ls how n
  | 0, _, hne => absurd rfl hne
  | n + 1, hn, hne => by
    have h4 := h.2 n (by omega)
    unfold aG
    by_cases c : ls.testBit (B n 0) = true
    · rw [if_pos c]
      have h1 := (maxB_le (f := fun r => vl nb B n how r + 1) (a := aG nb B ls how n) (B n 3)).2 0 (by omega)
      have h2 : 1 ≤ (fun r => vl nb B n how r + 1) 0 := Nat.le_add_left _ _
      omega
    · rw [if_neg c]
      refine aG_pos h n (by omega) (fun q => hne ?_)
      show sumTo _ n + (if _ then _ else 0) = 0
      rw [q, if_neg c]
theorem ans_congr (h0 : qr 0 = qr2 0) (h1 : qr 1 = qr2 1) (h2 : qr 2 = qr2 2) : ans nb B qr how = ans nb B qr2 how := by
  unfold ans
  rw [h0, h1, h2]
theorem rQ_pos (h : BI nb B) (hb : b < nb) (hc : ls.testBit (B b 0) = true) : rQ nb B ls 3 ≠ 0 := by
  intro q
  have h1 := sumTo_zero nb q b hb
  have h2 := h.2 b hb
  simp only [hc, if_true] at h1
  omega
/-- the numbers that answer() keeps while it meets rows -/
def AC (m : SM) (s c le g : Nat) : Prop := m 0 10 = nI s ∧ m 0 11 = nI c ∧ m 0 12 = nI le ∧ m 0 13 = nI g - nI 1
end MB
