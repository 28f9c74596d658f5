/-! THE REFERENCE: questions stop; weights; which block is next -/
/-- a question's row, set -/
def setR (Q : BK) (q : Nat) (f : Nat → Nat) : BK := fun q' => if q' = q then f else Q q'
/-- how many questions are open -/
def opn (nq : Nat) (Q : BK) : Nat := sumTo (fun q => 1 - Q q 4) nq
/-- what a question adds to a block's weight -/
def uw (nb : Nat) (B : BK) (qr : Nat → Nat) (b : Nat) : Nat :=
  if qr 0 = 1 then (if B b 1 < qr 2 ∧ qr 2 ≤ B b 2 then 100 else 0)
  else if qr 0 = 2 then (if B b 1 < ans nb B qr 1 then 100 else 0)
  else if qr 0 = 3 then (if ans nb B qr 0 < B b 2 then 100 else 0)
  else B b 2 - B b 1
def wt (nb : Nat) (B : BK) (Q : BK) (b n : Nat) : Nat := sumTo (fun q => if Q q 4 = 0 ∧ (Q q 1).testBit (B b 0) = true then uw nb B (Q q) b else 0) n
/-- a block's worth by the plans 1 and 2 -/
def wo (pl nb : Nat) (B : BK) (nq : Nat) (Q : BK) (b : Nat) : Nat := if pl = 1 then (B b 3 - B b 4) * (B b 2 - B b 1) else wt nb B Q b nq
section MC
variable {m : SM} {nb nq pl tu b q k how ls n : Nat} {B Q : BK} {qr qr2 : Nat → Nat}
theorem stl_t {i : Nat} (h : stB nb B (Q i) = true) : stl nb B (i + 1) Q = setR (stl nb B i Q) i (setq nb B (Q i)) := by
  funext q
  unfold stl setR
  by_cases c : q = i
  · subst c
    rw [if_pos ⟨by omega, h⟩, if_pos rfl]
  · rw [if_neg c]
    dsimp only
    by_cases d : q < i ∧ stB nb B (Q q) = true
    · rw [if_pos d, if_pos ⟨by omega, d.2⟩]
    · rw [if_neg d, if_neg (fun z => d ⟨by omega, z.2⟩)]
theorem stl_f {i : Nat} (h : stB nb B (Q i) = false) : stl nb B (i + 1) Q = stl nb B i Q := by
  funext q
  unfold stl
  by_cases d : q < i ∧ stB nb B (Q q) = true
  · rw [if_pos d, if_pos ⟨by omega, d.2⟩]
  · rw [if_neg d, if_neg (fun z => d ⟨by
      have hne : q ≠ i := fun e => by
        subst e
        rw [h] at z
        exact absurd z.2 (by decide)
      omega, z.2⟩)]
theorem stl_i {i : Nat} : stl nb B i Q i = Q i := by
  unfold stl
  rw [if_neg (fun z => absurd z.1 (Nat.lt_irrefl i))]
theorem stl_0 : stl nb B 0 Q = Q := by
  funext q
  unfold stl
  rw [if_neg (fun z => absurd z.1 (Nat.not_lt_zero q))]
theorem setR_upB {q : Nat} {f : Nat → Nat} {k v : Nat} : upB (setR Q q f) q k v = setR Q q (fun j => if j = k then v else f j) := by
  funext q' k'
  unfold upB setR
  by_cases c : q' = q
  · subst c
    by_cases d : k' = k
    · subst d; simp
    · simp [d]
  · simp [c]
theorem upB_setR {q : Nat} {k v : Nat} : upB Q q k v = setR Q q (fun j => if j = k then v else Q q j) := by
  funext q' k'
  unfold upB setR
  by_cases c : q' = q
  · subst c
    by_cases d : k' = k
    · subst d; simp
    · simp [d]
  · simp [c]
theorem QQ_stl {i : Nat} (h : QQ nq Q) : QQ nq (stl nb B i Q) := by
  refine ⟨h.1, fun q hq => ?_⟩
  have hh := h.2 q hq
  unfold stl
  by_cases c : q < i ∧ stB nb B (Q q) = true
  · rw [if_pos c]
    exact ⟨hh.1, hh.2.1, hh.2.2.1, hh.2.2.2.1, hh.2.2.2.2.1, by show 1 ≤ 1; decide⟩
  · rw [if_neg c]
    exact hh
theorem uw_le (hI : BI nb B) (hb : b < nb) : uw nb B qr b ≤ 999 := by
  have hbi := hI.2 b hb
  unfold uw
  repeat' split
  all_goals omega
theorem wt_le (hI : BI nb B) (hb : b < nb) (hn : n ≤ 6) : wt nb B Q b n ≤ 5994 := by
  have := sumTo_le (f := fun q => if Q q 4 = 0 ∧ (Q q 1).testBit (B b 0) = true then uw nb B (Q q) b else 0) (c := 999) n (fun i hi => by
    have := uw_le (qr := Q i) hI hb
    show (if _ then _ else 0) ≤ 999
    split <;> omega)
  unfold wt
  omega
theorem wo_le (hI : BI nb B) (hb : b < nb) (hn : nq ≤ 6) : wo pl nb B nq Q b ≤ 15984 := by
  have hbi := hI.2 b hb
  have h1 := wt_le (Q := Q) hI hb hn
  have h2 : (B b 3 - B b 4) * (B b 2 - B b 1) ≤ 16 * 999 := Nat.mul_le_mul (by omega) (by omega)
  unfold wo
  split <;> omega
end MC
