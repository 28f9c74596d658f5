/-! THE REFERENCE: its row of numbers holds a state -/
def ZB (z : Nat → Int32) (nb : Nat) (B : BK) : Prop := z 0 = nI nb ∧ ∀ b k, b < 8 → k < 21 → z (4 + 21 * b + k) = nI (B b k)
def ZQ (z : Nat → Int32) (nq : Nat) (Q : BK) : Prop := z 1 = nI nq ∧ ∀ q k, q < 6 → k < 8 → z (172 + 8 * q + k) = nI (Q q k)
def ZH (z : Nat → Int32) (pl tu : Nat) : Prop := z 2 = nI pl ∧ z 3 = nI tu
def upB (B : BK) (b k v : Nat) : BK := fun b' k' => if b' = b ∧ k' = k then v else B b' k'
/-- all but z and what is scratch -/
def SX (m m' : SM) : Prop := m' 2 = m 2 ∧ m' 3 = m 3 ∧ m' 4 = m 4 ∧ m' 5 = m 5 ∧ m' 0 3 = m 0 3 ∧ m' 0 4 = m 0 4 ∧ m' 0 7 = m 0 7
/-- all but what is scratch -/
def SE (m m' : SM) : Prop := SX m m' ∧ m' 1 = m 1
theorem SX.rf {m : SM} : SX m m := ⟨rfl, rfl, rfl, rfl, rfl, rfl, rfl⟩
theorem SX.tr {m m1 m2 : SM} (h : SX m m1) (h2 : SX m1 m2) : SX m m2 := by
  obtain ⟨a1, a2, a3, a4, a5, a6, a7⟩ := h
  obtain ⟨b1, b2, b3, b4, b5, b6, b7⟩ := h2
  exact ⟨b1.trans a1, b2.trans a2, b3.trans a3, b4.trans a4, b5.trans a5, b6.trans a6, b7.trans a7⟩
theorem SE.rf {m : SM} : SE m m := ⟨SX.rf, rfl⟩
theorem SE.tr {m m1 m2 : SM} (h : SE m m1) (h2 : SE m1 m2) : SE m m2 := ⟨h.1.tr h2.1, h2.2.trans h.2⟩
theorem SX.up1 {m : SM} {k : Nat} {v : Int32} : SX m (up m 1 k v) := ⟨up_c (by decide), up_c (by decide), up_c (by decide), up_c (by decide), up_o (Or.inl (by decide)), up_o (Or.inl (by decide)), up_o (Or.inl (by decide))⟩
theorem SE.upC {m : SM} {c k : Nat} {v : Int32} (hc : 6 ≤ c) : SE m (up m c k v) := ⟨⟨up_c (by omega), up_c (by omega), up_c (by omega), up_c (by omega), up_o (Or.inl (by omega)), up_o (Or.inl (by omega)), up_o (Or.inl (by omega))⟩, up_c (by omega)⟩
theorem SE.up0 {m : SM} {k : Nat} {v : Int32} (hk : 8 ≤ k) : SE m (up m 0 k v) := ⟨⟨up_c (by omega), up_c (by omega), up_c (by omega), up_c (by omega), up_o (Or.inr (by omega)), up_o (Or.inr (by omega)), up_o (Or.inr (by omega))⟩, up_c (by omega)⟩
section MA
variable {m : SM} {nb nq pl tu b q k how : Nat} {B Q : BK}
theorem FU_eq : FU = 1000 := rfl
theorem ZB.put {v : Nat} (h : ZB (m 1) nb B) (hk : k < 21) : ZB (up m 1 (4 + 21 * b + k) (nI v) 1) nb (upB B b k v) := by
  refine ⟨by rw [up_o (Or.inr (by omega))]; exact h.1, fun b' k' hb' hk' => ?_⟩
  unfold upB
  by_cases c : b' = b ∧ k' = k
  · obtain ⟨rfl, rfl⟩ := c
    rw [up_same, if_pos ⟨rfl, rfl⟩]
  · rw [up_o (Or.inr (by omega)), if_neg c]
    exact h.2 b' k' hb' hk'
theorem ZB.putQ {v : Int32} (h : ZB (m 1) nb B) : ZB (up m 1 (172 + k) v 1) nb B :=
  ⟨by rw [up_o (Or.inr (by omega))]; exact h.1, fun b' k' hb' hk' => by rw [up_o (Or.inr (by omega))]; exact h.2 b' k' hb' hk'⟩
theorem ZQ.put {v : Nat} (h : ZQ (m 1) nq Q) (hk : k < 8) : ZQ (up m 1 (172 + 8 * q + k) (nI v) 1) nq (upB Q q k v) := by
  refine ⟨by rw [up_o (Or.inr (by omega))]; exact h.1, fun b' k' hb' hk' => ?_⟩
  unfold upB
  by_cases c : b' = q ∧ k' = k
  · obtain ⟨rfl, rfl⟩ := c
    rw [up_same, if_pos ⟨rfl, rfl⟩]
  · rw [up_o (Or.inr (by omega)), if_neg c]
    exact h.2 b' k' hb' hk'
theorem ZQ.putB {v : Int32} (h : ZQ (m 1) nq Q) (hb : b < 8) (hk : k < 21) : ZQ (up m 1 (4 + 21 * b + k) v 1) nq Q :=
  ⟨by rw [up_o (Or.inr (by omega))]; exact h.1, fun b' k' hb' hk' => by rw [up_o (Or.inr (by omega))]; exact h.2 b' k' hb' hk'⟩
theorem ZH.put {v : Int32} (h : ZH (m 1) pl tu) (hk : 4 ≤ k) : ZH (up m 1 k v 1) pl tu :=
  ⟨by rw [up_o (Or.inr (by omega))]; exact h.1, by rw [up_o (Or.inr (by omega))]; exact h.2⟩
/-! the reads by layers -/
def LY (m : SM) (nb : Nat) (B : BK) (i : Nat) : Prop := ∀ l, l < 4 → m 6 l = nI (sumTo (fun b => if B b 0 = l then sRd B b else 0) i) ∧ m 7 l = nI (sumTo (fun b => if B b 0 = l then B b 4 else 0) i)
end MA
