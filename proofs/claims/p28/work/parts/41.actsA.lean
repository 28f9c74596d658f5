/-! THE STEPS: rows are added and changed, blocks narrowed, reads forgotten -/
def BR (f : Nat → Nat) : Prop := f 0 < 4 ∧ f 1 ≤ f 2 ∧ f 2 ≤ 999 ∧ 1 ≤ f 3 ∧ f 3 ≤ 16 ∧ f 4 ≤ f 3 ∧ ∀ r, r < f 3 → f 1 ≤ f (5 + r) ∧ f (5 + r) ≤ f 2
section SA
variable {m m' : SM} {nb nq pl tu b q k how ls n v : Nat} {B B2 Q : BK}
theorem BI_one (h : BI nb B) (ho : ∀ x, x ≠ b → B2 x = B x) (hb : BR (B2 b)) : BI nb B2 := by
  refine ⟨h.1, fun x hx => ?_⟩
  by_cases c : x = b
  · subst c; exact hb
  · rw [ho x c]; exact h.2 x hx
theorem upB_x {x : Nat} (h : x ≠ b) : upB B b k v x = B x := by
  funext j
  exact upB_o (Or.inl h)
theorem setM (hI : BI nb B) (hQQ : QQ nq Q) (hB : CB m nb B) (hQ : CQ m nq Q) (hH : CH m pl tu) : ∃ m', f_X4_settle m = some (0, m') ∧ RC m' (nb, nq, pl, tu, B, stl nb B nq Q) ∧ ∀ c, c < 19 → m' c = m c := by
  obtain ⟨m', p1, p2, p3, p4⟩ := settleC_s hI hQQ hB hQ
  exact ⟨m', p1, ⟨hB.fr hI.1 p2, p3, hH.fr p2, p4⟩, p2⟩
theorem hasR_f (h : f_X4_hasBlock m (nI b) = some (nI 1)) (hb : b < 8) (h4 : m (3 + b) 4 = nI n) (hn : n ≤ 16) (p : Int32) : (f_X4_hasRow m (nI b) p = some (nI 0) ∧ (p < 0 ∨ ∃ r, n ≤ r ∧ r < 2 ^ 31 ∧ p = nI r)) ∨ ∃ r, r < n ∧ p = nI r ∧ f_X4_hasRow m (nI b) p = some (nI 1) := by
  unfold f_X4_hasRow
  rcases nI_ex p with ⟨r, hr, rfl⟩ | hp
  · by_cases c : r < n
    · right
      refine ⟨r, c, rfl, ?_⟩
      have e := ft_t c (by omega)
      simp (disch := omega) only [ile_t, ile_f, ilt_t, ilt_f, ieq_t, ieq_f, gd_nI, gn_nI, gz_nI, b1_some, bd_some, lt1_eq, nI_add, nI_mul, nI_clamp, if_true, if_false, h, h4, e]
    · left
      refine ⟨?_, Or.inr ⟨r, by omega, hr, rfl⟩⟩
      have e := ft_f (n := n) (b := r) (by omega) (by omega) hr
      simp (disch := omega) only [ile_t, ile_f, ilt_t, ilt_f, ieq_t, ieq_f, gd_nI, gn_nI, gz_nI, b1_some, bd_some, lt1_eq, nI_add, nI_mul, nI_clamp, if_true, if_false, h, h4, e]
  · left
    refine ⟨?_, Or.inl hp⟩
    have e := ft_n (y := nI n - nI 1) hp
    simp (disch := omega) only [ile_t, ile_f, ilt_t, ilt_f, ieq_t, ieq_f, gd_nI, gn_nI, gz_nI, b1_some, bd_some, lt1_eq, nI_add, nI_mul, nI_clamp, if_true, if_false, h, h4, e]
end SA
