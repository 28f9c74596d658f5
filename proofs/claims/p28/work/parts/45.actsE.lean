/-! THE STEPS: read, readOn, type, clearText, undo, keep, restore -/
section SEe
variable {m m' : SM} {M : MM} {nb nq pl tu b q k how ls n v t p : Nat} {B B2 Q Q2 : BK} {T : T3}
theorem SD_stp (h : SD nb T.2.1 nq T.2.2) : SD nb (stp pl nb nq T).2.1 nq (stp pl nb nq T).2.2 := by
  unfold stp
  cases e : nx pl T.1 nb T.2.1 nq T.2.2 with
  | none => exact h
  | some b => exact SD_stl
theorem SD_run {P : BK → Bool} : ∀ (n : Nat) (T : T3), SD nb T.2.1 nq T.2.2 → SD nb (run pl nb nq P n T).2.2.1 nq (run pl nb nq P n T).2.2.2
  | 0, T, h => h
  | n + 1, T, h => by
    unfold run
    by_cases c : P T.2.2 = true ∨ ua nb T.2.1 = 0
    · rw [if_pos c]; exact h
    · rw [if_neg c]; exact SD_run n _ (SD_stp h)
theorem nx_0 (hI : BI nb B) (h : ua nb B = 0) : nxI (nx pl tu nb B nq Q) = -5 := by
  cases e : nx pl tu nb B nq Q with
  | none => rfl
  | some b =>
    have h1 := nx_some e
    have h2 := ua_0 h b h1.1
    rw [h2] at h1
    exact absurd h1.2 (by decide)
theorem nx_1 (hI : BI nb B) (h : ua nb B ≠ 0) : ∃ b, nx pl tu nb B nq Q = some b ∧ b < 8 ∧ nxI (nx pl tu nb B nq Q) = nI b := by
  obtain ⟨b, e⟩ := nx_ex (pl := pl) (tu := tu) (nq := nq) (Q := Q) hI h
  have h1 := nx_some e
  have h8 := hI.1
  exact ⟨b, e, by omega, by rw [e]; rfl⟩
def nev : BK → Bool := fun _ => false
theorem run_nev : ∀ (n : Nat) (T : T3), TI nb nq T → (run pl nb nq nev n T).1 = min n (ua nb T.2.1)
  | 0, T, h => by show 0 = min 0 _; omega
  | n + 1, T, h => by
    unfold run
    by_cases c : ua nb T.2.1 = 0
    · rw [if_pos (Or.inr c), c]
      show 0 = min (n + 1) 0
      omega
    · rw [if_neg (by
        rintro (h | h)
        · exact absurd h (by unfold nev; decide)
        · exact c h)]
      have h1 := run_nev n (stp pl nb nq T) (TI_stp h)
      have h2 := ua_stp (pl := pl) h c
      show (run pl nb nq nev n (stp pl nb nq T)).1 + 1 = min (n + 1) (ua nb T.2.1)
      omega
theorem run_nev1 (hT : TI nb nq T) (hu : ua nb T.2.1 ≠ 0) : run pl nb nq nev (n + 1) T = ((run pl nb nq nev n (stp pl nb nq T)).1 + 1, (run pl nb nq nev n (stp pl nb nq T)).2) := by
  conv => lhs; unfold run
  rw [if_neg (by
    rintro (h | h)
    · exact absurd h (by unfold nev; decide)
    · exact hu h)]
theorem rdC_L (hpl : pl ≤ 2) (hp : p ≤ 128) : ∀ n k cnt (M : MM) (T : T3), k ≤ p → k < n → TI nb nq T → CT (M 0) pl nb nq T → ∃ m', f_X5_read_L44 (nI p) n M (nI cnt) (nI (p - k)) = some (nI (cnt + (run pl nb nq nev k T).1), gs M 0 m') ∧ CT m' pl nb nq (run pl nb nq nev k T).2 := by
  intro n
  induction n with
  | zero => intro k cnt M T h1 h2; omega
  | succ n ih =>
    intro k cnt M T h1 h2 hT hC
    rw [f_X5_read_L44.eq_2]
    cases k with
    | zero =>
      rw [ile_t (by omega) (by omega)]
      refine ⟨M 0, ?_, hC⟩
      rw [gs_self]
      rfl
    | succ k =>
      obtain ⟨m1, g1, g2⟩ := planC_s hpl hT hC
      rw [ile_f (by omega) (by omega), g1, bd_some, lt1_eq]
      by_cases d : ua nb T.2.1 = 0
      · have er : run pl nb nq nev (k + 1) T = (0, T) := by
          unfold run
          rw [if_pos (Or.inr d)]
        rw [stp_0 d] at g2
        rw [er, if_pos d, ieq_t rfl]
        exact ⟨m1, rfl, g2⟩
      · rw [run_nev1 hT d, if_neg d, ieq_f (by decide) (by decide) (by decide), nI_add, nI_add]
        obtain ⟨m', p1, p2⟩ := ih k (cnt + 1) (gs M 0 m1) (stp pl nb nq T) (by omega) (by omega) (TI_stp hT) (by rw [gs_at]; exact g2)
        rw [gs_gs] at p1
        refine ⟨m', ?_, p2⟩
        have ek : p - (k + 1) + 1 = p - k := by omega
        rw [ek, p1, Nat.add_assoc, Nat.add_comm 1]
theorem SI_T (hT : TI nb nq T) (hpl : pl ≤ 2) (hS : SD nb T.2.1 nq T.2.2) : SI (nb, nq, pl, T.1, T.2.1, T.2.2) := ⟨hT.2.1, hT.2.2, hpl, hT.1, hS⟩
end SEe
