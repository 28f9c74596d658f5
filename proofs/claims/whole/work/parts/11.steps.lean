/-! THE STEPS: what the class and the reference owe each other, a call at a time -/
def stepOK (Rel : MM → Prop) (fc : MM → Option (Int32 × MM)) (fm : SM → Option (Int32 × SM)) : Prop := ∀ M, Rel M → ∃ r M1 m2, fc M = some (r, M1) ∧ fm (M1 9) = some (r, m2) ∧ Rel (gs M1 9 m2)
def pu {S : Type} (f : S → Option Int32) : S → Option (Int32 × S) := fun m => b1 (f m) (fun r => some (r, m))
theorem t_pu {S : Type} {f : S → Option Int32} {m m1 : S} {r : Int32} (h : pu f m = some (r, m1)) : f m = some r ∧ m = m1 := by
  obtain ⟨x, h1, h2⟩ := t_b1 h
  cases h2
  exact ⟨h1, rfl⟩
def Steps (Rel : MM → Prop) : Prop :=
  (stepOK Rel (fun M => f_X5_addBlock M) (fun m => f_X6_addBlock m)) ∧
  (∀ a0 a1 : Int32, stepOK Rel (fun M => f_X5_addRow M a0 a1) (fun m => f_X6_addRow m a0 a1)) ∧
  (∀ a0 a1 a2 : Int32, stepOK Rel (fun M => f_X5_change M a0 a1 a2) (fun m => f_X6_change m a0 a1 a2)) ∧
  (∀ a0 : Int32, stepOK Rel (fun M => f_X5_narrow M a0) (fun m => f_X6_narrow m a0)) ∧
  (stepOK Rel (fun M => f_X5_forget M) (fun m => f_X6_forget m)) ∧
  (∀ a0 a1 a2 a3 : Int32, stepOK Rel (fun M => f_X5_ask M a0 a1 a2 a3) (fun m => f_X6_ask m a0 a1 a2 a3)) ∧
  (∀ a0 a1 : Int32, stepOK Rel (fun M => f_X5_setTolerance M a0 a1) (fun m => f_X6_setTolerance m a0 a1)) ∧
  (∀ a0 : Int32, stepOK Rel (fun M => f_X5_stop M a0) (fun m => f_X6_stop m a0)) ∧
  (∀ a0 : Int32, stepOK Rel (fun M => f_X5_drop M a0) (fun m => f_X6_drop m a0)) ∧
  (∀ a0 : Int32, stepOK Rel (fun M => f_X5_setPlan M a0) (fun m => f_X6_setPlan m a0)) ∧
  (∀ a0 : Int32, stepOK Rel (fun M => f_X5_read M a0) (fun m => f_X6_read m a0)) ∧
  (stepOK Rel (fun M => f_X5_readOn M) (fun m => f_X6_readOn m)) ∧
  (∀ a0 : Int32, stepOK Rel (fun M => f_X5_readFrom M a0) (fun m => f_X6_readFrom m a0)) ∧
  (∀ a0 : Int32, stepOK Rel (fun M => f_X5_type M a0) (fun m => f_X6_type m a0)) ∧
  (stepOK Rel (fun M => f_X5_clearText M) (fun m => f_X6_clearText m)) ∧
  (stepOK Rel (fun M => f_X5_undo M) (fun m => f_X6_undo m)) ∧
  (stepOK Rel (fun M => f_X5_keep M) (fun m => f_X6_keep m)) ∧
  (stepOK Rel (fun M => f_X5_restore M) (fun m => f_X6_restore m)) ∧
  (∀ a0 a1 : Int32, stepOK Rel (pu (fun M => f_X5_block M a0 a1)) (fun m => f_X6_block m a0 a1)) ∧
  (∀ a0 a1 : Int32, stepOK Rel (pu (fun M => f_X5_value M a0 a1)) (pu (fun m => f_X6_value m a0 a1))) ∧
  (∀ a0 a1 : Int32, stepOK Rel (pu (fun M => f_X5_question M a0 a1)) (fun m => f_X6_question m a0 a1)) ∧
  (∀ a0 : Int32, stepOK Rel (pu (fun M => f_X5_next M a0)) (fun m => f_X6_next m a0)) ∧
  (∀ a0 : Int32, stepOK Rel (fun M => f_X5_stopsIn M a0) (fun m => f_X6_stopsIn m a0)) ∧
  (∀ a0 : Int32, stepOK Rel (fun M => f_X5_best M a0) (fun m => f_X6_best m a0)) ∧
  (∀ a0 : Int32, stepOK Rel (pu (fun M => f_X5_count M a0)) (pu (fun m => f_X6_count m a0)))
