/-! ALL THE STEPS, and the start -/
theorem all_steps : Steps Rel := ⟨st_addBlock, st_addRow, st_change, st_narrow, st_forget, st_ask, st_setTol, st_stop, st_drop, st_setPlan, st_read, st_readOn, st_readFrom, st_type, st_clearText, st_undo, st_keep, st_restore, st_block, st_value, st_question, st_next, st_stopsIn, st_best, st_count⟩
theorem z_nI : (0 : Int32) = nI 0 := by decide
theorem SI_0 : SI (0, 0, 0, 0, fun _ _ => 0, fun _ _ => 0) := ⟨⟨by decide, fun b hb => absurd hb (Nat.not_lt_zero b)⟩, ⟨by decide, fun b hb => absurd hb (Nat.not_lt_zero b)⟩, by decide, by decide, fun b hb => absurd hb (Nat.not_lt_zero b)⟩
theorem rel_0 : Rel (fun _ _ _ => 0) := by
  refine ⟨(0, 0, 0, 0, fun _ _ => 0, fun _ _ => 0), 0, fun _ => (0, 0, 0, 0, fun _ _ => 0, fun _ _ => 0), 0, (0, 0, 0, 0, fun _ _ => 0, fun _ _ => 0), 0, fun _ => 0, ⟨SI_0, by decide, fun h hh => absurd hh (Nat.not_lt_zero h), by decide, fun h => absurd h (by decide), by decide⟩, ⟨⟨?_, ?_, ?_, ?_⟩, ⟨0, ?_, ?_, by decide, fun h hh => absurd hh (Nat.not_lt_zero h)⟩, ?_, fun h => absurd h (by decide), ?_, fun i hi => absurd hi (Nat.not_lt_zero i)⟩, ⟨⟨?_, ?_, ?_⟩, ⟨?_, fun h hh => absurd hh (Nat.not_lt_zero h)⟩, ?_, fun h => absurd h (by decide), ?_, fun i hi => absurd hi (Nat.not_lt_zero i)⟩⟩
  · exact ⟨z_nI, fun b hb => absurd hb (Nat.not_lt_zero b)⟩
  · exact ⟨z_nI, fun b hb => absurd hb (Nat.not_lt_zero b)⟩
  · exact ⟨z_nI, z_nI⟩
  · exact fun q hq => absurd hq (Nat.not_lt_zero q)
  · exact z_nI
  · exact z_nI
  · exact z_nI
  · exact z_nI
  · exact ⟨z_nI, fun _ _ _ _ => z_nI⟩
  · exact ⟨z_nI, fun _ _ _ _ => z_nI⟩
  · exact ⟨z_nI, z_nI⟩
  · exact z_nI
  · exact z_nI
  · exact z_nI
