/-! THE REFERENCE: states are copied; runs of reads -/
abbrev AS : Type := Nat × Nat × Nat × Nat × BK × BK
def ZR (z : Nat → Int32) (S : AS) : Prop := ZB z S.1 S.2.2.2.2.1 ∧ ZQ z S.2.1 S.2.2.2.2.2 ∧ ZH z S.2.2.1 S.2.2.2.1
theorem ZR.cp {z z2 : Nat → Int32} {S : AS} (h : ZR z S) (hz : ∀ k, k < 220 → z2 k = z k) : ZR z2 S := by
  obtain ⟨⟨b0, b1⟩, ⟨q0, q1⟩, ⟨h0, h1⟩⟩ := h
  exact ⟨⟨by rw [hz 0 (by decide)]; exact b0, fun b k hb hk => by rw [hz _ (by omega)]; exact b1 b k hb hk⟩, ⟨by rw [hz 1 (by decide)]; exact q0, fun b k hb hk => by rw [hz _ (by omega)]; exact q1 b k hb hk⟩, by rw [hz 2 (by decide)]; exact h0, by rw [hz 3 (by decide)]; exact h1⟩
/-- the reference's history -/
def HM (m : SM) (hn : Nat) (Hs : Nat → AS) : Prop := m 0 3 = nI hn ∧ ∀ h, h < hn → ZR (fun k => m 2 (220 * h + k)) (Hs h)
def puN (hn : Nat) : Nat := if hn = 4 then 4 else hn + 1
def puH (hn : Nat) (Hs : Nat → AS) (S : AS) : Nat → AS := if hn = 4 then (fun h => if h = 3 then S else Hs (h + 1)) else (fun h => if h = hn then S else Hs h)
/-- all but z, the history and what is scratch -/
def SY (m m' : SM) : Prop := m' 3 = m 3 ∧ m' 4 = m 4 ∧ m' 5 = m 5 ∧ m' 0 4 = m 0 4 ∧ m' 0 7 = m 0 7
theorem SY.rf {m : SM} : SY m m := ⟨rfl, rfl, rfl, rfl, rfl⟩
theorem SY.tr {m m1 m2 : SM} (h : SY m m1) (h2 : SY m1 m2) : SY m m2 := by
  obtain ⟨a1, a2, a3, a4, a5⟩ := h
  obtain ⟨b1, b2, b3, b4, b5⟩ := h2
  exact ⟨b1.trans a1, b2.trans a2, b3.trans a3, b4.trans a4, b5.trans a5⟩
theorem SX.y {m m' : SM} (h : SX m m') : SY m m' := ⟨h.2.1, h.2.2.1, h.2.2.2.1, h.2.2.2.2.2.1, h.2.2.2.2.2.2⟩
theorem HM.x {m m' : SM} {hn : Nat} {Hs : Nat → AS} (h : HM m hn Hs) (s : SX m m') : HM m' hn Hs := ⟨by rw [s.2.2.2.2.1]; exact h.1, by rw [s.1]; exact h.2⟩
section ME
variable {m : SM} {nb nq pl tu b q k how ls n hn : Nat} {B Q : BK} {S : AS} {Hs : Nat → AS}
theorem rec_hist4 {m m' : SM} (hZ : ZR (m 1) S) (hH : ∀ h, h < 4 → ZR (fun k => m 2 (220 * h + k)) (Hs h)) (a1 : ∀ k, k < 220 → m' 2 (660 + k) = m 1 k) (a2 : ∀ j, j < 660 → m' 2 j = m 2 (j + 220)) : ∀ h, h < 4 → ZR (fun k => m' 2 (220 * h + k)) (if h = 3 then S else Hs (h + 1)) := by
  intro h hlt
  by_cases d : h = 3
  · subst d
    rw [if_pos rfl]
    exact hZ.cp (fun k hk => a1 k hk)
  · rw [if_neg d]
    refine (hH (h + 1) (by omega)).cp (fun k hk => ?_)
    have e : 220 * h + k + 220 = 220 * (h + 1) + k := by omega
    have e2 := a2 (220 * h + k) (by omega)
    rw [e] at e2
    exact e2
/-- a reading state in z -/
def ZT (z : Nat → Int32) (pl nb nq : Nat) (T : T3) : Prop := ZB z nb T.2.1 ∧ ZQ z nq T.2.2 ∧ ZH z pl T.1
theorem ua_le (hI : BI nb B) : ua nb B ≤ 128 := by
  have := ua_split hI nb (Nat.le_refl _)
  have := s3_le hI
  unfold ua
  omega
end ME
