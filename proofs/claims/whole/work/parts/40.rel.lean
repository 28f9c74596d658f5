/-! THE RELATION: class and reference hold the same state -/
def CLS (M : MM) (S : AS) (hn : Nat) (Hs : Nat → AS) (ks : Nat) (K : AS) (tl : Nat) (tx : Nat → Int32) : Prop := RC (M 0) S ∧ (∃ od, HC M hn od Hs) ∧ M 8 0 5 = nI ks ∧ (ks = 1 → RC (M 2) K) ∧ TC (M 7) tl tx
def REF (m : SM) (S : AS) (hn : Nat) (Hs : Nat → AS) (ks : Nat) (K : AS) (tl : Nat) (tx : Nat → Int32) : Prop := ZR (m 1) S ∧ HM m hn Hs ∧ m 0 4 = nI ks ∧ (ks = 1 → ZR (m 3) K) ∧ TM m tl tx
def INV (S : AS) (hn : Nat) (Hs : Nat → AS) (ks : Nat) (K : AS) (tl : Nat) : Prop := SI S ∧ hn ≤ 4 ∧ (∀ h, h < hn → SI (Hs h)) ∧ ks ≤ 1 ∧ (ks = 1 → SI K) ∧ tl ≤ 80
def Rel (M : MM) : Prop := ∃ (S : AS) (hn : Nat) (Hs : Nat → AS) (ks : Nat) (K : AS) (tl : Nat) (tx : Nat → Int32), INV S hn Hs ks K tl ∧ CLS M S hn Hs ks K tl tx ∧ REF (M 9) S hn Hs ks K tl tx
section RL
variable {M M2 : MM} {m m2 mc : SM} {S S2 K : AS} {hn ks tl nb nq pl tu b q k how ls n : Nat} {Hs : Nat → AS} {tx : Nat → Int32} {B Q : BK}
theorem CLS.fr (h : CLS M S hn Hs ks K tl tx) (hg : ∀ g, g ≠ 1 → g ≠ 9 → M2 g = M g) : CLS M2 S hn Hs ks K tl tx := by
  obtain ⟨a1, ⟨od, b1, b2, b3, b4⟩, a3, a4, a5⟩ := h
  refine ⟨by rw [hg 0 (by decide) (by decide)]; exact a1, ⟨od, by rw [hg 8 (by decide) (by decide)]; exact b1, by rw [hg 8 (by decide) (by decide)]; exact b2, b3, fun h hh => ?_⟩, by rw [hg 8 (by decide) (by decide)]; exact a3, by rw [hg 2 (by decide) (by decide)]; exact a4, by rw [hg 7 (by decide) (by decide)]; exact a5⟩
  have hm : (od + h) % 4 < 4 := Nat.mod_lt _ (by decide)
  rw [hg _ (by omega) (by omega)]
  exact b4 h hh
theorem REF.e (h : REF m S hn Hs ks K tl tx) (s : SE m m2) : REF m2 S hn Hs ks K tl tx := by
  obtain ⟨a1, a2, a3, a4, a5⟩ := h
  exact ⟨by rw [s.2]; exact a1, a2.x s.1, by rw [s.1.2.2.2.2.2.1]; exact a3, by rw [s.1.2.1]; exact a4, a5.e s⟩
/-- a step from its halves -/
theorem mkStep {fc : MM → Option (Int32 × MM)} {fm : SM → Option (Int32 × SM)} (h : ∀ (M : MM) (S : AS) (hn : Nat) (Hs : Nat → AS) (ks : Nat) (K : AS) (tl : Nat) (tx : Nat → Int32), INV S hn Hs ks K tl → CLS M S hn Hs ks K tl tx → REF (M 9) S hn Hs ks K tl tx → ∃ r M1 m2, fc M = some (r, M1) ∧ M1 9 = M 9 ∧ fm (M 9) = some (r, m2) ∧ ∃ S2 hn2 Hs2 ks2 K2 tl2 tx2, INV S2 hn2 Hs2 ks2 K2 tl2 ∧ CLS M1 S2 hn2 Hs2 ks2 K2 tl2 tx2 ∧ REF m2 S2 hn2 Hs2 ks2 K2 tl2 tx2) : stepOK Rel fc fm := by
  intro M ⟨S, hn, Hs, ks, K, tl, tx, h1, h2, h3⟩
  obtain ⟨r, M1, m2, p1, p2, p3, S2, hn2, Hs2, ks2, K2, tl2, tx2, q1, q2, q3⟩ := h M S hn Hs ks K tl tx h1 h2 h3
  refine ⟨r, M1, m2, p1, by rw [p2]; exact p3, S2, hn2, Hs2, ks2, K2, tl2, tx2, q1, q2.fr (fun g _ hg => gs_ne hg), ?_⟩
  rw [gs_at]
  exact q3
/-- a refused call, or a pure one -/
theorem same_fin {r : Int32} {fc : Option (Int32 × MM)} {fm : Option (Int32 × SM)} (hI : INV S hn Hs ks K tl) (hC : CLS M S hn Hs ks K tl tx) (hR : REF m S hn Hs ks K tl tx) (h9 : M2 9 = M 9) (hg : ∀ g, g ≠ 1 → g ≠ 9 → M2 g = M g) (s : SE m m2) (h1 : fc = some (r, M2)) (h2 : fm = some (r, m2)) : ∃ r M1 m2, fc = some (r, M1) ∧ M1 9 = M 9 ∧ fm = some (r, m2) ∧ ∃ S2 hn2 Hs2 ks2 K2 tl2 tx2, INV S2 hn2 Hs2 ks2 K2 tl2 ∧ CLS M1 S2 hn2 Hs2 ks2 K2 tl2 tx2 ∧ REF m2 S2 hn2 Hs2 ks2 K2 tl2 tx2 :=
  ⟨r, M2, m2, h1, h9, h2, S, hn, Hs, ks, K, tl, tx, hI, hC.fr hg, hR.e s⟩
theorem ref_fin {r : Int32} {fc : Option (Int32 × MM)} {fm : Option (Int32 × SM)} (hI : INV S hn Hs ks K tl) (hC : CLS M S hn Hs ks K tl tx) (hR : REF m S hn Hs ks K tl tx) (h1 : fc = some (r, M)) (h2 : fm = some (r, m)) : ∃ r M1 m2, fc = some (r, M1) ∧ M1 9 = M 9 ∧ fm = some (r, m2) ∧ ∃ S2 hn2 Hs2 ks2 K2 tl2 tx2, INV S2 hn2 Hs2 ks2 K2 tl2 ∧ CLS M1 S2 hn2 Hs2 ks2 K2 tl2 tx2 ∧ REF m2 S2 hn2 Hs2 ks2 K2 tl2 tx2 :=
  same_fin hI hC hR rfl (fun _ _ _ => rfl) SE.rf h1 h2
/-- both record, then both change what is now -/
theorem act_rec (hI : INV S hn Hs ks K tl) (hC : CLS M S hn Hs ks K tl tx) (hR : REF m S hn Hs ks K tl tx) : ∃ M1 m1, f_X2_record M = some (0, M1) ∧ f_X6_record m = some (0, m1) ∧ M1 0 = M 0 ∧ M1 9 = M 9 ∧ M1 7 = M 7 ∧ M1 2 = M 2 ∧ m1 1 = m 1 ∧ m1 3 = m 3 ∧ m1 8 = m 8 ∧ m1 0 15 = m 0 15 ∧ ∀ {r : Int32} {fc : Option (Int32 × MM)} {fm : Option (Int32 × SM)} {M2 : MM} {m2 : SM} {S2 : AS}, SI S2 → (∀ g, g ≠ 0 → M2 g = M1 g) → RC (M2 0) S2 → SX m1 m2 → ZR (m2 1) S2 → fc = some (r, M2) → fm = some (r, m2) → ∃ r M1 m2, fc = some (r, M1) ∧ M1 9 = M 9 ∧ fm = some (r, m2) ∧ ∃ S2 hn2 Hs2 ks2 K2 tl2 tx2, INV S2 hn2 Hs2 ks2 K2 tl2 ∧ CLS M1 S2 hn2 Hs2 ks2 K2 tl2 tx2 ∧ REF m2 S2 hn2 Hs2 ks2 K2 tl2 tx2 := by
  obtain ⟨i1, i2, i3, i4, i5, i6⟩ := hI
  obtain ⟨c1, ⟨od, c2⟩, c3, c4, c5⟩ := hC
  obtain ⟨r1, r2, r3, r4, r5⟩ := hR
  obtain ⟨M1, od', p1, p2, p3, p4⟩ := recordC_s i1 c1 c2 i2
  obtain ⟨m1, q1, ⟨q2, q8, q15⟩, q3, q4⟩ := record_s r1 r2 i2
  obtain ⟨x1, x2, x7, x9, x8⟩ := p2
  obtain ⟨y3, y4, y5, y04, y07⟩ := q2
  refine ⟨M1, m1, p1, q1, p3, x9, x7, x2, q3, y3, q8, q15, ?_⟩
  intro r fc fm M2 m2 S2 hS hg hc hx hz h1 h2
  obtain ⟨z2, z3, z4, z5, z03, z04, z07⟩ := hx
  refine ⟨r, M2, m2, h1, by rw [hg 9 (by decide)]; exact x9, h2, S2, puN hn, puH hn Hs S, ks, K, tl, tx, ⟨hS, ?_, ?_, i4, i5, i6⟩, ⟨hc, ⟨od', ?_⟩, ?_, ?_, ?_⟩, ⟨hz, ?_, ?_, ?_, ?_⟩⟩
  · unfold puN
    by_cases d : hn = 4
    · rw [if_pos d]; exact Nat.le_refl 4
    · rw [if_neg d]; omega
  · intro h hh
    unfold puN at hh
    unfold puH
    by_cases d : hn = 4
    · rw [if_pos d] at hh
      rw [if_pos d]
      show SI (if h = 3 then S else Hs (h + 1))
      by_cases e : h = 3
      · rw [if_pos e]; exact i1
      · rw [if_neg e]; exact i3 (h + 1) (by omega)
    · rw [if_neg d] at hh
      rw [if_neg d]
      show SI (if h = hn then S else Hs h)
      by_cases e : h = hn
      · rw [if_pos e]; exact i1
      · rw [if_neg e]; exact i3 h (by omega)
  · obtain ⟨b1, b2, b3, b4⟩ := p4
    refine ⟨by rw [hg 8 (by decide)]; exact b1, by rw [hg 8 (by decide)]; exact b2, b3, fun h hh => ?_⟩
    rw [hg _ (by omega)]
    exact b4 h hh
  · rw [hg 8 (by decide), x8]; exact c3
  · rw [hg 2 (by decide), x2]; exact c4
  · rw [hg 7 (by decide), x7]; exact c5
  · exact ⟨by rw [z03]; exact q4.1, by rw [z2]; exact q4.2⟩
  · rw [z04, y04]; exact r3
  · rw [z3, y3]; exact r4
  · exact ⟨by rw [z07, y07]; exact r5.1, by rw [z5, y5]; exact r5.2⟩
/-! arguments: which block, which question, from .. to -/
theorem ftN {x y : Nat} (p : Int32) (hx : x < 2 ^ 31) (hy : y < 2 ^ 31) : f_X5_isFromTo p (nI x) (nI y) = some (nI 0) ∨ ∃ n, p = nI n ∧ x ≤ n ∧ n ≤ y ∧ f_X5_isFromTo p (nI x) (nI y) = some (nI 1) := by
  rcases nI_ex p with ⟨n, hn, rfl⟩ | hp
  · rw [isFT hn hx hy]
    by_cases c : x ≤ n ∧ n ≤ y
    · rw [if_pos c]
      exact Or.inr ⟨n, rfl, c.1, c.2, rfl⟩
    · rw [if_neg c]
      exact Or.inl rfl
  · left
    unfold f_X5_isFromTo
    rw [if_pos (lt_nI_neg hp hx)]
theorem in_eq {p0 p1 p2 : Int32} : f_X6_in p0 p1 p2 = f_X5_isFromTo p0 p1 p2 := rfl
theorem blk (p : Int32) (hn : nb ≤ 8) (h : CB mc nb B) (hz : ZB (m 1) nb B) : (f_X4_hasBlock mc p = some (nI 0) ∧ f_X6_isBlock m p = some (nI 0)) ∨ ∃ b, b < nb ∧ p = nI b ∧ f_X4_hasBlock mc p = some (nI 1) ∧ f_X6_isBlock m p = some (nI 1) := by
  unfold f_X6_isBlock
  rcases nI_ex p with ⟨b, hb, rfl⟩ | hp
  · by_cases c : b < nb
    · right
      refine ⟨b, c, rfl, hasB_t c hn h.1, ?_⟩
      simp (disch := omega) only [ile_t, ile_f, ilt_t, ilt_f, ieq_t, ieq_f, gd_nI, gn_nI, gz_nI, b1_some, bd_some, lt1_eq, nI_add, nI_mul, nI_clamp, if_true, if_false, hz.1]
    · left
      refine ⟨hasB_f (by omega) hb hn h.1, ?_⟩
      simp (disch := omega) only [ile_t, ile_f, ilt_t, ilt_f, ieq_t, ieq_f, gd_nI, gn_nI, gz_nI, b1_some, bd_some, lt1_eq, nI_add, nI_mul, nI_clamp, if_true, if_false, hz.1]
  · left
    exact ⟨hasB_n hp, by rw [if_pos (lt_nI_neg hp (by decide))]⟩
theorem qst (p : Int32) (hn : nq ≤ 6) (h : CQ mc nq Q) (hz : ZQ (m 1) nq Q) : (f_X4_hasQuestion mc p = some (nI 0) ∧ f_X6_isQuestion m p = some (nI 0)) ∨ ∃ q, q < nq ∧ p = nI q ∧ f_X4_hasQuestion mc p = some (nI 1) ∧ f_X6_isQuestion m p = some (nI 1) := by
  unfold f_X6_isQuestion
  rcases nI_ex p with ⟨q, hq, rfl⟩ | hp
  · by_cases c : q < nq
    · right
      refine ⟨q, c, rfl, hasQ_t c hn h.1, ?_⟩
      simp (disch := omega) only [ile_t, ile_f, ilt_t, ilt_f, ieq_t, ieq_f, gd_nI, gn_nI, gz_nI, b1_some, bd_some, lt1_eq, nI_add, nI_mul, nI_clamp, if_true, if_false, hz.1]
    · left
      refine ⟨hasQ_f (by omega) hq hn h.1, ?_⟩
      simp (disch := omega) only [ile_t, ile_f, ilt_t, ilt_f, ieq_t, ieq_f, gd_nI, gn_nI, gz_nI, b1_some, bd_some, lt1_eq, nI_add, nI_mul, nI_clamp, if_true, if_false, hz.1]
  · left
    exact ⟨hasQ_n hp, by rw [if_pos (lt_nI_neg hp (by decide))]⟩
/-! settled states -/
theorem SD_stl : SD nb B nq (stl nb B nq Q) := by
  intro q hq
  unfold stl
  by_cases c : q < nq ∧ stB nb B (Q q) = true
  · rw [if_pos c]
    unfold stB
    have e : setq nb B (Q q) 4 = 1 := rfl
    rw [e]
    rfl
  · rw [if_neg c]
    cases e : stB nb B (Q q) with
    | false => rfl
    | true => exact absurd ⟨hq, e⟩ c
theorem stl_SD (h : SD nb B nq Q) : stl nb B nq Q = Q := by
  funext q
  unfold stl
  by_cases c : q < nq ∧ stB nb B (Q q) = true
  · have := h q c.1
    rw [c.2] at this
    exact absurd this (by decide)
  · rw [if_neg c]
theorem SI_mk (h1 : BI nb B) (h2 : QQ nq Q) (h3 : pl ≤ 2) (h4 : tu < 8) : SI (nb, nq, pl, tu, B, stl nb B nq Q) := ⟨h1, QQ_stl h2, h3, h4, SD_stl⟩
/-- the class settles -/
theorem setC {M : MM} (hI : BI nb B) (hQQ : QQ nq Q) (hB : CB (M 0) nb B) (hQ : CQ (M 0) nq Q) (hH : CH (M 0) pl tu) : ∃ m', f_X4_settle (M 0) = some (0, m') ∧ RC (gs M 0 m' 0) (nb, nq, pl, tu, B, stl nb B nq Q) ∧ (∀ g, g ≠ 0 → gs M 0 m' g = M g) ∧ ∀ c, c < 19 → m' c = M 0 c := by
  obtain ⟨m', p1, p2, p3, p4⟩ := settleC_s hI hQQ hB hQ
  refine ⟨m', p1, ?_, fun g hg => gs_ne hg, p2⟩
  rw [gs_at]
  exact ⟨hB.fr hI.1 p2, p3, hH.fr p2, p4⟩
end RL
