/-! THE CLASS: the history's ring; a block out of the text -/
def HC (M : MM) (hn od : Nat) (Hs : Nat → AS) : Prop := M 8 1 1 = nI od ∧ M 8 1 2 = nI hn ∧ od < 4 ∧ ∀ h, h < hn → RC (M (3 + (od + h) % 4)) (Hs h)
/-- all but the state that is now and the history -/
def HX (M M' : MM) : Prop := M' 1 = M 1 ∧ M' 2 = M 2 ∧ M' 7 = M 7 ∧ M' 9 = M 9 ∧ M' 8 0 = M 8 0
section CEE
variable {M : MM} {m mz : SM} {nb nq pl tu b q k how ls lim n hn od : Nat} {B Q : BK} {S : AS} {Hs : Nat → AS}
theorem recordC_s (hS : SI S) (h0 : RC (M 0) S) (hH : HC M hn od Hs) (hh : hn ≤ 4) : ∃ M' od', f_X2_record M = some (0, M') ∧ HX M M' ∧ M' 0 = M 0 ∧ HC M' (puN hn) od' (puH hn Hs S) := by
  obtain ⟨a1, a2, a3, a4⟩ := hH
  have hs : (od + hn) % 4 < 4 := Nat.mod_lt _ (by decide)
  obtain ⟨m', p1, p2⟩ := copyC_s (m := M (3 + (od + hn) % 4)) hS h0
  have n8 : 8 ≠ 3 + (od + hn) % 4 := by omega
  have e8 : gs M (3 + (od + hn) % 4) m' 8 = M 8 := gs_ne n8
  have e81 : gs M (3 + (od + hn) % 4) m' 8 1 1 = nI od := by rw [e8]; exact a1
  have e82 : gs M (3 + (od + hn) % 4) m' 8 1 2 = nI hn := by rw [e8]; exact a2
  unfold f_X2_record
  simp (disch := omega) only [ile_t, ile_f, ilt_t, ilt_f, ieq_t, ieq_f, gd_nI, gn_nI, gz_nI, b1_some, bd_some, lt1_eq, nI_add, nI_mul, nI_clamp, if_true, if_false, a1, a2, nI_mod, p1, e81, e82]
  unfold puN puH
  by_cases c : hn = 4
  · subst c
    rw [ile_t (by decide) (by decide), if_pos rfl, if_pos rfl]
    refine ⟨_, (od + 1) % 4, rfl, ⟨?_, ?_, ?_, ?_, ?_⟩, ?_, ?_, ?_, Nat.mod_lt _ (by decide), fun h hlt => ?_⟩
    · rw [gs_ne (by decide), gs_ne (by omega)]
    · rw [gs_ne (by decide), gs_ne (by omega)]
    · rw [gs_ne (by decide), gs_ne (by omega)]
    · rw [gs_ne (by decide), gs_ne (by omega)]
    · rw [gs_at, up_c (by decide), e8]
    · rw [gs_ne (by decide), gs_ne (by omega)]
    · rw [gs_at, up_same]
    · rw [gs_at, up_o (Or.inr (by decide)), e82]
    · have hm : ((od + 1) % 4 + h) % 4 < 4 := Nat.mod_lt _ (by decide)
      rw [gs_ne (by omega)]
      by_cases d : h = 3
      · subst d
        rw [show ((od + 1) % 4 + 3) % 4 = (od + 4) % 4 by omega, gs_at]
        exact p2
      · rw [gs_ne (by omega), show ((od + 1) % 4 + h) % 4 = (od + (h + 1)) % 4 by omega]
        show RC _ (if h = 3 then S else Hs (h + 1))
        rw [if_neg d]
        exact a4 (h + 1) (by omega)
  · rw [ile_f (by omega) (by decide), if_neg c, if_neg c]
    refine ⟨_, od, rfl, ⟨?_, ?_, ?_, ?_, ?_⟩, ?_, ?_, ?_, a3, fun h hlt => ?_⟩
    · rw [gs_ne (by decide), gs_ne (by omega)]
    · rw [gs_ne (by decide), gs_ne (by omega)]
    · rw [gs_ne (by decide), gs_ne (by omega)]
    · rw [gs_ne (by decide), gs_ne (by omega)]
    · rw [gs_at, up_c (by decide), e8]
    · rw [gs_ne (by decide), gs_ne (by omega)]
    · rw [gs_at, up_o (Or.inr (by decide)), e81]
    · rw [gs_at, up_same]
    · have hm : (od + h) % 4 < 4 := Nat.mod_lt _ (by decide)
      rw [gs_ne (by omega)]
      show RC _ (if h = hn then S else Hs h)
      by_cases d : h = hn
      · subst d
        rw [gs_at, if_pos rfl]
        exact p2
      · rw [gs_ne (by omega), if_neg d]
        exact a4 h (by omega)
/-- a block made of the text's numbers is put behind -/
theorem addBC_s {f : Nat → Nat} (hI : BI nb B) (hB : CB m nb B) (h8 : nb < 8) (t0 : mz 0 4 = nI (f 0)) (t1 : mz 0 5 = nI (f 1)) (t2 : mz 0 6 = nI (f 2)) (t3 : mz 0 7 = nI (f 3)) (f4 : f 4 = 0) (f16 : f 3 ≤ 16) (tv : ∀ r, r < f 3 → mz 2 r = nI (f (5 + r)) ∧ f (5 + r) ≤ 999) : ∃ m', f_X4_appendBlock m mz = some (nI nb, m') ∧ (∀ c, c ≠ 0 → c < 3 ∨ 19 ≤ c → m' c = m c) ∧ (∀ k, k ≠ 2 → m' 0 k = m 0 k) ∧ CB m' (nb + 1) (setR B nb f) := by
  have n11 : 3 + nb ≠ 11 + nb := by omega
  have n11' : 11 + nb ≠ 3 + nb := by omega
  have eB : ∀ k, setR B nb f nb k = f k := fun k => by unfold setR; rw [if_pos rfl]
  unfold f_X4_appendBlock
  rw [hB.1, ilt_t h8 (by decide), gd_nI h8 (by decide), nI_clamp (by omega)]
  unfold f_X0_copyFromText
  simp only [lt1_eq]
  generalize hm1 : up (up (up (up (sc m (11 + nb) (va_cpy (mz 2) (m (11 + nb)) 0 0 16)) (3 + nb) 1 (mz 0 4)) (3 + nb) 2 (mz 0 5)) (3 + nb) 3 (mz 0 6)) (3 + nb) 4 (mz 0 7) = m1
  have g1 : ∀ c, c ≠ 3 + nb → c ≠ 11 + nb → m1 c = m c := fun c h1 h2 => by rw [← hm1, up_c h1, up_c h1, up_c h1, up_c h1, sc_ne h2]
  obtain ⟨m2, p1, p2, p3⟩ := readFirst_s (m := m1) (B := setR B nb f) (b := nb) (h := 0) (Nat.zero_le _) (by rw [eB]; exact f16) (fun r hr => by
    rw [eB]
    rw [eB] at hr
    exact (tv r hr).2) (by rw [eB, ← hm1, up_o (Or.inr (by decide)), up_o (Or.inr (by decide)), up_o (Or.inr (by decide)), up_same]; exact t0) (by rw [eB, ← hm1, up_o (Or.inr (by decide)), up_o (Or.inr (by decide)), up_same]; exact t1) (by rw [eB, ← hm1, up_o (Or.inr (by decide)), up_same]; exact t2) (by rw [eB, ← hm1, up_same]; exact t3) (fun r hr => by
    rw [eB] at hr
    rw [eB, ← hm1, up_c n11', up_c n11', up_c n11', up_c n11', sc_at]
    show (if 0 ≤ r ∧ r < 0 + 16 then mz 2 (0 + (r - 0)) else m (11 + nb) r) = _
    rw [if_pos ⟨Nat.zero_le _, by omega⟩, Nat.zero_add, Nat.sub_zero]
    exact (tv r hr).1)
  rw [p1]
  simp only [bd_some]
  have e0 : m2 0 2 = nI nb := by rw [p2 0 (by omega), g1 0 (by omega) (by omega)]; exact hB.1
  have e1 : nI (nb + 1) - nI 1 = nI nb := by rw [nI_sub (by omega), Nat.add_sub_cancel]
  rw [e0, nI_add, up_same, e1]
  have fr : ∀ c, c ≠ 0 → c ≠ 3 + nb → c ≠ 11 + nb → up m2 0 2 (nI (nb + 1)) c = m c := fun c h0 h1 h2 => by rw [up_c h0, p2 c h1, g1 c h1 h2]
  refine ⟨_, rfl, fun c h0 hc => fr c h0 (by omega) (by omega), fun k hk => by rw [up_o (Or.inr hk), p2 0 (by omega), g1 0 (by omega) (by omega)], up_same, fun x hx => ?_⟩
  by_cases c : x = nb
  · subst c
    have q3 := p3.bk (B2 := setR B x f) (fun k => by
      by_cases d : k = 4
      · subst d; rw [upB_at, eB]; exact f4
      · rw [upB_o (Or.inr d)])
    exact q3.cp (up_c (by omega)) (up_c (by omega))
  · have hx' : x < nb := by omega
    exact ((hB.2 x hx').cp (fr _ (by omega) (by omega) (by omega)) (fr _ (by omega) (by omega) (by omega))).bk (fun k => by unfold setR; rw [if_neg c])
end CEE
