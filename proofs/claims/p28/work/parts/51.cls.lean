/-! THE CALLS that the law makes, over what the class's cells hold: CI -/
def CI (M : MM) (S : AS) (tl : Nat) (tx : Nat → Int32) : Prop := SI S ∧ RC (M 0) S ∧ (∃ (hn od : Nat) (Hs : Nat → AS), hn ≤ 4 ∧ HC M hn od Hs) ∧ tl ≤ 80 ∧ TC (M 7) tl tx
section CI1
variable {M : MM} {m : SM} {S S2 : AS} {nb nq pl tu b q k how n t tl : Nat} {tx : Nat → Int32} {B Q : BK}
theorem HC.fr {hn od : Nat} {Hs : Nat → AS} {M2 : MM} (h : HC M hn od Hs) (h8 : M2 8 = M 8) (hg : ∀ g, 3 ≤ g → g < 7 → M2 g = M g) : HC M2 hn od Hs := by
  obtain ⟨b1, b2, b3, b4⟩ := h
  refine ⟨by rw [h8]; exact b1, by rw [h8]; exact b2, b3, fun h hh => ?_⟩
  have hm : (od + h) % 4 < 4 := Nat.mod_lt _ (by decide)
  rw [hg _ (by omega) (by omega)]
  exact b4 h hh
theorem CI.fr {M2 : MM} (h : CI M S tl tx) (hg : ∀ g, g ≠ 1 → g ≠ 9 → M2 g = M g) : CI M2 S tl tx := by
  obtain ⟨a1, a2, ⟨hn, od, Hs, a3, a4⟩, a5, a6⟩ := h
  exact ⟨a1, by rw [hg 0 (by decide) (by decide)]; exact a2, ⟨hn, od, Hs, a3, a4.fr (hg 8 (by decide) (by decide)) (fun g h1 h2 => hg g (by omega) (by omega))⟩, a5, by rw [hg 7 (by decide) (by decide)]; exact a6⟩
theorem CI.tr (h : CI M S tl tx) : CI (gs M 1 m) S tl tx := h.fr (fun _ h1 _ => gs_ne h1)
theorem CI.r9 (h : CI M S tl tx) : CI (gs M 9 m) S tl tx := h.fr (fun _ _ h9 => gs_ne h9)
theorem CI.txt {tl2 : Nat} {tx2 : Nat → Int32} (h : CI M S tl tx) (ht : TC m tl2 tx2) (h80 : tl2 ≤ 80) : CI (gs M 7 m) S tl2 tx2 := by
  obtain ⟨a1, a2, ⟨hn, od, Hs, a3, a4⟩, a5, a6⟩ := h
  exact ⟨a1, by rw [gs_ne (by decide)]; exact a2, ⟨hn, od, Hs, a3, a4.fr (gs_ne (by decide)) (fun g h1 h2 => gs_ne (by omega))⟩, h80, by rw [gs_at]; exact ht⟩
/-- it records, then what is now changes -/
theorem recI (h : CI M S tl tx) : ∃ M1, f_X2_record M = some (0, M1) ∧ M1 0 = M 0 ∧ M1 9 = M 9 ∧ M1 7 = M 7 ∧ ∀ {m : SM} {S2 : AS}, SI S2 → RC m S2 → CI (gs M1 0 m) S2 tl tx := by
  obtain ⟨a1, a2, ⟨hn, od, Hs, a3, a4⟩, a5, a6⟩ := h
  obtain ⟨M1, od', p1, ⟨x1, x2, x7, x9, x8⟩, p3, p4⟩ := recordC_s a1 a2 a4 a3
  refine ⟨M1, p1, p3, x9, x7, fun hS hC => ⟨hS, by rw [gs_at]; exact hC, ⟨puN hn, od', puH hn Hs S, ?_, p4.fr (gs_ne (by decide)) (fun g h1 h2 => gs_ne (by omega))⟩, a5, by rw [gs_ne (by decide), x7]; exact a6⟩⟩
  unfold puN
  by_cases d : hn = 4
  · rw [if_pos d]; exact Nat.le_refl 4
  · rw [if_neg d]; omega
theorem CI.cB (h : CI M (nb, nq, pl, tu, B, Q) tl tx) : CB (M 0) nb B := h.2.1.1
theorem CI.cQ (h : CI M (nb, nq, pl, tu, B, Q) tl tx) : CQ (M 0) nq Q := h.2.1.2.1
theorem CI.cH (h : CI M (nb, nq, pl, tu, B, Q) tl tx) : CH (M 0) pl tu := h.2.1.2.2.1
theorem CI.cW (h : CI M (nb, nq, pl, tu, B, Q) tl tx) : CW (M 0) nb B nq Q := h.2.1.2.2.2
theorem CI.bi (h : CI M (nb, nq, pl, tu, B, Q) tl tx) : BI nb B := h.1.1
theorem CI.qq (h : CI M (nb, nq, pl, tu, B, Q) tl tx) : QQ nq Q := h.1.2.1
theorem CI.plan (h : CI M (nb, nq, pl, tu, B, Q) tl tx) : pl ≤ 2 := h.1.2.2.1
theorem CI.turn (h : CI M (nb, nq, pl, tu, B, Q) tl tx) : tu < 8 := h.1.2.2.2.1
theorem CI.sd (h : CI M (nb, nq, pl, tu, B, Q) tl tx) : SD nb B nq Q := h.1.2.2.2.2
theorem CI.ti (h : CI M (nb, nq, pl, tu, B, Q) tl tx) : TI nb nq (tu, B, Q) := ⟨h.turn, h.bi, h.qq⟩
theorem CI.ct (h : CI M (nb, nq, pl, tu, B, Q) tl tx) : CT (M 0) pl nb nq (tu, B, Q) := h.2.1
/-! the text -/
theorem o_type {a0 : Int32} (h : CI M S tl tx) (ht : tl < 80) : ∃ M', f_X5_type M a0 = some (nI (tl + 1), M') ∧ M' 9 = M 9 ∧ CI M' S (tl + 1) (fun i => if i = tl then vp_nar .char a0 else tx i) := by
  have d5 := h.2.2.2.2
  have e1 : up (M 7) 1 tl (vp_nar .char a0) 0 2 = nI tl := by rw [up_o (Or.inl (by decide))]; exact d5.1
  refine ⟨gs M 7 (up (up (M 7) 1 tl (vp_nar .char a0)) 0 2 (nI (tl + 1))), ?_, gs_ne (by decide), h.txt ⟨up_same, fun i hi => ?_⟩ (by omega)⟩
  · unfold f_X5_type f_X1_append
    simp (disch := omega) only [ile_t, ile_f, ilt_t, ilt_f, ieq_t, ieq_f, gd_nI, gn_nI, gz_nI, b1_some, bd_some, lt1_eq, nI_add, nI_mul, nI_clamp, if_true, if_false, d5.1, e1, gs_at, up_same]
  · rw [up_c (by decide)]
    show _ = if i = tl then _ else _
    by_cases f : i = tl
    · subst f; rw [up_same, if_pos rfl]
    · rw [up_o (Or.inr f), if_neg f]
      exact d5.2 i (by omega)
theorem o_clear (h : CI M S tl tx) : ∃ M', f_X5_clearText M = some (nI tl, M') ∧ M' 9 = M 9 ∧ CI M' S 0 tx := by
  have d5 := h.2.2.2.2
  refine ⟨gs M 7 (up (M 7) 0 2 (nI 0)), ?_, gs_ne (by decide), h.txt ⟨up_same, fun i hi => by omega⟩ (by decide)⟩
  unfold f_X5_clearText
  simp only [lt1_eq, d5.1]
/-! blocks -/
theorem o_addBlock {la bo to : Nat} {v : Nat → Nat} (h : CI M (nb, nq, pl, tu, B, Q) tl tx) (hp : pP tl tx = .inr (la, bo, to, n, v)) (hW : inW bo to n v) (h8 : nb < 8) : ∃ M' B2, f_X5_addBlock M = some (nI nb, M') ∧ M' 9 = M 9 ∧ CI M' (nb + 1, nq, pl, tu, B2, stl (nb + 1) B2 nq Q) tl tx ∧ B2 nb 0 = la ∧ B2 nb 1 = bo ∧ B2 nb 2 = to ∧ B2 nb 3 = n ∧ B2 nb 4 = 0 ∧ (∀ r, r < n → B2 nb (5 + r) = v r) ∧ ∀ x, x ≠ nb → B2 x = B x := by
  have t80 := h.2.2.2.1
  obtain ⟨mt, e1, tC, tK⟩ := parse_s t80 h.2.2.2.2
  have b := pP_b (tx := tx) t80
  rw [hp] at e1 tK b
  have e1 : f_X1_parse (M 7) = some (nI 1, mt) := e1
  obtain ⟨k0, k1, k2, k3, k4⟩ := tK
  obtain ⟨b0, b1', b2, b3, b4, b5⟩ := b
  have k0 : mt 0 4 = nI la := k0
  have k1 : mt 0 5 = nI bo := k1
  have k2 : mt 0 6 = nI to := k2
  have k3 : mt 0 7 = nI n := k3
  have k4 : ∀ q, q < n → mt 2 q = nI (v q) := k4
  have b0 : la ≤ 3 := b0
  have b1' : bo ≤ 999 := b1'
  have b2 : to ≤ 999 := b2
  have b3 : 1 ≤ n := b3
  have b4 : n ≤ 16 := b4
  have b5 : ∀ q, q < n → v q ≤ 999 := b5
  have hC2 : CI (gs M 7 mt) (nb, nq, pl, tu, B, Q) tl tx := h.txt tC t80
  have g9 : gs M 7 mt 9 = M 9 := gs_ne (by decide)
  have g0 : gs M 7 mt 0 = M 0 := gs_ne (by decide)
  have g7 : gs M 7 mt 7 = mt := gs_at
  have e3 := inC_t hW b1' b2 b4 k1 k2 k3 k4
  have hI0 := h.bi
  have cB := h.cB
  have cQ := h.cQ
  have cH := h.cH
  have hQ0 := h.qq
  obtain ⟨M1, p1, p0, p9, p7, fin⟩ := recI hC2
  rw [g0] at p0
  rw [g7] at p7
  rw [g9] at p9
  generalize hf : (fun k => if k = 0 then la else if k = 1 then bo else if k = 2 then to else if k = 3 then n else if k = 4 then 0 else v (k - 5) : Nat → Nat) = f
  have f0 : f 0 = la := by rw [← hf]; rfl
  have f1 : f 1 = bo := by rw [← hf]; rfl
  have f2 : f 2 = to := by rw [← hf]; rfl
  have f3 : f 3 = n := by rw [← hf]; rfl
  have f4 : f 4 = 0 := by rw [← hf]; rfl
  have f5 : ∀ r, f (5 + r) = v r := fun r => by
    rw [← hf]
    show (if 5 + r = 0 then _ else if 5 + r = 1 then _ else if 5 + r = 2 then _ else if 5 + r = 3 then _ else if 5 + r = 4 then _ else v (5 + r - 5)) = v r
    rw [if_neg (by omega), if_neg (by omega), if_neg (by omega), if_neg (by omega), if_neg (by omega), Nat.add_sub_cancel_left]
  have eB : setR B nb f nb = f := by unfold setR; rw [if_pos rfl]
  have oB : ∀ x, x ≠ nb → setR B nb f x = B x := fun x hx => by unfold setR; rw [if_neg hx]
  have hBI2 : BI (nb + 1) (setR B nb f) := by
    refine ⟨by omega, fun x hx => ?_⟩
    by_cases d : x = nb
    · subst d
      rw [eB, f0, f1, f2, f3, f4]
      exact ⟨by omega, hW.1, b2, b3, b4, Nat.zero_le _, fun r hr => by rw [f5]; exact hW.2 r hr⟩
    · rw [oB x d]
      exact hI0.2 x (by omega)
  obtain ⟨m2, g1, g2, g3, g4⟩ := addBC_s (m := M1 0) (mz := mt) (f := f) hI0 (by rw [p0]; exact cB) (by omega) (by rw [f0]; exact k0) (by rw [f1]; exact k1) (by rw [f2]; exact k2) (by rw [f3]; exact k3) f4 (by rw [f3]; exact b4) (fun r hr => by
    rw [f3] at hr
    rw [f5]
    exact ⟨k4 r hr, b5 r hr⟩)
  obtain ⟨m3, s1, s2, s3⟩ := setM hBI2 hQ0 g4 (cQ.fr (by rw [g3 3 (by decide), p0]) (fun q hq => by rw [g2 _ (by omega) (by omega), p0])) (show CH m2 pl tu by unfold CH; rw [g3 4 (by decide), g3 5 (by decide), p0]; exact cH)
  refine ⟨gs M1 0 m3, setR B nb f, ?_, by rw [gs_ne (by decide)]; exact p9, fin (SI_mk hBI2 hQ0 h.plan h.turn) s2, by rw [eB]; exact f0, by rw [eB]; exact f1, by rw [eB]; exact f2, by rw [eB]; exact f3, by rw [eB]; exact f4, fun r _ => by rw [eB]; exact f5 r, oB⟩
  unfold f_X5_addBlock
  simp (disch := omega) only [ile_t, ile_f, ilt_t, ilt_f, ieq_t, ieq_f, gd_nI, gn_nI, gz_nI, b1_some, bd_some, lt1_eq, nI_add, nI_mul, nI_clamp, if_true, if_false, e1, g7, g0, e3, cB.1, p1, p7, g1, gs_at, gs_gs, s1]
theorem o_block (h : CI M (nb, nq, pl, tu, B, Q) tl tx) (hb : b < nb) (hk : k < 5) : f_X5_block M (nI b) (nI k) = some (nI (B b k)) := by
  have h8 := h.bi.1
  have e1 := hasB_t hb h8 h.cB.1
  obtain ⟨c1, c2, c3, c4, c5, c6, c7, c8, c9⟩ := h.cB.2 b hb
  unfold f_X5_block
  rcases n5 hk with rfl | rfl | rfl | rfl | rfl
  · simp (disch := omega) only [ile_t, ile_f, ilt_t, ilt_f, ieq_t, ieq_f, gd_nI, gn_nI, gz_nI, b1_some, bd_some, lt1_eq, nI_add, nI_mul, nI_clamp, if_true, if_false, e1, c1]
  · simp (disch := omega) only [ile_t, ile_f, ilt_t, ilt_f, ieq_t, ieq_f, gd_nI, gn_nI, gz_nI, b1_some, bd_some, lt1_eq, nI_add, nI_mul, nI_clamp, if_true, if_false, e1, c2]
  · simp (disch := omega) only [ile_t, ile_f, ilt_t, ilt_f, ieq_t, ieq_f, gd_nI, gn_nI, gz_nI, b1_some, bd_some, lt1_eq, nI_add, nI_mul, nI_clamp, if_true, if_false, e1, c3]
  · simp (disch := omega) only [ile_t, ile_f, ilt_t, ilt_f, ieq_t, ieq_f, gd_nI, gn_nI, gz_nI, b1_some, bd_some, lt1_eq, nI_add, nI_mul, nI_clamp, if_true, if_false, e1, c4]
  · simp (disch := omega) only [ile_t, ile_f, ilt_t, ilt_f, ieq_t, ieq_f, gd_nI, gn_nI, gz_nI, b1_some, bd_some, lt1_eq, nI_add, nI_mul, nI_clamp, if_true, if_false, e1, c5]
theorem o_value {r : Nat} (h : CI M (nb, nq, pl, tu, B, Q) tl tx) (hb : b < nb) (hr : r < B b 3) : f_X5_value M (nI b) (nI r) = some (if B b 4 ≤ r then -4 else nI (B b (5 + r))) := by
  have h8 := h.bi.1
  have hbi := h.bi.2 b hb
  have e1 := hasB_t hb h8 h.cB.1
  obtain ⟨c1, c2, c3, c4, c5, c6, c7, c8, c9⟩ := h.cB.2 b hb
  have x1 : f_X4_hasRow (M 0) (nI b) (nI r) = some (nI 1) := by
    have e2 := ft_t (b := r) (n := B b 3) hr (by omega)
    unfold f_X4_hasRow
    simp (disch := omega) only [ile_t, ile_f, ilt_t, ilt_f, ieq_t, ieq_f, gd_nI, gn_nI, gz_nI, b1_some, bd_some, lt1_eq, nI_add, nI_mul, nI_clamp, if_true, if_false, e1, c4, e2]
  have c9 := c9 r hr
  unfold f_X5_value
  by_cases d : B b 4 ≤ r
  · rw [if_pos d]
    simp (disch := omega) only [ile_t, ile_f, ilt_t, ilt_f, ieq_t, ieq_f, gd_nI, gn_nI, gz_nI, b1_some, bd_some, lt1_eq, nI_add, nI_mul, nI_clamp, if_true, if_false, x1, c5]
  · rw [if_neg d]
    simp (disch := omega) only [ile_t, ile_f, ilt_t, ilt_f, ieq_t, ieq_f, gd_nI, gn_nI, gz_nI, b1_some, bd_some, lt1_eq, nI_add, nI_mul, nI_clamp, if_true, if_false, x1, c5, c9]
/-! questions -/
theorem ask_e {k l li t : Nat} (hk : k ≤ 4) (hl1 : 1 ≤ l) (hl2 : l ≤ 15) (hli : li ≤ (if k = 1 then 999 else 0)) (ht : t ≤ 99999) : f_X5_ask M (nI k) (nI l) (nI li) (nI t) = f_X5_ask_L55 (nI k) (nI l) (nI li) (nI t) M (nI 1) := by
  have e1 := isFT (b := k) (q := 0) (k := 4) (by omega) (by decide) (by decide)
  have e2 := isFT (b := l) (q := 1) (k := 15) (by omega) (by decide) (by decide)
  have e4 := isFT (b := t) (q := 0) (k := 99999) (by omega) (by decide) (by decide)
  rw [if_pos ⟨Nat.zero_le _, hk⟩] at e1
  rw [if_pos ⟨hl1, hl2⟩] at e2
  rw [if_pos ⟨Nat.zero_le _, ht⟩] at e4
  unfold f_X5_ask
  by_cases c : k = 1
  · subst c
    rw [if_pos rfl] at hli
    have e3 := isFT (b := li) (q := 0) (k := 999) (by omega) (by decide) (by decide)
    rw [if_pos ⟨Nat.zero_le _, hli⟩] at e3
    simp (disch := omega) only [ile_t, ile_f, ilt_t, ilt_f, ieq_t, ieq_f, gd_nI, gn_nI, gz_nI, b1_some, bd_some, lt1_eq, nI_add, nI_mul, nI_clamp, if_true, if_false, e1, e2]
    unfold f_X5_ask_L33
    simp (disch := omega) only [ile_t, ile_f, ilt_t, ilt_f, ieq_t, ieq_f, gd_nI, gn_nI, gz_nI, b1_some, bd_some, lt1_eq, nI_add, nI_mul, nI_clamp, if_true, if_false, e3, e4]
  · rw [if_neg c] at hli
    have e3 := isFT (b := li) (q := 0) (k := 0) (by omega) (by decide) (by decide)
    rw [if_pos ⟨Nat.zero_le _, hli⟩] at e3
    simp (disch := omega) only [ile_t, ile_f, ilt_t, ilt_f, ieq_t, ieq_f, gd_nI, gn_nI, gz_nI, b1_some, bd_some, lt1_eq, nI_add, nI_mul, nI_clamp, if_true, if_false, e1, e2]
    unfold f_X5_ask_L33
    simp (disch := omega) only [ile_t, ile_f, ilt_t, ilt_f, ieq_t, ieq_f, gd_nI, gn_nI, gz_nI, b1_some, bd_some, lt1_eq, nI_add, nI_mul, nI_clamp, if_true, if_false, e3, e4]
theorem o_ask {k l li t : Nat} (h : CI M (nb, nq, pl, tu, B, Q) tl tx) (h6 : nq < 6) (hk : k ≤ 4) (hl1 : 1 ≤ l) (hl2 : l ≤ 15) (hli : li ≤ (if k = 1 then 999 else 0)) (ht : t ≤ 99999) : ∃ M' Q2, f_X5_ask M (nI k) (nI l) (nI li) (nI t) = some (nI nq, M') ∧ M' 9 = M 9 ∧ CI M' (nb, nq + 1, pl, tu, B, stl nb B (nq + 1) Q2) tl tx ∧ Q2 nq 0 = k ∧ Q2 nq 1 = l ∧ Q2 nq 2 = li ∧ Q2 nq 3 = t ∧ Q2 nq 4 = 0 ∧ ∀ x, x ≠ nq → Q2 x = Q x := by
  have hI0 := h.bi
  have h8 := hI0.1
  have cB := h.cB
  have cQ := h.cQ
  have cH := h.cH
  have hQ0 := h.qq
  have e1 := ask_e (M := M) hk hl1 hl2 hli ht
  have hli9 : li ≤ 999 := by
    by_cases c : k = 1
    · rw [if_pos c] at hli; exact hli
    · rw [if_neg c] at hli; omega
  obtain ⟨M1, p1, p0, p9, p7, fin⟩ := recI h
  generalize hQ2 : upB (upB (upB (upB (upB Q nq 0 k) nq 1 l) nq 2 li) nq 3 t) nq 4 0 = Q2
  have hs : Q2 = setR Q nq (Q2 nq) := by rw [← hQ2]; exact setR_upB5
  have k0 : Q2 nq 0 = k := by rw [← hQ2, upB_o (Or.inr (by decide)), upB_o (Or.inr (by decide)), upB_o (Or.inr (by decide)), upB_o (Or.inr (by decide)), upB_at]
  have k1 : Q2 nq 1 = l := by rw [← hQ2, upB_o (Or.inr (by decide)), upB_o (Or.inr (by decide)), upB_o (Or.inr (by decide)), upB_at]
  have k2 : Q2 nq 2 = li := by rw [← hQ2, upB_o (Or.inr (by decide)), upB_o (Or.inr (by decide)), upB_at]
  have k3 : Q2 nq 3 = t := by rw [← hQ2, upB_o (Or.inr (by decide)), upB_at]
  have k4 : Q2 nq 4 = 0 := by rw [← hQ2, upB_at]
  have ko : ∀ x, x ≠ nq → Q2 x = Q x := fun x hx => by rw [hs]; unfold setR; rw [if_neg hx]
  obtain ⟨m2, g1, g2, g3, g4⟩ := addQC_s (m := M1 0) (f := Q2 nq) hQ0 (by rw [p0]; exact cQ) (by omega) k0 k1 k2 k3 k4
  rw [← hs] at g4
  have hQQ2 : QQ (nq + 1) Q2 := by
    refine ⟨by omega, fun x hx => ?_⟩
    by_cases c : x = nq
    · subst c
      rw [k0, k1, k2, k3, k4]
      exact ⟨hk, hl1, hl2, hli9, ht, by decide⟩
    · rw [ko x c]
      exact hQ0.2 x (by omega)
  obtain ⟨m3, s1, s2, s3⟩ := setM hI0 hQQ2 (cB.cp h8 (by rw [g3 2 (by decide), p0]) (fun c h1 h2 => by rw [g2 c (by omega) h2, p0])) g4 (show CH m2 pl tu by unfold CH; rw [g3 4 (by decide), g3 5 (by decide), p0]; exact cH)
  refine ⟨gs M1 0 m3, Q2, e1.trans ?_, by rw [gs_ne (by decide)]; exact p9, fin (SI_mk hI0 hQQ2 h.plan h.turn) s2, k0, k1, k2, k3, k4, ko⟩
  unfold f_X5_ask_L55
  simp (disch := omega) only [ile_t, ile_f, ilt_t, ilt_f, ieq_t, ieq_f, gd_nI, gn_nI, gz_nI, b1_some, bd_some, lt1_eq, nI_add, nI_mul, nI_clamp, if_true, if_false, cQ.1, p1, g1, gs_at, gs_gs, s1]
theorem o_setPlan0 {p : Nat} (h : CI M (nb, nq, pl, tu, B, Q) tl tx) (hp : p ≤ 2) (e : pl = p) : f_X5_setPlan M (nI p) = some (-5, M) := by
  have e1 := isFT (b := p) (q := 0) (k := 2) (by omega) (by decide) (by decide)
  rw [if_pos ⟨Nat.zero_le _, hp⟩] at e1
  have c := h.cH.1
  unfold f_X5_setPlan
  simp (disch := omega) only [ile_t, ile_f, ilt_t, ilt_f, ieq_t, ieq_f, gd_nI, gn_nI, gz_nI, b1_some, bd_some, lt1_eq, nI_add, nI_mul, nI_clamp, if_true, if_false, e1, c]
theorem o_setPlan {p : Nat} (h : CI M (nb, nq, pl, tu, B, Q) tl tx) (hp : p ≤ 2) (e : pl ≠ p) : ∃ M', f_X5_setPlan M (nI p) = some (nI pl, M') ∧ M' 9 = M 9 ∧ CI M' (nb, nq, p, tu, B, Q) tl tx := by
  have e1 := isFT (b := p) (q := 0) (k := 2) (by omega) (by decide) (by decide)
  rw [if_pos ⟨Nat.zero_le _, hp⟩] at e1
  have h8 := h.bi.1
  have hpl := h.plan
  have cB := h.cB
  have cQ := h.cQ
  have cH := h.cH
  obtain ⟨M1, p1, p0, p9, p7, fin⟩ := recI h
  have fr : ∀ c, c ≠ 0 → up (M1 0) 0 4 (nI p) c = M 0 c := fun c hc => by rw [up_c hc, p0]
  have kr : ∀ k, k ≠ 4 → up (M1 0) 0 4 (nI p) 0 k = M 0 0 k := fun k hk => by rw [up_o (Or.inr hk), p0]
  obtain ⟨m3, s1, s2, s3⟩ := setM (pl := p) (tu := tu) h.bi h.qq (cB.cp h8 (kr 2 (by decide)) (fun c h1 h2 => fr c (by omega))) (cQ.fr (kr 3 (by decide)) (fun x hx => fr _ (by omega))) ⟨up_same, by rw [kr 5 (by decide)]; exact cH.2⟩
  rw [stl_SD h.sd] at s2
  refine ⟨gs M1 0 m3, ?_, by rw [gs_ne (by decide)]; exact p9, fin ⟨h.bi, h.qq, hp, h.turn, h.sd⟩ s2⟩
  unfold f_X5_setPlan
  simp (disch := omega) only [ile_t, ile_f, ilt_t, ilt_f, ieq_t, ieq_f, gd_nI, gn_nI, gz_nI, b1_some, bd_some, lt1_eq, nI_add, nI_mul, nI_clamp, if_true, if_false, e1, cH.1, p1, gs_at, gs_gs, s1]
/-! what is told of questions -/
theorem o_quest (h : CI M (nb, nq, pl, tu, B, Q) tl tx) (hq : q < nq) (hk : k < 5) : f_X5_question M (nI q) (nI k) = some (nI (Q q k)) := by
  have e1 := hasQ_t hq h.qq.1 h.cQ.1
  have h6 := h.qq.1
  have hqq := h.qq.2 q hq
  obtain ⟨c0, c1, c2, c3, c4, c5⟩ := h.cQ.2 q hq
  unfold f_X5_question
  rcases n5 hk with rfl | rfl | rfl | rfl | rfl
  · simp (disch := omega) only [ile_t, ile_f, ilt_t, ilt_f, ieq_t, ieq_f, gd_nI, gn_nI, gz_nI, b1_some, bd_some, lt1_eq, nI_add, nI_mul, nI_clamp, if_true, if_false, e1, c0]
  · simp (disch := omega) only [ile_t, ile_f, ilt_t, ilt_f, ieq_t, ieq_f, gd_nI, gn_nI, gz_nI, b1_some, bd_some, lt1_eq, nI_add, nI_mul, nI_clamp, if_true, if_false, e1, c1]
  · simp (disch := omega) only [ile_t, ile_f, ilt_t, ilt_f, ieq_t, ieq_f, gd_nI, gn_nI, gz_nI, b1_some, bd_some, lt1_eq, nI_add, nI_mul, nI_clamp, if_true, if_false, e1, c2]
  · simp (disch := omega) only [ile_t, ile_f, ilt_t, ilt_f, ieq_t, ieq_f, gd_nI, gn_nI, gz_nI, b1_some, bd_some, lt1_eq, nI_add, nI_mul, nI_clamp, if_true, if_false, e1, c3]
  · by_cases d : Q q 4 = 0
    · rw [d] at c4 ⊢
      simp (disch := omega) only [ile_t, ile_f, ilt_t, ilt_f, ieq_t, ieq_f, gd_nI, gn_nI, gz_nI, b1_some, bd_some, lt1_eq, nI_add, nI_mul, nI_clamp, if_true, if_false, e1, c4]
    · have d : Q q 4 = 1 := by omega
      rw [d] at c4 ⊢
      simp (disch := omega) only [ile_t, ile_f, ilt_t, ilt_f, ieq_t, ieq_f, gd_nI, gn_nI, gz_nI, b1_some, bd_some, lt1_eq, nI_add, nI_mul, nI_clamp, if_true, if_false, e1, c4]
theorem o_ans (h : CI M (nb, nq, pl, tu, B, Q) tl tx) (hq : q < nq) (hh : how < 3) : f_X5_question M (nI q) (nI (5 + how)) = some (if rQ nb B (Q q 1) 3 = 0 then -5 else nI (ans nb B (Q q) how)) := by
  have e1 := hasQ_t hq h.qq.1 h.cQ.1
  have h6 := h.qq.1
  have hqq := h.qq.2 q hq
  obtain ⟨c0, c1, c2, c3, c4, c5⟩ := h.cQ.2 q hq
  have an : f_X4_answer (M 0) q (nI how) = some (if rQ nb B (Q q 1) 3 = 0 then -5 else nI (ans nb B (Q q) how)) := ansC_s h.bi hqq.1 hqq.2.2.1 hqq.2.2.2.1 hh h.cB c0 c1 c2
  have hs : how = 0 ∨ how = 1 ∨ how = 2 := by omega
  unfold f_X5_question
  rcases hs with rfl | rfl | rfl
  · simp (disch := omega) only [ile_t, ile_f, ilt_t, ilt_f, ieq_t, ieq_f, gd_nI, gn_nI, gz_nI, b1_some, bd_some, lt1_eq, nI_add, nI_mul, nI_clamp, if_true, if_false, e1, an]
  · simp (disch := omega) only [ile_t, ile_f, ilt_t, ilt_f, ieq_t, ieq_f, gd_nI, gn_nI, gz_nI, b1_some, bd_some, lt1_eq, nI_add, nI_mul, nI_clamp, if_true, if_false, e1, an]
  · simp (disch := omega) only [ile_t, ile_f, ilt_t, ilt_f, ieq_t, ieq_f, gd_nI, gn_nI, gz_nI, b1_some, bd_some, lt1_eq, nI_add, nI_mul, nI_clamp, if_true, if_false, e1, an]
theorem o_kept (h : CI M (nb, nq, pl, tu, B, Q) tl tx) (hq : q < nq) (hk : k < 3) : f_X5_question M (nI q) (nI (8 + k)) = some (if Q q 4 = 0 then -5 else nI (Q q (5 + k))) := by
  have e1 := hasQ_t hq h.qq.1 h.cQ.1
  have h6 := h.qq.1
  have hqq := h.qq.2 q hq
  obtain ⟨c0, c1, c2, c3, c4, c5⟩ := h.cQ.2 q hq
  have hs : k = 0 ∨ k = 1 ∨ k = 2 := by omega
  unfold f_X5_question
  by_cases f : Q q 4 = 0
  · rw [if_pos f]
    rw [f] at c4
    rcases hs with rfl | rfl | rfl
    · simp (disch := omega) only [ile_t, ile_f, ilt_t, ilt_f, ieq_t, ieq_f, gd_nI, gn_nI, gz_nI, b1_some, bd_some, lt1_eq, nI_add, nI_mul, nI_clamp, if_true, if_false, e1, c4]
    · simp (disch := omega) only [ile_t, ile_f, ilt_t, ilt_f, ieq_t, ieq_f, gd_nI, gn_nI, gz_nI, b1_some, bd_some, lt1_eq, nI_add, nI_mul, nI_clamp, if_true, if_false, e1, c4]
    · simp (disch := omega) only [ile_t, ile_f, ilt_t, ilt_f, ieq_t, ieq_f, gd_nI, gn_nI, gz_nI, b1_some, bd_some, lt1_eq, nI_add, nI_mul, nI_clamp, if_true, if_false, e1, c4]
  · rw [if_neg f]
    have f : Q q 4 = 1 := by omega
    obtain ⟨g5, g6, g7⟩ := c5 f
    rw [f] at c4
    rcases hs with rfl | rfl | rfl
    · simp (disch := omega) only [ile_t, ile_f, ilt_t, ilt_f, ieq_t, ieq_f, gd_nI, gn_nI, gz_nI, b1_some, bd_some, lt1_eq, nI_add, nI_mul, nI_clamp, if_true, if_false, e1, c4, g5]
    · simp (disch := omega) only [ile_t, ile_f, ilt_t, ilt_f, ieq_t, ieq_f, gd_nI, gn_nI, gz_nI, b1_some, bd_some, lt1_eq, nI_add, nI_mul, nI_clamp, if_true, if_false, e1, c4, g6]
    · simp (disch := omega) only [ile_t, ile_f, ilt_t, ilt_f, ieq_t, ieq_f, gd_nI, gn_nI, gz_nI, b1_some, bd_some, lt1_eq, nI_add, nI_mul, nI_clamp, if_true, if_false, e1, c4, g7]
theorem o_rows (h : CI M (nb, nq, pl, tu, B, Q) tl tx) (hq : q < nq) : f_X5_question M (nI q) (nI 11) = some (nI (rQ nb B (Q q 1) 3)) := by
  have e1 := hasQ_t hq h.qq.1 h.cQ.1
  have h6 := h.qq.1
  have hqq := h.qq.2 q hq
  obtain ⟨c0, c1, -⟩ := h.cQ.2 q hq
  have w3 := rowsC_s (ls := Q q 1) h.bi (by omega) h.cB
  unfold f_X5_question
  simp (disch := omega) only [ile_t, ile_f, ilt_t, ilt_f, ieq_t, ieq_f, gd_nI, gn_nI, gz_nI, b1_some, bd_some, lt1_eq, nI_add, nI_mul, nI_clamp, if_true, if_false, e1, c1, w3]
theorem o_reads (h : CI M (nb, nq, pl, tu, B, Q) tl tx) (hq : q < nq) : f_X5_question M (nI q) (nI 12) = some (nI (rQ nb B (Q q 1) 4)) := by
  have e1 := hasQ_t hq h.qq.1 h.cQ.1
  have h6 := h.qq.1
  have hqq := h.qq.2 q hq
  obtain ⟨c0, c1, -⟩ := h.cQ.2 q hq
  have w3 := readsC_s (ls := Q q 1) h.bi (by omega) h.cB
  unfold f_X5_question
  simp (disch := omega) only [ile_t, ile_f, ilt_t, ilt_f, ieq_t, ieq_f, gd_nI, gn_nI, gz_nI, b1_some, bd_some, lt1_eq, nI_add, nI_mul, nI_clamp, if_true, if_false, e1, c1, w3]
/-! counts -/
theorem o_count0 (h : CI M (nb, nq, pl, tu, B, Q) tl tx) : f_X5_count M (nI 0) = some (nI nb) := by
  have c := h.cB.1
  unfold f_X5_count
  simp (disch := omega) only [ile_t, ile_f, ilt_t, ilt_f, ieq_t, ieq_f, gd_nI, gn_nI, gz_nI, b1_some, bd_some, lt1_eq, nI_add, nI_mul, nI_clamp, if_true, if_false, c]
theorem o_count1 (h : CI M (nb, nq, pl, tu, B, Q) tl tx) : f_X5_count M (nI 1) = some (nI nq) := by
  have c := h.cQ.1
  unfold f_X5_count
  simp (disch := omega) only [ile_t, ile_f, ilt_t, ilt_f, ieq_t, ieq_f, gd_nI, gn_nI, gz_nI, b1_some, bd_some, lt1_eq, nI_add, nI_mul, nI_clamp, if_true, if_false, c]
theorem o_count2 (h : CI M (nb, nq, pl, tu, B, Q) tl tx) : f_X5_count M (nI 2) = some (nI (opn nq Q)) := by
  have c := openC_s h.qq h.cQ
  unfold f_X5_count
  simp (disch := omega) only [ile_t, ile_f, ilt_t, ilt_f, ieq_t, ieq_f, gd_nI, gn_nI, gz_nI, b1_some, bd_some, lt1_eq, nI_add, nI_mul, nI_clamp, if_true, if_false, c]
theorem o_count3 (h : CI M (nb, nq, pl, tu, B, Q) tl tx) : f_X5_count M (nI 3) = some (nI pl) := by
  have c := h.cH.1
  unfold f_X5_count
  simp (disch := omega) only [ile_t, ile_f, ilt_t, ilt_f, ieq_t, ieq_f, gd_nI, gn_nI, gz_nI, b1_some, bd_some, lt1_eq, nI_add, nI_mul, nI_clamp, if_true, if_false, c]
theorem o_count4 (h : CI M (nb, nq, pl, tu, B, Q) tl tx) : f_X5_count M (nI 4) = some (nI (sumTo (fun b => B b 3) nb)) := by
  have w1 := rowsC_s (ls := 15) h.bi (by decide) h.cB
  rw [rQ15 h.bi] at w1
  unfold f_X5_count
  simp (disch := omega) only [ile_t, ile_f, ilt_t, ilt_f, ieq_t, ieq_f, gd_nI, gn_nI, gz_nI, b1_some, bd_some, lt1_eq, nI_add, nI_mul, nI_clamp, if_true, if_false, w1]
theorem o_count5 (h : CI M (nb, nq, pl, tu, B, Q) tl tx) : f_X5_count M (nI 5) = some (nI (sumTo (fun b => B b 4) nb)) := by
  have w1 := readsC_s (ls := 15) h.bi (by decide) h.cB
  rw [rQ15 h.bi] at w1
  unfold f_X5_count
  simp (disch := omega) only [ile_t, ile_f, ilt_t, ilt_f, ieq_t, ieq_f, gd_nI, gn_nI, gz_nI, b1_some, bd_some, lt1_eq, nI_add, nI_mul, nI_clamp, if_true, if_false, w1]
/-! reading -/
theorem o_next (h : CI M (nb, nq, pl, tu, B, Q) tl tx) (u : ua nb B ≠ 0) : ∃ b, nx pl tu nb B nq Q = some b ∧ b < nb ∧ urd B b = true ∧ f_X5_next M (nI 0) = some (nI b) ∧ f_X5_next M (nI 1) = some (nI (B b 4)) := by
  have e1 := nextC_s h.bi h.qq h.plan h.turn h.cB h.cQ h.cH h.cW
  have h8 := h.bi.1
  obtain ⟨b, en, hb8, eb⟩ := nx_1 (pl := pl) (tu := tu) (nq := nq) (Q := Q) h.bi u
  obtain ⟨hb, hu⟩ := nx_some en
  rw [eb] at e1
  have e3 := hasB_t hb h8 h.cB.1
  obtain ⟨c1, c2, c3, c4, c5, -⟩ := h.cB.2 b hb
  have i0 := isFT (b := 0) (q := 0) (k := 1) (by decide) (by decide) (by decide)
  have i1 := isFT (b := 1) (q := 0) (k := 1) (by decide) (by decide) (by decide)
  rw [if_pos ⟨by decide, by decide⟩] at i0 i1
  refine ⟨b, en, hb, hu, ?_, ?_⟩
  · unfold f_X5_next
    simp (disch := omega) only [ile_t, ile_f, ilt_t, ilt_f, ieq_t, ieq_f, gd_nI, gn_nI, gz_nI, b1_some, bd_some, lt1_eq, nI_add, nI_mul, nI_clamp, if_true, if_false, i0, e1, e3]
  · unfold f_X5_next
    simp (disch := omega) only [ile_t, ile_f, ilt_t, ilt_f, ieq_t, ieq_f, gd_nI, gn_nI, gz_nI, b1_some, bd_some, lt1_eq, nI_add, nI_mul, nI_clamp, if_true, if_false, i1, e1, e3, c5]
theorem o_read1 (h : CI M (nb, nq, pl, tu, B, Q) tl tx) (u : ua nb B ≠ 0) : ∃ M', f_X5_read M (nI 1) = some (nI 1, M') ∧ M' 9 = M 9 ∧ CI M' (nb, nq, pl, (stp pl nb nq (tu, B, Q)).1, (stp pl nb nq (tu, B, Q)).2.1, (stp pl nb nq (tu, B, Q)).2.2) tl tx := by
  have e1 := nextC_s h.bi h.qq h.plan h.turn h.cB h.cQ h.cH h.cW
  obtain ⟨b, -, hb, eb⟩ := nx_1 (pl := pl) (tu := tu) (nq := nq) (Q := Q) h.bi u
  rw [eb] at e1
  have i1 := isFT (b := 1) (q := 1) (k := 128) (by decide) (by decide) (by decide)
  rw [if_pos ⟨by decide, by decide⟩] at i1
  obtain ⟨M1, p1, p0, p9, p7, fin⟩ := recI h
  obtain ⟨m2, g1, g2⟩ := rdC_L (p := 1) h.plan (by decide) FU 1 0 M1 (tu, B, Q) (Nat.le_refl _) (by decide) h.ti (by rw [p0]; exact h.ct)
  have er : run pl nb nq nev 1 (tu, B, Q) = (1, stp pl nb nq (tu, B, Q)) := by
    rw [run_nev1 h.ti u]
    rfl
  rw [er] at g1 g2
  refine ⟨gs M1 0 m2, ?_, by rw [gs_ne (by decide)]; exact p9, fin (SI_T (TI_stp h.ti) h.plan (SD_stp (T := (tu, B, Q)) h.sd)) g2⟩
  unfold f_X5_read
  simp (disch := omega) only [ile_t, ile_f, ilt_t, ilt_f, ieq_t, ieq_f, gd_nI, gn_nI, gz_nI, b1_some, bd_some, lt1_eq, nI_add, nI_mul, nI_clamp, if_true, if_false, i1, e1, p1, i5_f]
  exact g1
theorem o_readOn0 (h : CI M (nb, nq, pl, tu, B, Q) tl tx) (w : opn nq Q = 0) : f_X5_readOn M = some (-4, M) := by
  have c := openC_s h.qq h.cQ
  rw [w] at c
  unfold f_X5_readOn
  simp (disch := omega) only [ile_t, ile_f, ilt_t, ilt_f, ieq_t, ieq_f, gd_nI, gn_nI, gz_nI, b1_some, bd_some, lt1_eq, nI_add, nI_mul, nI_clamp, if_true, if_false, c]
theorem o_readOn1 (h : CI M (nb, nq, pl, tu, B, Q) tl tx) (w : opn nq Q ≠ 0) (u : ua nb B = 0) : f_X5_readOn M = some (-5, M) := by
  have c := openC_s h.qq h.cQ
  have hol := opn_le h.qq
  have e1 := nextC_s h.bi h.qq h.plan h.turn h.cB h.cQ h.cH h.cW
  rw [nx_0 h.bi u] at e1
  unfold f_X5_readOn
  simp (disch := omega) only [ile_t, ile_f, ilt_t, ilt_f, ieq_t, ieq_f, gd_nI, gn_nI, gz_nI, b1_some, bd_some, lt1_eq, nI_add, nI_mul, nI_clamp, if_true, if_false, c, e1]
theorem o_readOn (h : CI M (nb, nq, pl, tu, B, Q) tl tx) (w : opn nq Q ≠ 0) (u : ua nb B ≠ 0) : ∃ M', f_X5_readOn M = some (nI (rn nb nq (tu, B, Q) pl).1, M') ∧ M' 9 = M 9 ∧ CI M' (nb, nq, pl, (rn nb nq (tu, B, Q) pl).2.1, (rn nb nq (tu, B, Q) pl).2.2.1, (rn nb nq (tu, B, Q) pl).2.2.2) tl tx := by
  have c := openC_s h.qq h.cQ
  have hol := opn_le h.qq
  have e1 := nextC_s h.bi h.qq h.plan h.turn h.cB h.cQ h.cH h.cW
  obtain ⟨b, -, hb, eb⟩ := nx_1 (pl := pl) (tu := tu) (nq := nq) (Q := Q) h.bi u
  rw [eb] at e1
  obtain ⟨M1, p1, p0, p9, p7, fin⟩ := recI h
  obtain ⟨m2, g1, g2⟩ := whileC_s (m := M1 0) h.plan h.ti (by rw [p0]; exact h.ct)
  have hT2 := TI_run (pl := pl) (P := fun Q => decide (opn nq Q = 0)) 128 (tu, B, Q) h.ti
  have hS2 := SD_run (pl := pl) (P := fun Q => decide (opn nq Q = 0)) 128 (tu, B, Q) h.sd
  refine ⟨gs M1 0 m2, ?_, by rw [gs_ne (by decide)]; exact p9, fin (SI_T hT2 h.plan hS2) g2⟩
  unfold f_X5_readOn
  simp (disch := omega) only [ile_t, ile_f, ilt_t, ilt_f, ieq_t, ieq_f, gd_nI, gn_nI, gz_nI, b1_some, bd_some, lt1_eq, nI_add, nI_mul, nI_clamp, if_true, if_false, c, e1, p1, i5_f, g1]
  rfl
theorem o_stopsIn0 (h : CI M (nb, nq, pl, tu, B, Q) tl tx) (hq : q < nq) (f : Q q 4 ≠ 0) : f_X5_stopsIn M (nI q) = some (-4, M) := by
  have e1 := hasQ_t hq h.qq.1 h.cQ.1
  have h6 := h.qq.1
  have hqq := h.qq.2 q hq
  have c4 := (h.cQ.2 q hq).2.2.2.2.1
  have f1 : Q q 4 = 1 := by omega
  rw [f1] at c4
  unfold f_X5_stopsIn
  simp (disch := omega) only [ile_t, ile_f, ilt_t, ilt_f, ieq_t, ieq_f, gd_nI, gn_nI, gz_nI, b1_some, bd_some, lt1_eq, nI_add, nI_mul, nI_clamp, if_true, if_false, e1, c4]
theorem o_stopsIn (h : CI M (nb, nq, pl, tu, B, Q) tl tx) (hq : q < nq) (f : Q q 4 = 0) : ∃ m, f_X5_stopsIn M (nI q) = some (siR (run pl nb nq (hs q) 128 (tu, B, Q)) 0 q, gs M 1 m) := by
  have e1 := hasQ_t hq h.qq.1 h.cQ.1
  have h6 := h.qq.1
  have c4 := (h.cQ.2 q hq).2.2.2.2.1
  rw [f] at c4
  obtain ⟨m1, g1, g2⟩ := copyC_s (m := M 1) h.1 h.2.1
  obtain ⟨m2, p1⟩ := stopC_L (p0 := nI q) h.plan hq FU 128 (gs M 1 m1) (tu, B, Q) (Nat.le_refl _) (by decide) h.ti (by rw [gs_at]; exact g2) f
  rw [gs_gs] at p1
  have p1 : f_X5_stopsIn_L54 (nI q) FU (gs M 1 m1) q (nI 1) = some (siR (run pl nb nq (hs q) 128 (tu, B, Q)) 0 q, gs M 1 m2) := p1
  refine ⟨m2, ?_⟩
  unfold f_X5_stopsIn
  simp (disch := omega) only [ile_t, ile_f, ilt_t, ilt_f, ieq_t, ieq_f, gd_nI, gn_nI, gz_nI, b1_some, bd_some, lt1_eq, nI_add, nI_mul, nI_clamp, if_true, if_false, e1, c4, g1]
  exact p1
theorem o_best0 (h : CI M (nb, nq, pl, tu, B, Q) tl tx) (hk : k ≤ 1) (w : opn nq Q = 0) : f_X5_best M (nI k) = some (-4, M) := by
  have i0 := isFT (b := k) (q := 0) (k := 1) (by omega) (by decide) (by decide)
  rw [if_pos ⟨Nat.zero_le _, hk⟩] at i0
  have c := openC_s h.qq h.cQ
  rw [w] at c
  unfold f_X5_best
  simp (disch := omega) only [ile_t, ile_f, ilt_t, ilt_f, ieq_t, ieq_f, gd_nI, gn_nI, gz_nI, b1_some, bd_some, lt1_eq, nI_add, nI_mul, nI_clamp, if_true, if_false, i0, c]
theorem o_best (h : CI M (nb, nq, pl, tu, B, Q) tl tx) (hk : k ≤ 1) (w : opn nq Q ≠ 0) : ∃ m, f_X5_best M (nI k) = some (bsV (bs nb nq (tu, B, Q) 3) (nI k), gs M 1 m) := by
  have i0 := isFT (b := k) (q := 0) (k := 1) (by omega) (by decide) (by decide)
  rw [if_pos ⟨Nat.zero_le _, hk⟩] at i0
  have c := openC_s h.qq h.cQ
  have hol := opn_le h.qq
  obtain ⟨m1, p1⟩ := bestC_L (a0 := nI k) h.1 FU 0 M (by decide) (by decide) h.2.1
  have p1 : f_X5_best_L35 (nI k) FU M (-5) (nI 129) (nI 0) = _ := p1
  refine ⟨m1, ?_⟩
  unfold f_X5_best
  simp (disch := omega) only [ile_t, ile_f, ilt_t, ilt_f, ieq_t, ieq_f, gd_nI, gn_nI, gz_nI, b1_some, bd_some, lt1_eq, nI_add, nI_mul, nI_clamp, if_true, if_false, i0, c]
  exact p1
end CI1
