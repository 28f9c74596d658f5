/-! THE STEPS: stopsIn, best: a trial run, then what was is again -/
def SV (m m' : SM) : Prop := m' 2 = m 2 ∧ m' 3 = m 3 ∧ m' 5 = m 5 ∧ m' 0 3 = m 0 3 ∧ m' 0 4 = m 0 4 ∧ m' 0 7 = m 0 7
section TR
variable {m m' : SM} {M : MM} {nb nq pl tu b q k how ls n t : Nat} {B B2 Q Q2 : BK} {T : T3} {S K : AS} {hn ks tl : Nat} {Hs : Nat → AS} {tx : Nat → Int32}
theorem SV.tr {m m1 m2 : SM} (h : SV m m1) (h2 : SV m1 m2) : SV m m2 := by
  obtain ⟨a1, a2, a3, a4, a5, a6⟩ := h
  obtain ⟨b1, b2, b3, b4, b5, b6⟩ := h2
  exact ⟨b1.trans a1, b2.trans a2, b3.trans a3, b4.trans a4, b5.trans a5, b6.trans a6⟩
theorem SX.v {m m' : SM} (h : SX m m') : SV m m' := ⟨h.1, h.2.1, h.2.2.2.1, h.2.2.2.2.1, h.2.2.2.2.2.1, h.2.2.2.2.2.2⟩
theorem SV.o {m m' : SM} {c : Nat} (h : ∀ x, x ≠ c → m' x = m x) (hc : c = 1 ∨ c = 4) : SV m m' := by
  rcases hc with rfl | rfl
  · exact ⟨h 2 (by decide), h 3 (by decide), h 5 (by decide), by rw [h 0 (by decide)], by rw [h 0 (by decide)], by rw [h 0 (by decide)]⟩
  · exact ⟨h 2 (by decide), h 3 (by decide), h 5 (by decide), by rw [h 0 (by decide)], by rw [h 0 (by decide)], by rw [h 0 (by decide)]⟩
theorem REF.v {m2 : SM} (h : REF m S hn Hs ks K tl tx) (s : SV m m2) (hz : ZR (m2 1) S) : REF m2 S hn Hs ks K tl tx := by
  obtain ⟨a1, a2, a3, a4, a5⟩ := h
  obtain ⟨s2, s3, s5, s03, s04, s07⟩ := s
  exact ⟨hz, ⟨by rw [s03]; exact a2.1, by rw [s2]; exact a2.2⟩, by rw [s04]; exact a3, by rw [s3]; exact a4, ⟨by rw [s07]; exact a5.1, by rw [s5]; exact a5.2⟩⟩
theorem try_fin {r : Int32} {m2 : SM} {fc : Option (Int32 × MM)} {fm : Option (Int32 × SM)} (mt : SM) (hI : INV S hn Hs ks K tl) (hC : CLS M S hn Hs ks K tl tx) (hR : REF m S hn Hs ks K tl tx) (s : SV m m2) (hz : ZR (m2 1) S) (h1 : fc = some (r, gs M 1 mt)) (h2 : fm = some (r, m2)) : ∃ r M1 m2, fc = some (r, M1) ∧ M1 9 = M 9 ∧ fm = some (r, m2) ∧ ∃ S2 hn2 Hs2 ks2 K2 tl2 tx2, INV S2 hn2 Hs2 ks2 K2 tl2 ∧ CLS M1 S2 hn2 Hs2 ks2 K2 tl2 tx2 ∧ REF m2 S2 hn2 Hs2 ks2 K2 tl2 tx2 :=
  ⟨r, gs M 1 mt, m2, h1, gs_ne (by decide), h2, S, hn, Hs, ks, K, tl, tx, hI, hC.fr (fun g h1 _ => gs_ne h1), hR.v s hz⟩
/-- has question q stopped -/
def hs (q : Nat) : BK → Bool := fun Q => decide (Q q 4 ≠ 0)
theorem hs_t (h : Q q 4 = 0) : hs q Q = false := by unfold hs; simp [h]
theorem hs_f (h : Q q 4 ≠ 0) : hs q Q = true := by unfold hs; simp [h]
theorem run_s {P : BK → Bool} (h : P T.2.2 = true) : run pl nb nq P n T = (0, T) := by
  cases n with
  | zero => rfl
  | succ n => unfold run; rw [if_pos (Or.inl h)]
theorem run_u {P : BK → Bool} (h : ua nb T.2.1 = 0) : run pl nb nq P n T = (0, T) := by
  cases n with
  | zero => rfl
  | succ n => unfold run; rw [if_pos (Or.inr h)]
theorem run_1 {P : BK → Bool} (hp : P T.2.2 = false) (hu : ua nb T.2.1 ≠ 0) : run pl nb nq P (n + 1) T = ((run pl nb nq P n (stp pl nb nq T)).1 + 1, (run pl nb nq P n (stp pl nb nq T)).2) := by
  conv => lhs; unfold run
  rw [if_neg (by
    rintro (h | h)
    · rw [hp] at h; exact absurd h (by decide)
    · exact hu h)]
/-- in how many reads it stops -/
def siR (x : Nat × T3) (c q : Nat) : Int32 := if x.2.2.2 q 4 = 0 then -5 else nI (c + x.1)
theorem stopC_L {p0 : Int32} (hpl : pl ≤ 2) (hq : q < nq) : ∀ n k (M : MM) (T : T3), k ≤ 128 → k < n → TI nb nq T → CT (M 1) pl nb nq T → T.2.2 q 4 = 0 → ∃ m', f_X5_stopsIn_L54 p0 n M q (nI (129 - k)) = some (siR (run pl nb nq (hs q) k T) (128 - k) q, gs M 1 m') := by
  intro n
  induction n with
  | zero => intro k M T h1 h2; omega
  | succ n ih =>
    intro k M T h1 h2 hT hC h4
    rw [f_X5_stopsIn_L54.eq_2]
    cases k with
    | zero =>
      rw [ilt_t (by decide) (by decide)]
      refine ⟨M 1, ?_⟩
      have e : siR (run pl nb nq (hs q) 0 T) (128 - 0) q = -5 := by unfold siR run; rw [if_pos h4]
      rw [e, gs_self]
    | succ k =>
      obtain ⟨m1, g1, g2⟩ := planC_s hpl hT hC
      rw [ilt_f (by omega) (by omega), g1, bd_some, lt1_eq]
      by_cases d : ua nb T.2.1 = 0
      · have e : siR (run pl nb nq (hs q) (k + 1) T) (128 - (k + 1)) q = -5 := by rw [run_u d]; unfold siR; rw [if_pos h4]
        rw [if_pos d, ieq_t rfl, e]
        exact ⟨m1, rfl⟩
      · have hT1 := TI_stp (pl := pl) hT
        have c4 := (g2.2.1.2 q hq).2.2.2.2.1
        have q1 := (hT1.2.2.2 q hq).2.2.2.2.2
        rw [if_neg d, ieq_f (by decide) (by decide) (by decide), gs_at, run_1 (hs_t h4) d]
        by_cases f : (stp pl nb nq T).2.2 q 4 = 0
        · rw [f] at c4
          rw [c4, ieq_t rfl, nI_add]
          obtain ⟨m', p1⟩ := ih k (gs M 1 m1) (stp pl nb nq T) (by omega) (by omega) hT1 (by rw [gs_at]; exact g2) f
          refine ⟨m', ?_⟩
          rw [gs_gs] at p1
          rw [show 129 - (k + 1) + 1 = 129 - k by omega, p1]
          unfold siR
          by_cases w : (run pl nb nq (hs q) k (stp pl nb nq T)).2.2.2 q 4 = 0
          · rw [if_pos w, if_pos w]
          · rw [if_neg w, if_neg w, show 128 - k + (run pl nb nq (hs q) k (stp pl nb nq T)).1 = 128 - (k + 1) + ((run pl nb nq (hs q) k (stp pl nb nq T)).1 + 1) by omega]
        · have f1 : (stp pl nb nq T).2.2 q 4 = 1 := by omega
          rw [f1] at c4
          rw [c4, ieq_f (by decide) (by decide) (by decide)]
          refine ⟨m1, ?_⟩
          rw [run_s (hs_f f)]
          unfold siR
          rw [if_neg f, show 128 - (k + 1) + (0 + 1) = 129 - (k + 1) by omega]
theorem stopR_L (hpl : pl ≤ 2) (hq : q < nq) : ∀ n k c m (T : T3), TI nb nq T → ZT (m 1) pl nb nq T → ua nb T.2.1 ≤ k → k < n → ∃ m', f_X6_stopsIn_L29 (nI q) n m (nI c) = (bd (f_X6_bringBack m') fun _ m3 => some (siR (run pl nb nq (hs q) k T) c q, m3)) ∧ SX m m' := by
  intro n
  induction n with
  | zero => intro k c m T h1 h2 h3 h4; omega
  | succ n ih =>
    intro k c m T hT hZ hk hkn
    have h6 := hT.2.2.1
    have hul := ua_le hT.2.1
    have o4 := asked_s (k := 4) hZ.2.1 (q := q) (by omega) (by decide)
    have e2 := unreadAll_s hT.2.1 hZ.1
    have q1 := (hT.2.2.2 q hq).2.2.2.2.2
    have stop : (run pl nb nq (hs q) k T) = (0, T) → f_X6_stopsIn_L55 (nI q) m (nI c) = (bd (f_X6_bringBack m) fun _ m3 => some (siR (run pl nb nq (hs q) k T) c q, m3)) := by
      intro er
      rw [er]
      unfold f_X6_stopsIn_L55 f_X6_stopsIn_L70 siR
      rw [o4, b1_some]
      by_cases f : T.2.2 q 4 = 0
      · rw [f, ieq_f (by decide) (by decide) (by decide), if_pos rfl]
        simp only [if_true]
      · have f1 : T.2.2 q 4 = 1 := by omega
        have z : ¬ nI 1 = nI 0 := by decide
        rw [f1, ieq_t rfl, if_neg (by decide), Nat.add_zero]
        simp only [if_neg z]
    rw [f_X6_stopsIn_L29.eq_2, o4, b1_some]
    by_cases f : T.2.2 q 4 = 0
    · rw [f, ieq_t rfl, e2, b1_some]
      by_cases d : ua nb T.2.1 = 0
      · rw [d, ile_t (by decide) (by decide)]
        exact ⟨m, stop (run_u d), SX.rf⟩
      · rw [ile_f (by omega) (by omega)]
        obtain ⟨m1, g1, g2, g3⟩ := readNext_T hpl hT hZ d
        have hst := ua_stp (pl := pl) hT d
        rw [g1, bd_some, nI_add]
        cases k with
        | zero => omega
        | succ k =>
          obtain ⟨m', p1, p2⟩ := ih k (c + 1) m1 (stp pl nb nq T) (TI_stp hT) g3 (by omega) (by omega)
          refine ⟨m', ?_, g2.tr p2⟩
          rw [p1, run_1 (hs_t f) d]
          unfold siR
          rw [show c + ((run pl nb nq (hs q) k (stp pl nb nq T)).1 + 1) = c + 1 + (run pl nb nq (hs q) k (stp pl nb nq T)).1 by omega]
    · have f1 : T.2.2 q 4 = 1 := by omega
      rw [f1, ieq_f (by decide) (by decide) (by decide)]
      exact ⟨m, stop (run_s (hs_f f)), SX.rf⟩
theorem st_stopsIn (a0 : Int32) : stepOK Rel (fun M => f_X5_stopsIn M a0) (fun m => f_X6_stopsIn m a0) := by
  refine mkStep fun M S hn Hs ks K tl tx hI hC hR => ?_
  obtain ⟨nb, nq, pl, tu, B, Q⟩ := S
  have hI0 : BI nb B := hI.1.1
  have hQ0 : QQ nq Q := hI.1.2.1
  have hpl : pl ≤ 2 := hI.1.2.2.1
  have htu : tu < 8 := hI.1.2.2.2.1
  have hSD : SD nb B nq Q := hI.1.2.2.2.2
  have cB : CB (M 0) nb B := hC.1.1
  have cQ : CQ (M 0) nq Q := hC.1.2.1
  have cH : CH (M 0) pl tu := hC.1.2.2.1
  have cW : CW (M 0) nb B nq Q := hC.1.2.2.2
  have zB : ZB (M 9 1) nb B := hR.1.1
  have zQ : ZQ (M 9 1) nq Q := hR.1.2.1
  have zH : ZH (M 9 1) pl tu := hR.1.2.2
  have h8 := hI0.1
  have h6 := hQ0.1
  rcases qst a0 h6 cQ zQ with ⟨e1, e2⟩ | ⟨q, hq, rfl, e1, e2⟩
  · refine ref_fin (r := -1) hI hC hR ?_ ?_
    · unfold f_X5_stopsIn
      simp (disch := omega) only [ile_t, ile_f, ilt_t, ilt_f, ieq_t, ieq_f, gd_nI, gn_nI, gz_nI, b1_some, bd_some, lt1_eq, nI_add, nI_mul, nI_clamp, if_true, if_false, e1]
    · unfold f_X6_stopsIn
      simp (disch := omega) only [ile_t, ile_f, ilt_t, ilt_f, ieq_t, ieq_f, gd_nI, gn_nI, gz_nI, b1_some, bd_some, lt1_eq, nI_add, nI_mul, nI_clamp, if_true, if_false, e2]
  · have hqq := hQ0.2 q hq
    have c4 := (cQ.2 q hq).2.2.2.2.1
    have o4 := asked_s (k := 4) zQ (q := q) (by omega) (by decide)
    by_cases f : Q q 4 = 0
    · rw [f] at c4 o4
      have hT : TI nb nq (tu, B, Q) := ⟨htu, hI0, hQ0⟩
      obtain ⟨m1, g1, g2⟩ := copyC_s (m := M 1) hI.1 hC.1
      obtain ⟨m2, p1⟩ := stopC_L (p0 := nI q) hpl hq FU 128 (gs M 1 m1) (tu, B, Q) (Nat.le_refl _) (by decide) hT (by rw [gs_at]; exact g2) f
      rw [gs_gs] at p1
      have p1 : f_X5_stopsIn_L54 (nI q) FU (gs M 1 m1) q (nI 1) = some (siR (run pl nb nq (hs q) 128 (tu, B, Q)) 0 q, gs M 1 m2) := p1
      obtain ⟨m3, a1, a2, a3⟩ := aside_s (m := M 9)
      have z3 : m3 1 = M 9 1 := a2 1 (by decide)
      obtain ⟨m4, r1, r2⟩ := stopR_L hpl hq FU 128 0 m3 (tu, B, Q) hT (by rw [z3]; exact ⟨zB, zQ, zH⟩) (ua_le hI0) (by decide)
      obtain ⟨m5, w1, w2, w3⟩ := back_s (m := m4)
      rw [w1, bd_some] at r1
      have zz : ZR (m5 1) (nb, nq, pl, tu, B, Q) := hR.1.cp (fun k hk => by rw [w3 k hk, r2.2.2.1, a3 k hk])
      refine try_fin (r := siR (run pl nb nq (hs q) 128 (tu, B, Q)) 0 q) m2 hI hC hR (((SV.o a2 (Or.inr rfl)).tr r2.v).tr (SV.o w2 (Or.inl rfl))) zz ?_ ?_
      · unfold f_X5_stopsIn
        simp (disch := omega) only [ile_t, ile_f, ilt_t, ilt_f, ieq_t, ieq_f, gd_nI, gn_nI, gz_nI, b1_some, bd_some, lt1_eq, nI_add, nI_mul, nI_clamp, if_true, if_false, e1, c4, g1]
        exact p1
      · unfold f_X6_stopsIn
        simp (disch := omega) only [ile_t, ile_f, ilt_t, ilt_f, ieq_t, ieq_f, gd_nI, gn_nI, gz_nI, b1_some, bd_some, lt1_eq, nI_add, nI_mul, nI_clamp, if_true, if_false, e2, o4, a1]
        exact r1
    · have f1 : Q q 4 = 1 := by omega
      rw [f1] at c4 o4
      refine ref_fin (r := -4) hI hC hR ?_ ?_
      · unfold f_X5_stopsIn
        simp (disch := omega) only [ile_t, ile_f, ilt_t, ilt_f, ieq_t, ieq_f, gd_nI, gn_nI, gz_nI, b1_some, bd_some, lt1_eq, nI_add, nI_mul, nI_clamp, if_true, if_false, e1, c4]
      · unfold f_X6_stopsIn
        simp (disch := omega) only [ile_t, ile_f, ilt_t, ilt_f, ieq_t, ieq_f, gd_nI, gn_nI, gz_nI, b1_some, bd_some, lt1_eq, nI_add, nI_mul, nI_clamp, if_true, if_false, e2, o4]
/-! best -/
def rn (nb nq : Nat) (T : T3) (p : Nat) : Nat × T3 := run p nb nq (fun Q => decide (opn nq Q = 0)) 128 T
def bs (nb nq : Nat) (T : T3) : Nat → Option (Nat × Nat)
  | 0 => none
  | p + 1 => if opn nq (rn nb nq T p).2.2.2 = 0 then (match bs nb nq T p with
      | none => some (p, (rn nb nq T p).1)
      | some x => if x.2 ≤ (rn nb nq T p).1 then some x else some (p, (rn nb nq T p).1)) else bs nb nq T p
def bsC (o : Option (Nat × Nat)) : Int32 := match o with
  | none => nI 129
  | some x => nI x.2
def bsR (o : Option (Nat × Nat)) : Int32 := match o with
  | none => -5
  | some x => nI x.2
def bsV (o : Option (Nat × Nat)) (a0 : Int32) : Int32 := if a0 = nI 0 then mpI o else bsR o
theorem rn_le {p : Nat} : (rn nb nq T p).1 ≤ 128 := run_le 128 T
theorem bs_b : ∀ n : Nat, n ≤ 3 → ∀ x, bs nb nq T n = some x → x.1 < 3 ∧ x.2 ≤ 128
  | 0, _, x, h => by cases h
  | n + 1, hn, x, h => by
    have hr := rn_le (nb := nb) (nq := nq) (T := T) (p := n)
    unfold bs at h
    by_cases c : opn nq (rn nb nq T n).2.2.2 = 0
    · rw [if_pos c] at h
      cases e : bs nb nq T n with
      | none =>
        rw [e] at h
        cases h
        exact ⟨by omega, hr⟩
      | some y =>
        rw [e] at h
        have ih := bs_b n (by omega) y e
        by_cases d : y.2 ≤ (rn nb nq T n).1
        · simp only [d, if_true] at h
          cases h
          exact ih
        · simp only [d, if_false] at h
          cases h
          exact ⟨by omega, hr⟩
    · rw [if_neg c] at h
      exact bs_b n (by omega) x h
theorem bestC_L {a0 : Int32} (hS : SI (nb, nq, pl, tu, B, Q)) : ∀ n p (M : MM), p ≤ 3 → 3 < p + n → RC (M 0) (nb, nq, pl, tu, B, Q) → ∃ m', f_X5_best_L35 a0 n M (mpI (bs nb nq (tu, B, Q) p)) (bsC (bs nb nq (tu, B, Q) p)) (nI p) = some (bsV (bs nb nq (tu, B, Q) 3) a0, gs M 1 m') := by
  have hT : TI nb nq (tu, B, Q) := ⟨hS.2.2.2.1, hS.1, hS.2.1⟩
  intro n
  induction n with
  | zero => intro p M h1 h2; omega
  | succ n ih =>
    intro p M h1 h2 hR
    rw [f_X5_best_L35.eq_2]
    by_cases c : p = 3
    · subst c
      rw [ilt_t (by decide) (by decide)]
      refine ⟨M 1, ?_⟩
      rw [gs_self]
      unfold f_X5_best_L98 bsV
      have hb := bs_b (nb := nb) (nq := nq) (T := (tu, B, Q)) 3 (Nat.le_refl _)
      cases e : bs nb nq (tu, B, Q) 3 with
      | none =>
        show (if (-5 : Int32) = -5 then _ else _) = _
        rw [i5_t]
        by_cases f : a0 = nI 0
        · rw [if_pos f]; rfl
        · rw [if_neg f]; rfl
      | some x =>
        have hx := hb x e
        show (if nI x.1 = -5 then _ else _) = _
        rw [i5_f (by omega)]
        by_cases f : a0 = nI 0
        · rw [if_pos f, if_pos f]
        · rw [if_neg f, if_neg f]; rfl
    · rw [ilt_f (by omega) (by decide)]
      obtain ⟨m1, g1, g2⟩ := copyC_s (m := M 1) hS hR
      rw [g1, bd_some, lt1_eq, lt1_eq, gs_at, gs_gs]
      have hC : CT (up m1 0 4 (nI p)) p nb nq (tu, B, Q) := ⟨CB.cp g2.1 hS.1.1 (up_o (Or.inr (by decide))) (fun c h1 _ => up_c (by omega)), CQ.fr g2.2.1 (up_o (Or.inr (by decide))) (fun x _ => up_c (by omega)), ⟨up_same, by rw [up_o (Or.inr (by decide))]; exact g2.2.2.1.2⟩, fun x hx h4 hr => by rw [up_c (by omega)]; exact g2.2.2.2 x hx h4 hr⟩
      obtain ⟨m2, p1, p2⟩ := whileC_s (by omega) hT hC
      have hT2 := TI_run (pl := p) (P := fun Q => decide (opn nq Q = 0)) 128 (tu, B, Q) hT
      have e1 := openC_s hT2.2.2 p2.2.1
      have hol := opn_le hT2.2.2
      have hr := rn_le (nb := nb) (nq := nq) (T := (tu, B, Q)) (p := p)
      have hes : bs nb nq (tu, B, Q) (p + 1) = if opn nq (rn nb nq (tu, B, Q) p).2.2.2 = 0 then (match bs nb nq (tu, B, Q) p with
        | none => some (p, (rn nb nq (tu, B, Q) p).1)
        | some x => if x.2 ≤ (rn nb nq (tu, B, Q) p).1 then some x else some (p, (rn nb nq (tu, B, Q) p).1)) else bs nb nq (tu, B, Q) p := rfl
      have hrn : run p nb nq (fun Q => decide (opn nq Q = 0)) 128 (tu, B, Q) = rn nb nq (tu, B, Q) p := rfl
      rw [hrn] at p1 e1 hol
      obtain ⟨m', w⟩ := ih (p + 1) (gs M 1 m2) (by omega) (by omega) (by rw [gs_ne (by decide)]; exact hR)
      rw [gs_gs] at w
      rw [gs_at, p1, bd_some, lt1_eq, gs_gs, gs_at, e1, b1_some, nI_add]
      refine ⟨m', ?_⟩
      by_cases f : opn nq (rn nb nq (tu, B, Q) p).2.2.2 = 0
      · rw [if_pos f] at hes
        rw [f, ieq_t rfl]
        cases e : bs nb nq (tu, B, Q) p with
        | none =>
          rw [e] at hes
          rw [hes] at w
          show (if nI 129 ≤ nI (rn nb nq (tu, B, Q) p).1 then _ else _) = _
          rw [ile_f (by omega) (by omega)]
          exact w
        | some x =>
          rw [e] at hes
          have hx := bs_b (nb := nb) (nq := nq) (T := (tu, B, Q)) p (by omega) x e
          show (if nI x.2 ≤ nI (rn nb nq (tu, B, Q) p).1 then _ else _) = _
          by_cases d : x.2 ≤ (rn nb nq (tu, B, Q) p).1
          · simp only [d, if_true] at hes
            rw [hes] at w
            rw [ile_t d (by omega)]
            exact w
          · simp only [d, if_false] at hes
            rw [hes] at w
            rw [ile_f (by omega) (by omega)]
            exact w
      · rw [if_neg f] at hes
        rw [hes] at w
        rw [ieq_f f (by omega) (by decide)]
        exact w
theorem bestR_L {a0 : Int32} (hS : SI (nb, nq, pl, tu, B, Q)) : ∀ n p m, p ≤ 3 → 3 < p + n → ZR (m 1) (nb, nq, pl, tu, B, Q) → ZR (m 4) (nb, nq, pl, tu, B, Q) → ∃ m', f_X6_best_L35 a0 n m (mpI (bs nb nq (tu, B, Q) p)) (bsR (bs nb nq (tu, B, Q) p)) (nI p) = some (bsV (bs nb nq (tu, B, Q) 3) a0, m') ∧ SV m m' ∧ ZR (m' 1) (nb, nq, pl, tu, B, Q) := by
  have hT : TI nb nq (tu, B, Q) := ⟨hS.2.2.2.1, hS.1, hS.2.1⟩
  intro n
  induction n with
  | zero => intro p m h1 h2; omega
  | succ n ih =>
    intro p m h1 h2 hZ hZ4
    rw [f_X6_best_L35.eq_2]
    by_cases c : p = 3
    · subst c
      rw [ile_t (by decide) (by decide)]
      refine ⟨m, ?_, SX.rf.v, hZ⟩
      unfold bsV
      by_cases f : a0 = nI 0
      · rw [if_pos f, if_pos f]
      · rw [if_neg f, if_neg f]
    · rw [ile_f (by omega) (by omega), gd_nI (by decide) (by decide), nI_clamp (by decide), lt1_eq]
      have hZT : ZT (up m 1 2 (nI p) 1) p nb nq (tu, B, Q) := ⟨⟨by rw [up_o (Or.inr (by decide))]; exact hZ.1.1, fun b k hb hk => by rw [up_o (Or.inr (by omega))]; exact hZ.1.2 b k hb hk⟩, ⟨by rw [up_o (Or.inr (by decide))]; exact hZ.2.1.1, fun b k hb hk => by rw [up_o (Or.inr (by omega))]; exact hZ.2.1.2 b k hb hk⟩, ⟨up_same, by rw [up_o (Or.inr (by decide))]; exact hZ.2.2.2⟩⟩
      obtain ⟨m2, p1, p2, p3⟩ := goOn_s (m := up m 1 2 (nI p)) (by omega) hT hZT
      have hT2 := TI_run (pl := p) (P := fun Q => decide (opn nq Q = 0)) 128 (tu, B, Q) hT
      have e1 := openMany_s hT2.2.2 p3.2.1
      have hol := opn_le hT2.2.2
      have hr := rn_le (nb := nb) (nq := nq) (T := (tu, B, Q)) (p := p)
      have hes : bs nb nq (tu, B, Q) (p + 1) = if opn nq (rn nb nq (tu, B, Q) p).2.2.2 = 0 then (match bs nb nq (tu, B, Q) p with
        | none => some (p, (rn nb nq (tu, B, Q) p).1)
        | some x => if x.2 ≤ (rn nb nq (tu, B, Q) p).1 then some x else some (p, (rn nb nq (tu, B, Q) p).1)) else bs nb nq (tu, B, Q) p := rfl
      have hrn : run p nb nq (fun Q => decide (opn nq Q = 0)) 128 (tu, B, Q) = rn nb nq (tu, B, Q) p := rfl
      rw [hrn] at p1 e1 hol
      obtain ⟨m3, w1, w2, w3⟩ := back_s (m := m2)
      have q4 : m3 4 = m 4 := by rw [w2 4 (by decide), p2.2.2.1, up_c (by decide)]
      have zz : ZR (m3 1) (nb, nq, pl, tu, B, Q) := hZ4.cp (fun k hk => by rw [w3 k hk, p2.2.2.1, up_c (by decide)])
      have sv : SV m m3 := ((SX.up1 (k := 2) (v := nI p)).tr p2).v.tr (SV.o w2 (Or.inl rfl))
      obtain ⟨m', w, u2, u3⟩ := ih (p + 1) m3 (by omega) (by omega) zz (by rw [q4]; exact hZ4)
      rw [p1, bd_some, e1, b1_some]
      unfold f_X6_best_L74 f_X6_best_L80
      rw [w1]
      simp only [bd_some, nI_add]
      refine ⟨m', ?_, sv.tr u2, u3⟩
      by_cases f : opn nq (rn nb nq (tu, B, Q) p).2.2.2 = 0
      · rw [if_pos f] at hes
        rw [f, ieq_t rfl]
        cases e : bs nb nq (tu, B, Q) p with
        | none =>
          rw [e] at hes
          rw [hes] at w
          show (if (-5 : Int32) = -5 then _ else _) = _
          rw [i5_t]
          exact w
        | some x =>
          rw [e] at hes
          have hx := bs_b (nb := nb) (nq := nq) (T := (tu, B, Q)) p (by omega) x e
          show (if nI x.1 = -5 then _ else (if nI x.2 ≤ nI (rn nb nq (tu, B, Q) p).1 then _ else _)) = _
          rw [i5_f (by omega)]
          by_cases d : x.2 ≤ (rn nb nq (tu, B, Q) p).1
          · simp only [d, if_true] at hes
            rw [hes] at w
            rw [ile_t d (by omega)]
            exact w
          · simp only [d, if_false] at hes
            rw [hes] at w
            rw [ile_f (by omega) (by omega)]
            exact w
      · rw [if_neg f] at hes
        rw [hes] at w
        rw [ieq_f f (by omega) (by decide)]
        exact w
theorem st_best (a0 : Int32) : stepOK Rel (fun M => f_X5_best M a0) (fun m => f_X6_best m a0) := by
  refine mkStep fun M S hn Hs ks K tl tx hI hC hR => ?_
  obtain ⟨nb, nq, pl, tu, B, Q⟩ := S
  have hI0 : BI nb B := hI.1.1
  have hQ0 : QQ nq Q := hI.1.2.1
  have hpl : pl ≤ 2 := hI.1.2.2.1
  have htu : tu < 8 := hI.1.2.2.2.1
  have hSD : SD nb B nq Q := hI.1.2.2.2.2
  have cB : CB (M 0) nb B := hC.1.1
  have cQ : CQ (M 0) nq Q := hC.1.2.1
  have cH : CH (M 0) pl tu := hC.1.2.2.1
  have cW : CW (M 0) nb B nq Q := hC.1.2.2.2
  have zB : ZB (M 9 1) nb B := hR.1.1
  have zQ : ZQ (M 9 1) nq Q := hR.1.2.1
  have zH : ZH (M 9 1) pl tu := hR.1.2.2
  have h8 := hI0.1
  have h6 := hQ0.1
  rcases ftN (x := 0) (y := 1) a0 (by decide) (by decide) with e | ⟨n, rfl, t1, t2, e⟩
  · refine ref_fin (r := -2) hI hC hR ?_ ?_
    · unfold f_X5_best
      simp (disch := omega) only [ile_t, ile_f, ilt_t, ilt_f, ieq_t, ieq_f, gd_nI, gn_nI, gz_nI, b1_some, bd_some, lt1_eq, nI_add, nI_mul, nI_clamp, if_true, if_false, e]
    · unfold f_X6_best
      simp (disch := omega) only [ile_t, ile_f, ilt_t, ilt_f, ieq_t, ieq_f, gd_nI, gn_nI, gz_nI, b1_some, bd_some, lt1_eq, nI_add, nI_mul, nI_clamp, if_true, if_false, in_eq, e]
  · have e0 := openC_s hQ0 cQ
    have o0 := openMany_s hQ0 zQ
    have hol := opn_le hQ0
    by_cases w : opn nq Q = 0
    · rw [w] at e0 o0
      refine ref_fin (r := -4) hI hC hR ?_ ?_
      · unfold f_X5_best
        simp (disch := omega) only [ile_t, ile_f, ilt_t, ilt_f, ieq_t, ieq_f, gd_nI, gn_nI, gz_nI, b1_some, bd_some, lt1_eq, nI_add, nI_mul, nI_clamp, if_true, if_false, e, e0]
      · unfold f_X6_best
        simp (disch := omega) only [ile_t, ile_f, ilt_t, ilt_f, ieq_t, ieq_f, gd_nI, gn_nI, gz_nI, b1_some, bd_some, lt1_eq, nI_add, nI_mul, nI_clamp, if_true, if_false, in_eq, e, o0]
    · obtain ⟨m1, p1⟩ := bestC_L (a0 := nI n) hI.1 FU 0 M (by decide) (by decide) hC.1
      have p1 : f_X5_best_L35 (nI n) FU M (-5) (nI 129) (nI 0) = _ := p1
      obtain ⟨m3, a1, a2, a3⟩ := aside_s (m := M 9)
      obtain ⟨m4, r1, r2, r3⟩ := bestR_L (a0 := nI n) hI.1 FU 0 m3 (by decide) (by decide) (by rw [a2 1 (by decide)]; exact hR.1) (hR.1.cp (fun k hk => a3 k hk))
      have r1 : f_X6_best_L35 (nI n) FU m3 (-5) (-5) (nI 0) = _ := r1
      refine try_fin (r := bsV (bs nb nq (tu, B, Q) 3) (nI n)) m1 hI hC hR ((SV.o a2 (Or.inr rfl)).tr r2) r3 ?_ ?_
      · unfold f_X5_best
        simp (disch := omega) only [ile_t, ile_f, ilt_t, ilt_f, ieq_t, ieq_f, gd_nI, gn_nI, gz_nI, b1_some, bd_some, lt1_eq, nI_add, nI_mul, nI_clamp, if_true, if_false, e, e0]
        exact p1
      · unfold f_X6_best
        simp (disch := omega) only [ile_t, ile_f, ilt_t, ilt_f, ieq_t, ieq_f, gd_nI, gn_nI, gz_nI, b1_some, bd_some, lt1_eq, nI_add, nI_mul, nI_clamp, if_true, if_false, in_eq, e, o0, a1]
        exact r1
end TR
