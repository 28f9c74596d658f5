/-! A STEP of the law's loop, and its end -/
section SP28
variable {M : MM} {m : SM} {nb nq pl tu b q r how ls n tl L i j k : Nat} {B Q : BK} {tx xs : Nat → Int32} {S : AS} {T : T3}
theorem nI_ne4 {a : Nat} (ha : a < 2 ^ 31) : ¬ nI a = (-4 : Int32) := fun e => by
  have h := congrArg Int32.toInt e
  rw [nI_toInt ha] at h
  have h2 : (-4 : Int32).toInt = -4 := by decide
  omega
theorem ne54 : ¬ (-5 : Int32) = -4 := by decide
theorem ua_sum (hI : BI nb B) : ua nb B + sumTo (fun b => B b 4) nb = sumTo (fun b => B b 3) nb := by
  have key : ∀ n, n ≤ nb → sumTo (fun b => B b 3 - B b 4) n + sumTo (fun b => B b 4) n = sumTo (fun b => B b 3) n := by
    intro n
    induction n with
    | zero => intro _; rfl
    | succ n ih =>
      intro hn
      have h1 := ih (by omega)
      have h2 := (hI.2 n (by omega)).2.2.2.2.2.1
      show (sumTo (fun b => B b 3 - B b 4) n + (B n 3 - B n 4)) + (sumTo (fun b => B b 4) n + B n 4) = sumTo (fun b => B b 3) n + B n 3
      omega
  exact key nb (Nat.le_refl _)
theorem s3L (hI : BI nb B) : sumTo (fun b => B b 3) nb ≤ 128 := by
  have := sumTo_le (f := fun b => B b 3) (c := 16) nb (fun i hi => (hI.2 i hi).2.2.2.2.1)
  have h8 := hI.1
  omega
theorem run_0 {P : BK → Bool} (h : (run pl nb nq P n T).1 = 0) : (run pl nb nq P n T).2 = T := by
  cases n with
  | zero => rfl
  | succ n =>
    unfold run at h ⊢
    by_cases c : P T.2.2 = true ∨ ua nb T.2.1 = 0
    · rw [if_pos c]
    · rw [if_neg c] at h
      exact absurd h (Nat.succ_ne_zero _)
theorem run_all {P : BK → Bool} : ∀ (n : Nat) (T : T3), TI nb nq T → ua nb T.2.1 ≤ n → P (run pl nb nq P n T).2.2.2 = false → (run pl nb nq P n T).1 = ua nb T.2.1
  | 0, T, _, hu, _ => by
    show 0 = ua nb T.2.1
    omega
  | n + 1, T, hT, hu, hp => by
    unfold run at hp ⊢
    by_cases c : P T.2.2 = true ∨ ua nb T.2.1 = 0
    · rw [if_pos c] at hp ⊢
      rcases c with c | c
      · have hp : P T.2.2 = false := hp
        rw [c] at hp
        cases hp
      · exact c.symm
    · rw [if_neg c] at hp ⊢
      have hu0 : ua nb T.2.1 ≠ 0 := fun z => c (Or.inr z)
      have h1 := ua_stp (pl := pl) hT hu0
      have h2 := run_all n (stp pl nb nq T) (TI_stp hT) (by omega) hp
      show (run pl nb nq P n (stp pl nb nq T)).1 + 1 = _
      omega
theorem bs_sp : ∀ n : Nat, (∀ x, bs nb nq T n = some x → x.1 < n ∧ x.2 = (rn nb nq T x.1).1 ∧ opn nq (rn nb nq T x.1).2.2.2 = 0) ∧ (bs nb nq T n = none → ∀ p, p < n → opn nq (rn nb nq T p).2.2.2 ≠ 0)
  | 0 => ⟨fun x h => (by cases h), fun _ p hp => absurd hp (Nat.not_lt_zero p)⟩
  | n + 1 => by
    obtain ⟨h1, h2⟩ := bs_sp n
    unfold bs
    by_cases c : opn nq (rn nb nq T n).2.2.2 = 0
    · simp only [if_pos c]
      cases e : bs nb nq T n with
      | none => exact ⟨fun x h => by cases h; exact ⟨Nat.lt_succ_self _, rfl, c⟩, fun h => (by cases h)⟩
      | some y =>
        obtain ⟨g1, g2, g3⟩ := h1 y e
        by_cases d : y.2 ≤ (rn nb nq T n).1
        · simp only [if_pos d]
          exact ⟨fun x h => by cases h; exact ⟨by omega, g2, g3⟩, fun h => (by cases h)⟩
        · simp only [if_neg d]
          exact ⟨fun x h => by cases h; exact ⟨Nat.lt_succ_self _, rfl, c⟩, fun h => (by cases h)⟩
    · simp only [if_neg c]
      refine ⟨fun x h => ?_, fun h p hp => ?_⟩
      · obtain ⟨g1, g2⟩ := h1 x h
        exact ⟨by omega, g2⟩
      · by_cases d : p = n
        · subst d; exact c
        · exact h2 h p (by omega)
/-- what holds at the loop's head -/
def LI (L : Nat) (xs : Nat → Int32) (tx : Nat → Int32) (M : MM) (nb nq pl : Nat) (T : T3) : Prop := CI M (nb, nq, pl, T.1, T.2.1, T.2.2) 0 tx ∧ KP nb T.2.1 nq T.2.2 ∧ RI (M 9 0) nb T.2.1 nq T.2.2 ∧ BS L xs nb T.2.1
theorem LI.fr {M2 : MM} (h : LI L xs tx M nb nq pl T) (hC : CI M2 (nb, nq, pl, T.1, T.2.1, T.2.2) 0 tx) (h9 : M2 9 = M 9) : LI L xs tx M2 nb nq pl T := ⟨hC, h.2.1, by rw [h9]; exact h.2.2.1, h.2.2.2⟩
theorem LI.tr (h : LI L xs tx M nb nq pl T) : LI L xs tx (gs M 1 m) nb nq pl T := h.fr h.1.tr (gs_ne (by decide))
theorem LI.sound (h : LI L xs tx M nb nq pl T) (hL31 : L < 2 ^ 31) : ∃ m, f_L_areSound M L xs = some (nI 1, gs M 9 m) ∧ LI L xs tx (gs M 9 m) nb nq pl T := by
  obtain ⟨m, p1, p2⟩ := areSound_s h.1 hL31 h.2.2.2 h.2.1 h.2.2.1
  exact ⟨m, p1, h.1.r9, h.2.1, by rw [gs_at]; exact p2, h.2.2.2⟩
theorem l559 (h : LI L xs tx M nb nq pl T) (hL31 : L < 2 ^ 31) : ∃ M', f_L_law_L559 L xs M (nI 1) = some (nI 1, M') := by
  obtain ⟨m, p1, -⟩ := h.sound hL31
  unfold f_L_law_L559
  rw [ieq_f (by decide) (by decide) (by decide), p1, bd_some, ieq_f (by decide) (by decide) (by decide)]
  exact ⟨_, rfl⟩
theorem l491 {x5 x6 : Int32} (h : LI L xs tx M nb nq pl T) (hL31 : L < 2 ^ 31) (w : opn nq T.2.2 ≠ 0) (hx : (x5 = -5 ∧ (ua nb T.2.1 ≠ 0 → (rn nb nq T pl).1 = ua nb T.2.1)) ∨ (¬ x5 = -5 ∧ x6 = nI (rn nb nq T pl).1 ∧ opn nq (rn nb nq T pl).2.2.2 = 0)) : ∃ M', f_L_law_L491 L xs M x5 x6 (nI (ua nb T.2.1)) = some (nI 1, M') := by
  have hul := ua_le h.1.bi
  unfold f_L_law_L491
  by_cases u : ua nb T.2.1 = 0
  · rw [o_readOn1 h.1 w u, bd_some, u, ieq_t rfl, if_pos rfl]
    exact l559 h hL31
  · obtain ⟨M1, p1, p2, p3⟩ := o_readOn h.1 w u
    have hk := run_keeps (pl := pl) (P := fun Q => decide (opn nq Q = 0)) 128 T h.1.ti h.2.1 h.2.2.1
    have p1 : f_X5_readOn M = some (nI (rn nb nq T pl).1, M1) := p1
    have h1 : LI L xs tx M1 nb nq pl (rn nb nq T pl).2 := ⟨p3, hk.1, by rw [p2]; exact hk.2.1, h.2.2.2.sb hk.2.2⟩
    rw [p1, bd_some, ieq_f u (by omega) (by decide)]
    rcases hx with ⟨e, hx⟩ | ⟨e, e6, e0⟩
    · rw [if_pos e, hx u, ieq_t rfl]
      exact l559 h1 hL31
    · have c2 := o_count2 h1.1
      rw [e0] at c2
      rw [if_neg e, e6, ieq_t rfl, c2, b1_some, ieq_t rfl]
      exact l559 h1 hL31
theorem l403 (h : LI L xs tx M nb nq pl T) (hL31 : L < 2 ^ 31) : ∃ M', f_L_law_L403 L xs M = some (nI 1, M') := by
  have hol := opn_le h.1.qq
  have hul := ua_le h.1.bi
  have hpl := h.1.plan
  have hs := ua_sum h.1.bi
  have hs3 := s3L h.1.bi
  unfold f_L_law_L403
  rw [o_count2 h.1, b1_some]
  by_cases w : opn nq T.2.2 = 0
  · rw [w, ieq_t rfl, o_readOn0 h.1 w, bd_some, if_pos rfl, o_best0 h.1 (by decide) w, bd_some, if_pos rfl]
    exact ⟨_, rfl⟩
  · rw [ieq_f w (by omega) (by decide)]
    obtain ⟨m1, p1⟩ := o_best (k := 0) h.1 (by decide) w
    have h1 : LI L xs tx (gs M 1 m1) nb nq pl T := h.tr
    obtain ⟨m2, p2⟩ := o_best (k := 1) h1.1 (by decide) w
    have h2 : LI L xs tx (gs (gs M 1 m1) 1 m2) nb nq pl T := h1.tr
    rw [p1, bd_some, p2, bd_some, o_count4 h2.1, b1_some, o_count5 h2.1, b1_some, nI_sub (by omega)]
    have eu : sumTo (fun b => T.2.1 b 3) nb - sumTo (fun b => T.2.1 b 4) nb = ua nb T.2.1 := by omega
    rw [eu]
    obtain ⟨g1, g2⟩ := bs_sp (nb := nb) (nq := nq) (T := T) 3
    have z1 : ¬ nI 1 = nI 0 := by decide
    show ∃ M', (if bsV (bs nb nq T 3) (nI 0) = -5 then f_L_law_L491 L xs (gs (gs M 1 m1) 1 m2) (bsV (bs nb nq T 3) (nI 0)) (bsV (bs nb nq T 3) (nI 1)) (nI (ua nb T.2.1)) else _) = some (nI 1, M')
    unfold bsV
    rw [if_pos rfl, if_neg z1]
    cases e : bs nb nq T 3 with
    | none =>
      have e5 : mpI (none : Option (Nat × Nat)) = -5 := rfl
      rw [e5, i5_t]
      have hn := g2 e pl (by omega)
      exact l491 h2 hL31 w (Or.inl ⟨rfl, fun _ => run_all 128 T h.1.ti hul (by show decide _ = false; exact decide_eq_false hn)⟩)
    | some x =>
      obtain ⟨a1, a2, a3⟩ := g1 x e
      have e5 : mpI (some x) = nI x.1 := rfl
      have e6 : bsR (some x) = nI x.2 := rfl
      rw [e5, e6, i5_f (by omega), o_count3 h2.1, b1_some]
      by_cases c : x.1 = pl
      · rw [ieq_t c]
        exact l491 h2 hL31 w (Or.inr ⟨nI_ne5 (by omega), by rw [a2, c], by rw [← c]; exact a3⟩)
      · rw [ieq_f c (by omega) (by omega)]
        obtain ⟨M3, q1, q2, q3⟩ := o_setPlan h2.1 (p := x.1) (by omega) (fun z => c z.symm)
        rw [q1, bd_some, ile_t (Nat.zero_le _) (by omega)]
        have h3 : LI L xs tx M3 nb nq x.1 T := ⟨q3, h2.2.1, by rw [q2]; exact h2.2.2.1, h2.2.2.2⟩
        exact l491 h3 hL31 w (Or.inr ⟨nI_ne5 (by omega), by rw [a2], a3⟩)
/-- how many rows a question is told to stop in: d, by now -/
def duV (nb nq pl : Nat) (T : T3) (q : Nat) (d : Int32) : Prop := (T.2.2 q 4 = 1 ∧ d = -4) ∨ (T.2.2 q 4 = 0 ∧ d = siR (run pl nb nq (hs q) 128 T) 0 q)
theorem due_s (h : LI L xs tx M nb nq pl T) (hq : q < nq) : ∃ d m, f_X5_stopsIn M (nI q) = some (d, gs M 1 m) ∧ duV nb nq pl T q d := by
  have hqq := h.1.qq.2 q hq
  by_cases f : T.2.2 q 4 = 0
  · obtain ⟨m, p1⟩ := o_stopsIn h.1 hq f
    exact ⟨_, m, p1, Or.inr ⟨f, rfl⟩⟩
  · have p1 := o_stopsIn0 h.1 hq f
    exact ⟨-4, M 1, by rw [gs_self]; exact p1, Or.inl ⟨by omega, rfl⟩⟩
theorem due_ne (hf : T.2.2 q 4 = 0) {d : Int32} (h : duV nb nq pl T q d) : ¬ d = -4 := by
  rcases h with ⟨h1, -⟩ | ⟨-, rfl⟩
  · omega
  · have hr := run_le (pl := pl) (nb := nb) (nq := nq) (P := hs q) 128 T
    unfold siR
    by_cases c : (run pl nb nq (hs q) 128 T).2.2.2 q 4 = 0
    · rw [if_pos c]; exact ne54
    · rw [if_neg c]; exact nI_ne4 (by omega)
theorem plan_s (h : LI L xs tx M nb nq pl T) : ∃ v m, f_X5_best M (nI 0) = some (v, gs M 1 m) ∧ ((opn nq T.2.2 = 0 ∧ v = -4) ∨ (opn nq T.2.2 ≠ 0 ∧ ¬ v = -4)) := by
  by_cases w : opn nq T.2.2 = 0
  · have p1 := o_best0 (k := 0) h.1 (by decide) w
    exact ⟨-4, M 1, by rw [gs_self]; exact p1, Or.inl ⟨w, rfl⟩⟩
  · obtain ⟨m, p1⟩ := o_best (k := 0) h.1 (by decide) w
    refine ⟨_, m, p1, Or.inr ⟨w, ?_⟩⟩
    show ¬ bsV (bs nb nq T 3) (nI 0) = -4
    unfold bsV
    rw [if_pos rfl]
    cases e : bs nb nq T 3 with
    | none => exact ne54
    | some x =>
      obtain ⟨a1, -⟩ := (bs_sp (nb := nb) (nq := nq) (T := T) 3).1 x e
      exact nI_ne4 (by omega)
/-- behind a row that was read: what had been told comes -/
theorem l324 {k78 : MM → Int32 → Int32 → Option (Int32 × MM)} {d : Int32} (h1 : LI L xs tx M nb nq pl (stp pl nb nq T)) (hT : TI nb nq T) (hu : ua nb T.2.1 ≠ 0) (hq : q < nq) (hd : duV nb nq pl T q d) (fin : ∀ M0, LI L xs tx M0 nb nq pl (stp pl nb nq T) → ∃ M', f_L_law_L374 k78 L xs M0 (nI nq) (nI k) = some (nI 1, M')) : ∃ M', f_L_law_L324 k78 L xs M (nI nq) (nI k) (nI q) d (nI ((stp pl nb nq T).2.2 q 4)) = some (nI 1, M') := by
  have hq1 := (h1.1.qq.2 q hq).2.2.2.2.2
  have hst := ua_stp (pl := pl) hT hu
  have hul := ua_le hT.2.1
  have hTs := TI_stp (pl := pl) hT
  unfold f_L_law_L324
  rcases hd with ⟨f, rfl⟩ | ⟨f, ed⟩
  · rw [if_pos rfl]
    exact fin M h1
  · have hne : ¬ d = -4 := due_ne f (Or.inr ⟨f, ed⟩)
    rw [if_neg hne]
    rw [run_1 (hs_t f) hu] at ed
    by_cases g : (stp pl nb nq T).2.2 q 4 = 0
    · have er : run pl nb nq (hs q) 128 (stp pl nb nq T) = run pl nb nq (hs q) 127 (stp pl nb nq T) := run_fuel _ _ _ hTs (by omega) (by omega)
      have hrl := run_le (pl := pl) (nb := nb) (nq := nq) (P := hs q) 127 (stp pl nb nq T)
      unfold siR at ed
      rw [g]
      by_cases c : (run pl nb nq (hs q) 127 (stp pl nb nq T)).2.2.2 q 4 = 0
      · simp only [if_pos c] at ed
        rw [ed]
        have e51 : ¬ (-5 : Int32) = nI 1 := by decide
        have e5l : (-5 : Int32) < nI 1 := by decide
        unfold f_L_law_L344
        rw [if_neg e51, ieq_t rfl, if_pos e5l]
        exact fin M h1
      · simp only [if_neg c, Nat.zero_add] at ed
        have hk : (run pl nb nq (hs q) 127 (stp pl nb nq T)).1 ≠ 0 := fun z => by
          rw [run_0 z] at c
          exact c g
        obtain ⟨m, p1⟩ := o_stopsIn h1.1 hq g
        have p1 : f_X5_stopsIn M (nI q) = some (siR (run pl nb nq (hs q) 128 (stp pl nb nq T)) 0 q, gs M 1 m) := p1
        rw [er] at p1
        unfold siR at p1
        rw [if_neg c, Nat.zero_add] at p1
        rw [ed]
        unfold f_L_law_L344
        rw [ieq_f (by omega) (by omega) (by decide), ieq_t rfl, ilt_f (by omega) (by omega), ieq_f (by omega) (by omega) (by decide), p1, bd_some, nI_sub (by omega), Nat.add_sub_cancel, ieq_t rfl]
        exact fin _ h1.tr
    · have g1 : (stp pl nb nq T).2.2 q 4 = 1 := by omega
      rw [run_s (hs_f g)] at ed
      have ed : d = nI 1 := by
        rw [ed]
        unfold siR
        rw [if_neg g]
        rfl
      rw [ed, g1, ieq_t rfl]
      unfold f_L_law_L344
      rw [ieq_t rfl, ilt_f (Nat.le_refl _) (by decide), ieq_t rfl]
      exact fin M h1
theorem l205 {k78 : MM → Int32 → Int32 → Option (Int32 × MM)} {d s : Int32} (h : LI L xs tx M nb nq pl T) (hL31 : L < 2 ^ 31) (hu : ua nb T.2.1 ≠ 0) (hq : q < nq) (hd : duV nb nq pl T q d) (hb : b < nb) (en : nx pl T.1 nb T.2.1 nq T.2.2 = some b) (hub : urd T.2.1 b = true) (fin : ∀ M0, LI L xs tx M0 nb nq pl (stp pl nb nq T) → ∃ M', f_L_law_L374 k78 L xs M0 (nI nq) (nI k) = some (nI 1, M')) : ∃ M', f_L_law_L205 k78 L xs M (nI nq) (nI k) (nI q) d (nI b) (nI (T.2.1 b 4)) (nI (sumTo (fun b => T.2.1 b 4) nb)) s s = some (nI 1, M') := by
  have hI := h.1.bi
  have h8 := hI.1
  have hbi := hI.2 b hb
  have hlt : T.2.1 b 4 < T.2.1 b 3 := of_decide_eq_true hub
  have e1 := o_value (r := T.2.1 b 4) h.1 hb hlt
  rw [if_pos (Nat.le_refl _)] at e1
  have e2 := o_block (k := 4) h.1 hb (by decide)
  obtain ⟨M1, p1, p2, p3⟩ := o_read1 h.1 hu
  have p1 : f_X5_read M (nI 1) = some (nI 1, M1) := p1
  have p3 : CI M1 (nb, nq, pl, (stp pl nb nq T).1, (stp pl nb nq T).2.1, (stp pl nb nq T).2.2) 0 tx := p3
  have eB : (stp pl nb nq T).2.1 = rdB T.2.1 b := by
    unfold stp
    rw [en]
  have h1 : LI L xs tx M1 nb nq pl (stp pl nb nq T) := ⟨p3, KP_stp h.1.ti h.2.1, by rw [p2]; exact RI_stp h.1.ti h.2.2.1, h.2.2.2.sb SB_stp⟩
  have s1 := ua_sum hI
  have s2 := ua_sum h1.1.bi
  have s3 := ua_stp (pl := pl) h.1.ti hu
  have s3 : ua nb (stp pl nb nq T).2.1 + 1 = ua nb T.2.1 := s3
  have s4 : sumTo (fun b => (stp pl nb nq T).2.1 b 3) nb = sumTo (fun b => T.2.1 b 3) nb := sumTo_congr _ (fun x hx => SB_stp x hx 3 (by decide))
  have s5 : sumTo (fun b => (stp pl nb nq T).2.1 b 4) nb = sumTo (fun b => T.2.1 b 4) nb + 1 := by omega
  have c5 := o_count5 h1.1
  rw [s5] at c5
  have b4 : (stp pl nb nq T).2.1 b 4 = T.2.1 b 4 + 1 := by rw [eB]; exact upB_at
  have b3 : (stp pl nb nq T).2.1 b 3 = T.2.1 b 3 := SB_stp b hb 3 (by decide)
  have b5 : (stp pl nb nq T).2.1 b (5 + T.2.1 b 4) = T.2.1 b (5 + T.2.1 b 4) := SB_stp b hb _ (by omega)
  have e4 := o_block (k := 4) h1.1 hb (by decide)
  rw [b4] at e4
  have e5 := o_value (r := T.2.1 b 4) h1.1 hb (by rw [b3]; exact hlt)
  rw [b4, if_neg (by omega), b5] at e5
  obtain ⟨-, -, -, x3, x5⟩ := h.2.2.2 b hb
  have ev : T.2.1 b (5 + T.2.1 b 4) = hV (ce L xs (1 + 2 * b)) (ce L xs (2 + 2 * b)) (T.2.1 b 4) := x5 _ (by rw [← x3]; exact hlt)
  have q4 := o_quest (k := 4) h1.1 hq (by decide)
  have hq1 := (h1.1.qq.2 q hq).2.2.2.2.2
  have goal := l324 h1 h.1.ti hu hq hd fin
  unfold f_L_law_L205
  rw [if_pos rfl, e1, b1_some, if_pos rfl, e2, b1_some, ieq_t rfl, p1, bd_some, ieq_t rfl, c5, b1_some, nI_add, ieq_t rfl, e4, b1_some, nI_add, ieq_t rfl, e5, b1_some, nI_mul, nI_add, cell_s hL31 (by omega), b1_some, nI_add, cell_s hL31 (by omega), b1_some, valueOf_s, b1_some, ← ev, ieq_t rfl, q4, b1_some]
  by_cases g : (stp pl nb nq T).2.2 q 4 = 1
  · rw [g] at goal ⊢
    rw [ieq_t rfl]
    exact goal
  · have g0 : (stp pl nb nq T).2.2 q 4 = 0 := by omega
    rw [g0] at goal ⊢
    rw [ieq_f (by decide) (by decide) (by decide)]
    exact goal
theorem l78 (hL31 : L < 2 ^ 31) (hnq : 1 ≤ nq) : ∀ n k M (T : T3), k ≤ 24 → 24 < k + n → LI L xs tx M nb nq pl T → ∃ M', f_L_law_L78 L xs n M (nI nq) (nI k) = some (nI 1, M') := by
  intro n
  induction n with
  | zero => intro k M T h1 h2; omega
  | succ n ih =>
    intro k M T h1 h2 h
    have hs := ua_sum h.1.bi
    have hs3 := s3L h.1.bi
    have hul := ua_le h.1.bi
    have h6 := h.1.qq.1
    have h8 := h.1.bi.1
    rw [f_L_law_L78.eq_2, o_count5 h.1, b1_some, o_count4 h.1, b1_some]
    by_cases u : ua nb T.2.1 = 0
    · rw [ile_t (by omega) (by omega)]
      exact l403 h hL31
    · rw [ile_f (by omega) (by omega)]
      by_cases c : k = 24
      · rw [ile_t (by omega) (by omega)]
        exact l403 h hL31
      · rw [ile_f (by omega) (by omega), nI_add, cell_s hL31 (by omega), b1_some, low_s (by omega) (by omega), b1_some]
        have hq : lo (ce L xs (24 + k)) nq < nq := lo_lt (by omega)
        generalize lo (ce L xs (24 + k)) nq = q at hq
        obtain ⟨d, m1, p1, hd⟩ := due_s h hq
        have ha : LI L xs tx (gs M 1 m1) nb nq pl T := h.tr
        obtain ⟨b, en, hb, hub, n0, n1⟩ := o_next ha.1 u
        obtain ⟨v, m2, p2, hv⟩ := plan_s ha
        have hc : LI L xs tx (gs (gs M 1 m1) 1 m2) nb nq pl T := ha.tr
        have q4 := o_quest (k := 4) hc.1 hq (by decide)
        have hq1 := (hc.1.qq.2 q hq).2.2.2.2.2
        have c2 := o_count2 hc.1
        have hol := opn_le hc.1.qq
        have ex : ∀ M0, LI L xs tx M0 nb nq pl (stp pl nb nq T) → ∃ M', f_L_law_L374 (f_L_law_L78 L xs n) L xs M0 (nI nq) (nI k) = some (nI 1, M') := by
          intro M0 h0
          obtain ⟨m, g1, g2⟩ := h0.sound hL31
          obtain ⟨M', g3⟩ := ih (k + 1) _ _ (by omega) (by omega) g2
          refine ⟨M', ?_⟩
          unfold f_L_law_L374 f_L_law_L379
          rw [ieq_f (by decide) (by decide) (by decide), g1, bd_some, ieq_f (by decide) (by decide) (by decide), nI_add]
          exact g3
        have key : ∀ s : Int32, ∃ M', f_L_law_L205 (f_L_law_L78 L xs n) L xs (gs (gs M 1 m1) 1 m2) (nI nq) (nI k) (nI q) d (nI b) (nI (T.2.1 b 4)) (nI (sumTo (fun b => T.2.1 b 4) nb)) s s = some (nI 1, M') := fun s => l205 hc hL31 u hq hd hb en hub ex
        have k177 : ∀ s : Int32, ∃ M', f_L_law_L177 (f_L_law_L78 L xs n) L xs (gs (gs M 1 m1) 1 m2) (nI nq) (nI k) (nI q) d (nI b) (nI (T.2.1 b 4)) (nI (sumTo (fun b => T.2.1 b 4) nb)) v s s = some (nI 1, M') := by
          intro s
          unfold f_L_law_L177
          rw [if_pos rfl]
          rcases hv with ⟨w, rfl⟩ | ⟨w, hv⟩
          · rw [if_pos rfl]
            unfold f_L_law_L192
            rw [c2, b1_some, ieq_t w]
            exact key _
          · rw [if_neg hv]
            unfold f_L_law_L192
            rw [c2, b1_some, ieq_f w (by omega) (by decide)]
            exact key _
        rw [p1, bd_some, n0, b1_some, n1, b1_some, o_count5 ha.1, b1_some, p2, bd_some]
        by_cases f : T.2.2 q 4 = 0
        · rw [if_neg (due_ne f hd)]
          unfold f_L_law_L161
          rw [q4, b1_some, f, ieq_f (by decide) (by decide) (by decide)]
          exact k177 _
        · have f1 : T.2.2 q 4 = 1 := by omega
          have ed : d = -4 := by
            rcases hd with ⟨-, e⟩ | ⟨e, -⟩
            · exact e
            · exact absurd e f
          rw [if_pos ed]
          unfold f_L_law_L161
          rw [q4, b1_some, f1, ieq_t rfl]
          exact k177 _
/-! the law's row at first, then all of it -/
theorem aS_r (hI : BI nb B) : aS nb B ls how nb ≤ 999 * rQ nb B ls 3 := by
  have key : ∀ n, n ≤ nb → aS nb B ls how n ≤ 999 * sumTo (fun b => if ls.testBit (B b 0) then B b 3 else 0) n := by
    intro n
    induction n with
    | zero => intro _; exact Nat.zero_le _
    | succ n ih =>
      intro hn
      have h1 := ih (by omega)
      have h2 := sumTo_le (f := vl nb B n how) (c := 999) (B n 3) (fun i hi => vl_le hI (by omega) hi)
      show aS nb B ls how n + (if ls.testBit (B n 0) then sumTo (vl nb B n how) (B n 3) else 0) ≤ 999 * (sumTo (fun b => if ls.testBit (B b 0) then B b 3 else 0) n + (if ls.testBit (B n 0) then B n 3 else 0))
      by_cases c : ls.testBit (B n 0) = true
      · rw [if_pos c, if_pos c]
        omega
      · rw [if_neg c, if_neg c]
        omega
  exact key nb (Nat.le_refl _)
theorem ans_200 {qr : Nat → Nat} (hI : BI nb B) : ans nb B qr how ≤ 200000 := by
  have h1 := aS_le (ls := qr 1) (how := how) hI (Nat.le_refl nb)
  have h2 := aC_le (ls := qr 1) (lim := qr 2) (how := how) hI (Nat.le_refl nb)
  have h3 := aL_le (nb := nb) (B := B) (ls := qr 1) (how := how) nb
  have h4 := aG_le (ls := qr 1) (how := how) hI nb (Nat.le_refl nb)
  have h6 := aS_r (ls := qr 1) (how := how) hI
  have h5 : 100 * aS nb B (qr 1) how nb / rQ nb B (qr 1) 3 ≤ 99900 := Nat.div_le_of_le_mul (by omega)
  unfold ans
  repeat' split
  all_goals omega
theorem l58 (hL31 : L < 2 ^ 31) (hnq : 1 ≤ nq) (h : LI L xs tx M nb nq pl T) : ∃ M', f_L_law_L58 L xs M = some (nI 1, M') := by
  obtain ⟨m, p1, p2⟩ := h.sound hL31
  obtain ⟨M', q1⟩ := l78 hL31 hnq FU 0 _ T (Nat.zero_le _) (by rw [FU_eq]; decide) p2
  refine ⟨M', ?_⟩
  unfold f_L_law_L58
  rw [p1, bd_some, ieq_f (by decide) (by decide) (by decide), o_count1 p2.1, b1_some]
  exact q1
theorem l25 (hL31 : L < 2 ^ 31) (hnq : 1 ≤ nq) (hK : KP nb B nq Q) (hS : BS L xs nb B) : ∀ n i M, i ≤ 6 → 6 < i + n → CI M (nb, nq, pl, tu, B, Q) 0 tx → (∀ q, q < i → M 9 0 q = -5 ∧ M 9 0 (6 + q) = nI 200000 ∧ M 9 0 (12 + q) = -5) → ∃ M', f_L_law_L25 L xs n M (nI i) = some (nI 1, M') := by
  intro n
  induction n with
  | zero => intro i M h1 h2; omega
  | succ n ih =>
    intro i M h1 h2 h hr
    rw [f_L_law_L25.eq_2]
    by_cases c : i = 6
    · rw [ile_t (by omega) (by omega)]
      have h6 := h.qq.1
      exact l58 (T := (tu, B, Q)) hL31 hnq ⟨h, hK, fun q hq _ => by
        obtain ⟨a1, a2, a3⟩ := hr q (by omega)
        exact ⟨Or.inl a1, ⟨200000, a2, ans_200 h.bi, by decide⟩, Or.inl a3⟩, hS⟩
    · rw [ile_f (by omega) (by omega), gd_nI (by omega) (by decide), nI_clamp (by omega), lt1_eq, nI_add, gd_nI (by omega) (by decide), nI_clamp (by omega), lt1_eq, nI_add, gd_nI (by omega) (by decide), nI_clamp (by omega), lt1_eq, nI_add, gs_gs, gs_gs, gs_at, gs_at]
      refine ih (i + 1) _ (by omega) (by omega) h.r9 (fun q hq => ?_)
      rw [gs_at]
      by_cases d : q = i
      · subst d
        refine ⟨?_, ?_, up_same⟩
        · rw [up_o (Or.inr (by omega)), up_o (Or.inr (by omega)), up_same]
        · rw [up_o (Or.inr (by omega)), up_same]
      · obtain ⟨a1, a2, a3⟩ := hr q (by omega)
        refine ⟨?_, ?_, ?_⟩
        · rw [up_o (Or.inr (by omega)), up_o (Or.inr (by omega)), up_o (Or.inr (by omega))]
          exact a1
        · rw [up_o (Or.inr (by omega)), up_o (Or.inr (by omega)), up_o (Or.inr (by omega))]
          exact a2
        · rw [up_o (Or.inr (by omega)), up_o (Or.inr (by omega)), up_o (Or.inr (by omega))]
          exact a3
/-- THE LAW ANSWERS 1 -/
theorem law_s (hL31 : L < 2 ^ 31) : ∃ M', f_L_law (fun _ _ _ => 0) L xs = some (nI 1, M') := by
  obtain ⟨M1, nb, nq, pl, B, Q, tx, p1, p2, p3, p4, p5⟩ := build_s (L := L) (xs := xs) hL31
  obtain ⟨M', q1⟩ := l25 hL31 p2 p4 p5 FU 0 M1 (Nat.zero_le _) (by rw [FU_eq]; decide) p3 (fun q hq => absurd hq (Nat.not_lt_zero q))
  refine ⟨M', ?_⟩
  unfold f_L_law
  rw [p1, bd_some, ieq_f (by decide) (by decide) (by decide)]
  exact q1
end SP28
