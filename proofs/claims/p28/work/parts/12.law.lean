/-! THE CLAIM OUT OF ONE WALK OF THE LAW'S BODY. Your part is whole_start (and what it stands on); all else here is the same for every law, but numbers. -/
def R_law : String := "SureAnswersLaw"
def lw_P (b : Addr) (xs : List Int32) (args : Array Value) (s : State) : Prop := args = #[.ref b] ∧ s.IntsAt b xs ∧ xs.length ≤ 260 ∧ (Jvm.Cond.and given_1 narrow_1).before args s = true
def lw_Q (_ : Array Value) (s : State) (o : Outcome) (t : State) : Prop := o = .returned (some (.int 1)) ∧ Framed s o t [] 600000 7302250
def lw_Z (below : List Frame) (a : Array Value) (s : State) : State → Prop := fun t => ∃ o, t.status = .running ∧ Ended t below o ∧ lw_Q a s o t
/-- the law's own end, with 1 on the stack, nothing written that was there before, its room as the claim has it -/
theorem lw_ret {p : Program} {l : Launch} {e : Env} {s : State} {m : MethodId} {below : List Frame} {meth : Method} {c : Code} {b : Nat} (hx : p.tables.exec = Jvm.exec) (hb : c.code = code) (hr : meth.sig.returnType = ret) (hlocks : meth.locks = false) {pc : Nat} {H : Heap} {ls : Array Slot} (hdg : decode code pc = .ok (.ireturn, 1)) : W p l e room_1 s m #[Value.ref b] below meth c H [] 600000 7302250 (lw_Z below #[Value.ref b] s) (F0 m pc ls [.int 1]) := by
  intro T hT X
  obtain ⟨fs, hret, hrun, hended, hW, hframe⟩ := X.leave (v := some (.int 1)) (hlocks := hlocks) (fun h => by rw [hr] at h; cases h)
  have hmeth' : T.vm.method? m = some meth := X.method'
  refine ⟨T.setFrames fs, ?_, .returned (some (.int 1)), hrun, hended, rfl, ⟨_, rfl⟩, hW, hframe⟩
  jvm_step X.here [X.here.top, hx, hb, hdg, hmeth', hr, ret, narrow_b1]
  (try refine ⟨rfl, ?_⟩); (try refine ⟨rfl, ?_⟩)
  first | (intro acts; rw [hret _ acts rfl rfl rfl]) | rw [hret _ _ rfl rfl rfl]
  exact Steps.refl _
/-- what holds at the law's entry: the machine, the code, the tables' words (any of lw_tbl by 'hts w (by decide +kernel)'), the script of L ints xs at the cell b, what the Statement gives of the start (any of its parts by flat_of_before) -/
def lw_At (p : Program) (s : State) (m : MethodId) (meth : Method) (c : Code) (b L : Nat) (xs : Nat → Int32) : Prop :=
  p.tables.exec = Jvm.exec ∧ c.code = code ∧ meth.sig.returnType = ret ∧ c.maxLocals = 13 ∧ s.vm.findClass R_law = some m.cls ∧ (∀ w ∈ lw_tbl, w.before #[Value.ref b] s = true) ∧ va_X b L xs s s.heap ∧ b < s.heap.size ∧ meth.locks = false ∧ (Jvm.Cond.and given_1 narrow_1).before #[Value.ref b] s = true

/-- from a place of the law, with this memory, these locals, this stack -/
def JM (p : Program) (l : Launch) (e : Env) (s : State) (m : MethodId) (b : Nat) (below : List Frame) (meth : Method) (c : Code) (D : va_G) (cy : Nat → ClassId) (ad : Nat → Nat → Nat) (M : MM) (nL : Nat) (lv : List (Nat × Value)) (pc : Nat) (st : List Value) : Prop :=
  ∀ (H : Heap) (locs : List Loc), WH D cy ad M H → va_S (fun q : Nat => s.heap.size ≤ q) s.heap H locs → ∀ ls : Array Slot, lv_has ls nL lv → W p l e room_1 s m #[Value.ref b] below meth c H locs 182 2011 (lw_Z below #[Value.ref b] s) (F0 m pc ls st)
theorem l_ret {p : Program} {l : Launch} {e : Env} {s : State} {m : MethodId} {below : List Frame} {meth : Method} {c : Code} {b : Nat} (hx : p.tables.exec = Jvm.exec) (hb : c.code = code) (hr : meth.sig.returnType = ret) (hlk : meth.locks = false) {H : Heap} {locs : List Loc} (hS : va_S (fun q : Nat => s.heap.size ≤ q) s.heap H locs) {v : Int32} (er : v = nI 1) {pc : Nat} {ls : Array Slot} (hdg : decode code pc = .ok (.ireturn, 1)) : W p l e room_1 s m #[Value.ref b] below meth c H locs 182 2011 (lw_Z below #[Value.ref b] s) (F0 m pc ls [.int v]) := by
  subst er
  refine va_forget (fun q hq => hS.2.2 q hq) ?_
  refine W.widen (k := 600000) (n := 7302250) (Nat.le_of_ble_eq_true rfl) (Nat.le_of_ble_eq_true rfl) ?_
  exact lw_ret hx hb hr hlk hdg
def f_L_law_L379 (k78 : MM → Int32 → Int32 → Option (Int32 × MM)) (L : Nat) (xs : Nat → Int32) (M : MM) (x3 : Int32) (x4 : Int32) (s0 : Int32) : Option (Int32 × MM) :=
  (if s0 = (nI 0) then some ((nI 0), M) else bd (f_L_areSound M L xs) fun r3 M4 => (if r3 = (nI 0) then some ((nI 0), M4) else k78 M4 x3 (x4 + (nI 1))))
def f_L_law_L374 (k78 : MM → Int32 → Int32 → Option (Int32 × MM)) (L : Nat) (xs : Nat → Int32) (M : MM) (x3 : Int32) (x4 : Int32) : Option (Int32 × MM) :=
  f_L_law_L379 k78 L xs M x3 x4 (nI 1)
def f_L_law_L378 (k78 : MM → Int32 → Int32 → Option (Int32 × MM)) (L : Nat) (xs : Nat → Int32) (M : MM) (x3 : Int32) (x4 : Int32) : Option (Int32 × MM) :=
  f_L_law_L379 k78 L xs M x3 x4 (nI 0)
def f_L_law_L344 (k78 : MM → Int32 → Int32 → Option (Int32 × MM)) (L : Nat) (xs : Nat → Int32) (M : MM) (x3 : Int32) (x4 : Int32) (x5 : Int32) (x6 : Int32) (x11 : Int32) (s0 : Int32) : Option (Int32 × MM) :=
  (if s0 = x11 then (if x6 < (nI 1) then f_L_law_L374 k78 L xs M x3 x4 else (if x6 = (nI 1) then f_L_law_L374 k78 L xs M x3 x4 else bd (f_X5_stopsIn M x5) fun r5 M6 => (if r5 = (x6 - (nI 1)) then f_L_law_L374 k78 L xs M6 x3 x4 else f_L_law_L378 k78 L xs M6 x3 x4))) else f_L_law_L378 k78 L xs M x3 x4)
def f_L_law_L324 (k78 : MM → Int32 → Int32 → Option (Int32 × MM)) (L : Nat) (xs : Nat → Int32) (M : MM) (x3 : Int32) (x4 : Int32) (x5 : Int32) (x6 : Int32) (s0 : Int32) : Option (Int32 × MM) :=
  (if x6 = (-4 : Int32) then f_L_law_L374 k78 L xs M x3 x4 else (if x6 = (nI 1) then f_L_law_L344 k78 L xs M x3 x4 x5 x6 s0 (nI 1) else f_L_law_L344 k78 L xs M x3 x4 x5 x6 s0 (nI 0)))
def f_L_law_L205 (k78 : MM → Int32 → Int32 → Option (Int32 × MM)) (L : Nat) (xs : Nat → Int32) (M : MM) (x3 : Int32) (x4 : Int32) (x5 : Int32) (x6 : Int32) (x7 : Int32) (x8 : Int32) (x9 : Int32) (s0 : Int32) (s1 : Int32) : Option (Int32 × MM) :=
  (if s0 = s1 then b1 (f_X5_value M x7 x8) fun r3 => (if r3 = (-4 : Int32) then b1 (f_X5_block M x7 (nI 4)) fun r6 => (if r6 = x8 then bd (f_X5_read M (nI 1)) fun r9 M10 => (if r9 = (nI 1) then b1 (f_X5_count M10 (nI 5)) fun r13 => (if r13 = (x9 + (nI 1)) then b1 (f_X5_block M10 x7 (nI 4)) fun r16 => (if r16 = (x8 + (nI 1)) then b1 (f_X5_value M10 x7 x8) fun r19 => b1 (f_L_cell L xs ((nI 1) + ((nI 2) * x7))) fun r21 => b1 (f_L_cell L xs ((nI 2) + ((nI 2) * x7))) fun r23 => b1 (f_L_valueOf r21 r23 x8) fun r25 => (if r19 = r25 then b1 (f_X5_question M10 x5 (nI 4)) fun r28 => (if r28 = (nI 1) then f_L_law_L324 k78 L xs M10 x3 x4 x5 x6 (nI 1) else f_L_law_L324 k78 L xs M10 x3 x4 x5 x6 (nI 0)) else some ((nI 0), M10)) else some ((nI 0), M10)) else some ((nI 0), M10)) else some ((nI 0), M10)) else some ((nI 0), M)) else some ((nI 0), M)) else some ((nI 0), M))
def f_L_law_L192 (k78 : MM → Int32 → Int32 → Option (Int32 × MM)) (L : Nat) (xs : Nat → Int32) (M : MM) (x3 : Int32) (x4 : Int32) (x5 : Int32) (x6 : Int32) (x7 : Int32) (x8 : Int32) (x9 : Int32) (s0 : Int32) : Option (Int32 × MM) :=
  b1 (f_X5_count M (nI 2)) fun r2 => (if r2 = (nI 0) then f_L_law_L205 k78 L xs M x3 x4 x5 x6 x7 x8 x9 s0 (nI 1) else f_L_law_L205 k78 L xs M x3 x4 x5 x6 x7 x8 x9 s0 (nI 0))
def f_L_law_L177 (k78 : MM → Int32 → Int32 → Option (Int32 × MM)) (L : Nat) (xs : Nat → Int32) (M : MM) (x3 : Int32) (x4 : Int32) (x5 : Int32) (x6 : Int32) (x7 : Int32) (x8 : Int32) (x9 : Int32) (x10 : Int32) (s0 : Int32) (s1 : Int32) : Option (Int32 × MM) :=
  (if s0 = s1 then (if x10 = (-4 : Int32) then f_L_law_L192 k78 L xs M x3 x4 x5 x6 x7 x8 x9 (nI 1) else f_L_law_L192 k78 L xs M x3 x4 x5 x6 x7 x8 x9 (nI 0)) else some ((nI 0), M))
def f_L_law_L161 (k78 : MM → Int32 → Int32 → Option (Int32 × MM)) (L : Nat) (xs : Nat → Int32) (M : MM) (x3 : Int32) (x4 : Int32) (x5 : Int32) (x6 : Int32) (x7 : Int32) (x8 : Int32) (x9 : Int32) (x10 : Int32) (s0 : Int32) : Option (Int32 × MM) :=
  b1 (f_X5_question M x5 (nI 4)) fun r2 => (if r2 = (nI 1) then f_L_law_L177 k78 L xs M x3 x4 x5 x6 x7 x8 x9 x10 s0 (nI 1) else f_L_law_L177 k78 L xs M x3 x4 x5 x6 x7 x8 x9 x10 s0 (nI 0))
def f_L_law_L559 (L : Nat) (xs : Nat → Int32) (M : MM) (s0 : Int32) : Option (Int32 × MM) :=
  (if s0 = (nI 0) then some ((nI 0), M) else bd (f_L_areSound M L xs) fun r3 M4 => (if r3 = (nI 0) then some ((nI 0), M4) else some ((nI 1), M4)))
def f_L_law_L558 (L : Nat) (xs : Nat → Int32) (M : MM) : Option (Int32 × MM) :=
  f_L_law_L559 L xs M (nI 0)
def f_L_law_L491 (L : Nat) (xs : Nat → Int32) (M : MM) (x5 : Int32) (x6 : Int32) (x7 : Int32) : Option (Int32 × MM) :=
  bd (f_X5_readOn M) fun r2 M3 => (if x7 = (nI 0) then (if r2 = (-5 : Int32) then f_L_law_L559 L xs M3 (nI 1) else f_L_law_L559 L xs M3 (nI 0)) else (if x5 = (-5 : Int32) then (if r2 = x7 then f_L_law_L559 L xs M3 (nI 1) else f_L_law_L559 L xs M3 (nI 0)) else (if r2 = x6 then b1 (f_X5_count M3 (nI 2)) fun r8 => (if r8 = (nI 0) then f_L_law_L559 L xs M3 (nI 1) else f_L_law_L558 L xs M3) else f_L_law_L558 L xs M3)))
def f_L_law_L403 (L : Nat) (xs : Nat → Int32) (M : MM) : Option (Int32 × MM) :=
  b1 (f_X5_count M (nI 2)) fun r2 => (if r2 = (nI 0) then bd (f_X5_readOn M) fun r23 M24 => (if r23 = (-4 : Int32) then bd (f_X5_best M24 (nI 1)) fun r27 M28 => (if r27 = (-4 : Int32) then some ((nI 1), M28) else some ((nI 0), M28)) else some ((nI 0), M24)) else bd (f_X5_best M (nI 0)) fun r5 M6 => bd (f_X5_best M6 (nI 1)) fun r8 M9 => b1 (f_X5_count M9 (nI 4)) fun r11 => b1 (f_X5_count M9 (nI 5)) fun r13 => (if r5 = (-5 : Int32) then f_L_law_L491 L xs M9 r5 r8 (r11 - r13) else b1 (f_X5_count M9 (nI 3)) fun r16 => (if r5 = r16 then f_L_law_L491 L xs M9 r5 r8 (r11 - r13) else bd (f_X5_setPlan M9 r5) fun r19 M20 => (if (nI 0) ≤ r19 then f_L_law_L491 L xs M20 r5 r8 (r11 - r13) else some ((nI 0), M20)))))
def f_L_law_L78 (L : Nat) (xs : Nat → Int32) : Nat → MM → Int32 → Int32 → Option (Int32 × MM)
  | 0, _, _, _ => none
  | n + 1, M, x3, x4 => b1 (f_X5_count M (nI 5)) fun r2 => b1 (f_X5_count M (nI 4)) fun r4 => (if r4 ≤ r2 then f_L_law_L403 L xs M else (if (nI 24) ≤ x4 then f_L_law_L403 L xs M else b1 (f_L_cell L xs ((nI 24) + x4)) fun r8 => b1 (f_L_low r8 x3) fun r10 => bd (f_X5_stopsIn M r10) fun r12 M13 => b1 (f_X5_next M13 (nI 0)) fun r15 => b1 (f_X5_next M13 (nI 1)) fun r17 => b1 (f_X5_count M13 (nI 5)) fun r19 => bd (f_X5_best M13 (nI 0)) fun r21 M22 => (if r12 = (-4 : Int32) then f_L_law_L161 (f_L_law_L78 L xs n) L xs M22 x3 x4 r10 r12 r15 r17 r19 r21 (nI 1) else f_L_law_L161 (f_L_law_L78 L xs n) L xs M22 x3 x4 r10 r12 r15 r17 r19 r21 (nI 0))))
def f_L_law_L58 (L : Nat) (xs : Nat → Int32) (M : MM) : Option (Int32 × MM) :=
  bd (f_L_areSound M L xs) fun r2 M3 => (if r2 = (nI 0) then some ((nI 0), M3) else b1 (f_X5_count M3 (nI 1)) fun r6 => f_L_law_L78 L xs FU M3 r6 (nI 0))
def f_L_law_L25 (L : Nat) (xs : Nat → Int32) : Nat → MM → Int32 → Option (Int32 × MM)
  | 0, _, _ => none
  | n + 1, M, x3 => (if (nI 6) ≤ x3 then f_L_law_L58 L xs M else gd x3 18 (lt1 (gs M 9 (up (M 9) 0 x3.toNatClampNeg (-5 : Int32))) fun M4 => gd ((nI 6) + x3) 18 (lt1 (gs M4 9 (up (M4 9) 0 ((nI 6) + x3).toNatClampNeg (nI 200000))) fun M7 => gd ((nI 12) + x3) 18 (lt1 (gs M7 9 (up (M7 9) 0 ((nI 12) + x3).toNatClampNeg (-5 : Int32))) fun M10 => f_L_law_L25 L xs n M10 (x3 + (nI 1))))))
def f_L_law (M : MM) (L : Nat) (xs : Nat → Int32) : Option (Int32 × MM) :=
  bd (f_L_build M L xs) fun r2 M3 => (if r2 = (nI 0) then some ((nI 0), M3) else f_L_law_L25 L xs FU M3 (nI 0))
set_option maxHeartbeats 4000000 in
set_option maxRecDepth 100000 in
theorem c_L_law {p : Program} {l : Launch} {e : Env} {s : State} {md : MethodId} {below : List Frame} {meth : Method} {c : Code} {D : va_G} {cy : Nat → ClassId} {ad : Nat → Nat → Nat} {b L : Nat} {xs : Nat → Int32} (C0 : lw_At p s md meth c b L xs) (hcv : CV ad) (hlow : ∀ q, AD ad q → s.heap.size ≤ q) (hK : KD D cy s) {M x : MM} {r : Int32} (er : r = nI 1) (h : f_L_law M L xs = some (r, x)) : JM p l e s md b below meth c D cy ad M 13 [(0, .ref b), (1, .ref (ad 8 0)), (2, .ref (ad 9 0))] 13 [] := by
  obtain ⟨hx, hb, hr, hml, hown, hts, hX, hbl, hlk, hgv⟩ := C0
  have htb : ∀ w ∈ TB, w.before #[Value.ref b] s = true := fun w h => hts w (TB_lw w h)
  have hbA : ¬ (fun q : Nat => s.heap.size ≤ q) b := Nat.not_le.mpr hbl
  have hbA0 : ¬ AD ad b := fun q => hbA (hlow b q)
  have L379 : ∀ (k78 : MM → Int32 → Int32 → Option (Int32 × MM)) (hk78 : ∀ (M : MM) (x3 : Int32) (x4 : Int32), k78 M x3 x4 = some (r, x) → JM p l e s md b below meth c D cy ad (M) 13 [(0, .ref b), (1, .ref (ad 8 0)), (2, .ref (ad 9 0)), (3, .int x3), (4, .int x4)] 78 []), ∀ (M : MM) (x3 : Int32) (x4 : Int32) (s0 : Int32), f_L_law_L379 k78 L xs M x3 x4 s0 = some (r, x) → JM p l e s md b below meth c D cy ad (M) 13 [(0, .ref b), (1, .ref (ad 8 0)), (2, .ref (ad 9 0)), (3, .int x3), (4, .int x4)] 379 [.int s0] := by
    intro k78 hk78 M x3 x4 s0 h H locs hw hS ls hl
    unfold f_L_law_L379 at h
    refine lv_istore (lv' := [(12, .int s0), (0, .ref b), (1, .ref (ad 8 0)), (2, .ref (ad 9 0)), (3, .int x3), (4, .int x4)]) hx hb dL_law_379 hl (by decide) rfl (fun ls hl => ?_)
    refine lv_iload hx hb dL_law_381 (lv_at hl 0 rfl) ?_
    refine lv_if_eq (tgt := 395) hx hb dL_law_383 (by decide) (fun q1 => ?_) (fun q1 => ?_)
    · replace h := t_pos h q1
      refine lv_iconst (v := nI 0) hx hb dL_law_395 (by decide) ?_
      exact l_ret hx hb hr hlk hS ((t_ret h).1.trans er) dL_law_396
    · replace h := t_neg h q1
      refine lv_aload_n hx hb dL_law_386 rfl (lv_at hl 2 rfl) ?_
      refine lv_aload_n hx hb dL_law_387 rfl (lv_at hl 1 rfl) ?_
      refine lv_aload_n hx hb dL_law_388 rfl (lv_at hl 3 rfl) ?_
      obtain ⟨r3, M4, y2, h⟩ := t_bd h
      refine c_six hx hb hml hown htb hK hw hS hlow hX hbl hbA (As := [.ref (ad 8 0), .ref b, .ref (ad 9 0)]) (rest := []) (c_L_areSound hcv (M := M) (b := b) (L := L) (xs := xs) (hbA := hbA0) y2) cf_L_areSound k_491 rfl rfl ⟨Nat.le_of_ble_eq_true rfl, Nat.le_of_ble_eq_true rfl⟩ rfl hl.1 rfl (Nat.le_of_ble_eq_true rfl) ⟨Nat.le_of_ble_eq_true rfl, Nat.le_of_ble_eq_true rfl⟩ dL_law_389 (fun H locs hw hS => ?_)
      refine lv_if_ne (tgt := 397) hx hb dL_law_392 (by decide) (fun q5 => ?_) (fun q5 => ?_)
      · replace h := t_neg h q5
        refine lv_iinc (v := (x4 + (nI 1))) (lv' := [(4, .int (x4 + (nI 1))), (12, .int s0), (0, .ref b), (1, .ref (ad 8 0)), (2, .ref (ad 9 0)), (3, .int x3)]) hx hb dL_law_397 hl (k := 5) rfl rfl (by decide) rfl (fun ls hl => ?_)
        refine lv_goto (tgt := 78) hx hb dL_law_400 (by decide) ?_
        exact hk78 M4 x3 (x4 + (nI 1)) h H locs hw hS ls (lv_sub hl [2, 3, 4, 5, 0] rfl)
      · replace h := t_pos h q5
        refine lv_iconst (v := nI 0) hx hb dL_law_395 (by decide) ?_
        exact l_ret hx hb hr hlk hS ((t_ret h).1.trans er) dL_law_396
  have L374 : ∀ (k78 : MM → Int32 → Int32 → Option (Int32 × MM)) (hk78 : ∀ (M : MM) (x3 : Int32) (x4 : Int32), k78 M x3 x4 = some (r, x) → JM p l e s md b below meth c D cy ad (M) 13 [(0, .ref b), (1, .ref (ad 8 0)), (2, .ref (ad 9 0)), (3, .int x3), (4, .int x4)] 78 []), ∀ (M : MM) (x3 : Int32) (x4 : Int32), f_L_law_L374 k78 L xs M x3 x4 = some (r, x) → JM p l e s md b below meth c D cy ad (M) 13 [(0, .ref b), (1, .ref (ad 8 0)), (2, .ref (ad 9 0)), (3, .int x3), (4, .int x4)] 374 [] := by
    intro k78 hk78 M x3 x4 h H locs hw hS ls hl
    unfold f_L_law_L374 at h
    refine lv_iconst (v := nI 1) hx hb dL_law_374 (by decide) ?_
    refine lv_goto (tgt := 379) hx hb dL_law_375 (by decide) ?_
    exact L379 k78 hk78 M x3 x4 (nI 1) h H locs hw hS ls (lv_sub hl [0, 1, 2, 3, 4] rfl)
  have L378 : ∀ (k78 : MM → Int32 → Int32 → Option (Int32 × MM)) (hk78 : ∀ (M : MM) (x3 : Int32) (x4 : Int32), k78 M x3 x4 = some (r, x) → JM p l e s md b below meth c D cy ad (M) 13 [(0, .ref b), (1, .ref (ad 8 0)), (2, .ref (ad 9 0)), (3, .int x3), (4, .int x4)] 78 []), ∀ (M : MM) (x3 : Int32) (x4 : Int32), f_L_law_L378 k78 L xs M x3 x4 = some (r, x) → JM p l e s md b below meth c D cy ad (M) 13 [(0, .ref b), (1, .ref (ad 8 0)), (2, .ref (ad 9 0)), (3, .int x3), (4, .int x4)] 378 [] := by
    intro k78 hk78 M x3 x4 h H locs hw hS ls hl
    unfold f_L_law_L378 at h
    refine lv_iconst (v := nI 0) hx hb dL_law_378 (by decide) ?_
    exact L379 k78 hk78 M x3 x4 (nI 0) h H locs hw hS ls (lv_sub hl [0, 1, 2, 3, 4] rfl)
  have L344 : ∀ (k78 : MM → Int32 → Int32 → Option (Int32 × MM)) (hk78 : ∀ (M : MM) (x3 : Int32) (x4 : Int32), k78 M x3 x4 = some (r, x) → JM p l e s md b below meth c D cy ad (M) 13 [(0, .ref b), (1, .ref (ad 8 0)), (2, .ref (ad 9 0)), (3, .int x3), (4, .int x4)] 78 []), ∀ (M : MM) (x3 : Int32) (x4 : Int32) (x5 : Int32) (x6 : Int32) (x11 : Int32) (s0 : Int32), f_L_law_L344 k78 L xs M x3 x4 x5 x6 x11 s0 = some (r, x) → JM p l e s md b below meth c D cy ad (M) 13 [(0, .ref b), (1, .ref (ad 8 0)), (2, .ref (ad 9 0)), (3, .int x3), (4, .int x4), (5, .int x5), (6, .int x6), (11, .int x11)] 344 [.int s0] := by
    intro k78 hk78 M x3 x4 x5 x6 x11 s0 h H locs hw hS ls hl
    unfold f_L_law_L344 at h
    refine lv_iload hx hb dL_law_344 (lv_at hl 7 rfl) ?_
    refine lv_icmp_ne (tgt := 378) hx hb dL_law_346 (by decide) (fun q1 => ?_) (fun q1 => ?_)
    · replace h := t_neg h q1
      exact L378 k78 hk78 M x3 x4 h H locs hw hS ls (lv_sub hl [0, 1, 2, 3, 4] rfl)
    · replace h := t_pos h q1
      refine lv_iload hx hb dL_law_349 (lv_at hl 6 rfl) ?_
      refine lv_iconst (v := nI 1) hx hb dL_law_351 (by decide) ?_
      refine lv_icmp_lt (tgt := 374) hx hb dL_law_352 (by decide) (fun q2 => ?_) (fun q2 => ?_)
      · replace h := t_pos h q2
        exact L374 k78 hk78 M x3 x4 h H locs hw hS ls (lv_sub hl [0, 1, 2, 3, 4] rfl)
      · replace h := t_neg h q2
        refine lv_iload hx hb dL_law_355 (lv_at hl 6 rfl) ?_
        refine lv_iconst (v := nI 1) hx hb dL_law_357 (by decide) ?_
        refine lv_icmp_eq (tgt := 374) hx hb dL_law_358 (by decide) (fun q3 => ?_) (fun q3 => ?_)
        · replace h := t_pos h q3
          exact L374 k78 hk78 M x3 x4 h H locs hw hS ls (lv_sub hl [0, 1, 2, 3, 4] rfl)
        · replace h := t_neg h q3
          refine lv_aload_n hx hb dL_law_361 rfl (lv_at hl 1 rfl) ?_
          refine lv_iload hx hb dL_law_362 (lv_at hl 5 rfl) ?_
          obtain ⟨r5, M6, y4, h⟩ := t_bd h
          refine c_vi hx hb hml hown htb hK hw hS hlow (As := [.int x5]) (rest := []) (c_X5_stopsIn hcv (M := M) y4) cf_X5_stopsIn k_379 rfl rfl ⟨Nat.le_of_ble_eq_true rfl, Nat.le_of_ble_eq_true rfl⟩ (r_recv hK hw (v_mn (by decide)) E_mn rfl) rfl hl.1 rfl (Nat.le_of_ble_eq_true rfl) ⟨Nat.le_of_ble_eq_true rfl, Nat.le_of_ble_eq_true rfl⟩ dL_law_364 (fun H locs hw hS => ?_)
          refine lv_iload hx hb dL_law_367 (lv_at hl 6 rfl) ?_
          refine lv_iconst (v := nI 1) hx hb dL_law_369 (by decide) ?_
          refine lv_isub hx hb dL_law_370 ?_
          refine lv_icmp_ne (tgt := 378) hx hb dL_law_371 (by decide) (fun q7 => ?_) (fun q7 => ?_)
          · replace h := t_neg h q7
            exact L378 k78 hk78 M6 x3 x4 h H locs hw hS ls (lv_sub hl [0, 1, 2, 3, 4] rfl)
          · replace h := t_pos h q7
            exact L374 k78 hk78 M6 x3 x4 h H locs hw hS ls (lv_sub hl [0, 1, 2, 3, 4] rfl)
  have L324 : ∀ (k78 : MM → Int32 → Int32 → Option (Int32 × MM)) (hk78 : ∀ (M : MM) (x3 : Int32) (x4 : Int32), k78 M x3 x4 = some (r, x) → JM p l e s md b below meth c D cy ad (M) 13 [(0, .ref b), (1, .ref (ad 8 0)), (2, .ref (ad 9 0)), (3, .int x3), (4, .int x4)] 78 []), ∀ (M : MM) (x3 : Int32) (x4 : Int32) (x5 : Int32) (x6 : Int32) (s0 : Int32), f_L_law_L324 k78 L xs M x3 x4 x5 x6 s0 = some (r, x) → JM p l e s md b below meth c D cy ad (M) 13 [(0, .ref b), (1, .ref (ad 8 0)), (2, .ref (ad 9 0)), (3, .int x3), (4, .int x4), (5, .int x5), (6, .int x6)] 324 [.int s0] := by
    intro k78 hk78 M x3 x4 x5 x6 s0 h H locs hw hS ls hl
    unfold f_L_law_L324 at h
    refine lv_istore (lv' := [(11, .int s0), (0, .ref b), (1, .ref (ad 8 0)), (2, .ref (ad 9 0)), (3, .int x3), (4, .int x4), (5, .int x5), (6, .int x6)]) hx hb dL_law_324 hl (by decide) rfl (fun ls hl => ?_)
    refine lv_iload hx hb dL_law_326 (lv_at hl 7 rfl) ?_
    refine lv_bipush (v := -4) hx hb dL_law_328 (by decide) ?_
    refine lv_icmp_eq (tgt := 374) hx hb dL_law_330 (by decide) (fun q1 => ?_) (fun q1 => ?_)
    · replace h := t_pos h q1
      exact L374 k78 hk78 M x3 x4 h H locs hw hS ls (lv_sub hl [1, 2, 3, 4, 5] rfl)
    · replace h := t_neg h q1
      refine lv_iload hx hb dL_law_333 (lv_at hl 7 rfl) ?_
      refine lv_iconst (v := nI 1) hx hb dL_law_335 (by decide) ?_
      refine lv_icmp_ne (tgt := 343) hx hb dL_law_336 (by decide) (fun q2 => ?_) (fun q2 => ?_)
      · replace h := t_neg h q2
        refine lv_iconst (v := nI 0) hx hb dL_law_343 (by decide) ?_
        exact L344 k78 hk78 M x3 x4 x5 x6 s0 (nI 0) h H locs hw hS ls (lv_sub hl [1, 2, 3, 4, 5, 6, 7, 0] rfl)
      · replace h := t_pos h q2
        refine lv_iconst (v := nI 1) hx hb dL_law_339 (by decide) ?_
        refine lv_goto (tgt := 344) hx hb dL_law_340 (by decide) ?_
        exact L344 k78 hk78 M x3 x4 x5 x6 s0 (nI 1) h H locs hw hS ls (lv_sub hl [1, 2, 3, 4, 5, 6, 7, 0] rfl)
  have L205 : ∀ (k78 : MM → Int32 → Int32 → Option (Int32 × MM)) (hk78 : ∀ (M : MM) (x3 : Int32) (x4 : Int32), k78 M x3 x4 = some (r, x) → JM p l e s md b below meth c D cy ad (M) 13 [(0, .ref b), (1, .ref (ad 8 0)), (2, .ref (ad 9 0)), (3, .int x3), (4, .int x4)] 78 []), ∀ (M : MM) (x3 : Int32) (x4 : Int32) (x5 : Int32) (x6 : Int32) (x7 : Int32) (x8 : Int32) (x9 : Int32) (s0 : Int32) (s1 : Int32), f_L_law_L205 k78 L xs M x3 x4 x5 x6 x7 x8 x9 s0 s1 = some (r, x) → JM p l e s md b below meth c D cy ad (M) 13 [(0, .ref b), (1, .ref (ad 8 0)), (2, .ref (ad 9 0)), (3, .int x3), (4, .int x4), (5, .int x5), (6, .int x6), (7, .int x7), (8, .int x8), (9, .int x9)] 205 [.int s1, .int s0] := by
    intro k78 hk78 M x3 x4 x5 x6 x7 x8 x9 s0 s1 h H locs hw hS ls hl
    unfold f_L_law_L205 at h
    refine lv_icmp_ne (tgt := 233) hx hb dL_law_205 (by decide) (fun q1 => ?_) (fun q1 => ?_)
    · replace h := t_neg h q1
      refine lv_iconst (v := nI 0) hx hb dL_law_233 (by decide) ?_
      exact l_ret hx hb hr hlk hS ((t_ret h).1.trans er) dL_law_234
    · replace h := t_pos h q1
      refine lv_aload_n hx hb dL_law_208 rfl (lv_at hl 1 rfl) ?_
      refine lv_iload hx hb dL_law_209 (lv_at hl 7 rfl) ?_
      refine lv_iload hx hb dL_law_211 (lv_at hl 8 rfl) ?_
      obtain ⟨r3, y2, h⟩ := t_b1 h
      refine c_vi hx hb hml hown htb hK hw hS hlow (As := [.int x7, .int x8]) (rest := []) (c_X5_value hcv (M := M) y2) cf_X5_value k_353 rfl rfl ⟨Nat.le_of_ble_eq_true rfl, Nat.le_of_ble_eq_true rfl⟩ (r_recv hK hw (v_mn (by decide)) E_mn rfl) rfl hl.1 rfl (Nat.le_of_ble_eq_true rfl) ⟨Nat.le_of_ble_eq_true rfl, Nat.le_of_ble_eq_true rfl⟩ dL_law_213 (fun H locs hw hS => ?_)
      refine lv_bipush (v := -4) hx hb dL_law_216 (by decide) ?_
      refine lv_icmp_ne (tgt := 233) hx hb dL_law_218 (by decide) (fun q4 => ?_) (fun q4 => ?_)
      · replace h := t_neg h q4
        refine lv_iconst (v := nI 0) hx hb dL_law_233 (by decide) ?_
        exact l_ret hx hb hr hlk hS ((t_ret h).1.trans er) dL_law_234
      · replace h := t_pos h q4
        refine lv_aload_n hx hb dL_law_221 rfl (lv_at hl 1 rfl) ?_
        refine lv_iload hx hb dL_law_222 (lv_at hl 7 rfl) ?_
        refine lv_iconst (v := nI 4) hx hb dL_law_224 (by decide) ?_
        obtain ⟨r6, y5, h⟩ := t_b1 h
        refine c_vi hx hb hml hown htb hK hw hS hlow (As := [.int x7, .int (nI 4)]) (rest := []) (c_X5_block hcv (M := M) y5) cf_X5_block k_347 rfl rfl ⟨Nat.le_of_ble_eq_true rfl, Nat.le_of_ble_eq_true rfl⟩ (r_recv hK hw (v_mn (by decide)) E_mn rfl) rfl hl.1 rfl (Nat.le_of_ble_eq_true rfl) ⟨Nat.le_of_ble_eq_true rfl, Nat.le_of_ble_eq_true rfl⟩ dL_law_225 (fun H locs hw hS => ?_)
        refine lv_iload hx hb dL_law_228 (lv_at hl 8 rfl) ?_
        refine lv_icmp_eq (tgt := 235) hx hb dL_law_230 (by decide) (fun q7 => ?_) (fun q7 => ?_)
        · replace h := t_pos h q7
          refine lv_aload_n hx hb dL_law_235 rfl (lv_at hl 1 rfl) ?_
          refine lv_iconst (v := nI 1) hx hb dL_law_236 (by decide) ?_
          obtain ⟨r9, M10, y8, h⟩ := t_bd h
          refine c_vi hx hb hml hown htb hK hw hS hlow (As := [.int (nI 1)]) (rest := []) (c_X5_read hcv (M := M) y8) cf_X5_read k_293 rfl rfl ⟨Nat.le_of_ble_eq_true rfl, Nat.le_of_ble_eq_true rfl⟩ (r_recv hK hw (v_mn (by decide)) E_mn rfl) rfl hl.1 rfl (Nat.le_of_ble_eq_true rfl) ⟨Nat.le_of_ble_eq_true rfl, Nat.le_of_ble_eq_true rfl⟩ dL_law_237 (fun H locs hw hS => ?_)
          refine lv_iconst (v := nI 1) hx hb dL_law_240 (by decide) ?_
          refine lv_icmp_ne (tgt := 306) hx hb dL_law_241 (by decide) (fun q11 => ?_) (fun q11 => ?_)
          · replace h := t_neg h q11
            refine lv_iconst (v := nI 0) hx hb dL_law_306 (by decide) ?_
            exact l_ret hx hb hr hlk hS ((t_ret h).1.trans er) dL_law_307
          · replace h := t_pos h q11
            refine lv_aload_n hx hb dL_law_244 rfl (lv_at hl 1 rfl) ?_
            refine lv_iconst (v := nI 5) hx hb dL_law_245 (by decide) ?_
            obtain ⟨r13, y12, h⟩ := t_b1 h
            refine c_vi hx hb hml hown htb hK hw hS hlow (As := [.int (nI 5)]) (rest := []) (c_X5_count hcv (M := M10) y12) cf_X5_count k_388 rfl rfl ⟨Nat.le_of_ble_eq_true rfl, Nat.le_of_ble_eq_true rfl⟩ (r_recv hK hw (v_mn (by decide)) E_mn rfl) rfl hl.1 rfl (Nat.le_of_ble_eq_true rfl) ⟨Nat.le_of_ble_eq_true rfl, Nat.le_of_ble_eq_true rfl⟩ dL_law_246 (fun H locs hw hS => ?_)
            refine lv_iload hx hb dL_law_249 (lv_at hl 9 rfl) ?_
            refine lv_iconst (v := nI 1) hx hb dL_law_251 (by decide) ?_
            refine lv_iadd hx hb dL_law_252 ?_
            refine lv_icmp_ne (tgt := 306) hx hb dL_law_253 (by decide) (fun q14 => ?_) (fun q14 => ?_)
            · replace h := t_neg h q14
              refine lv_iconst (v := nI 0) hx hb dL_law_306 (by decide) ?_
              exact l_ret hx hb hr hlk hS ((t_ret h).1.trans er) dL_law_307
            · replace h := t_pos h q14
              refine lv_aload_n hx hb dL_law_256 rfl (lv_at hl 1 rfl) ?_
              refine lv_iload hx hb dL_law_257 (lv_at hl 7 rfl) ?_
              refine lv_iconst (v := nI 4) hx hb dL_law_259 (by decide) ?_
              obtain ⟨r16, y15, h⟩ := t_b1 h
              refine c_vi hx hb hml hown htb hK hw hS hlow (As := [.int x7, .int (nI 4)]) (rest := []) (c_X5_block hcv (M := M10) y15) cf_X5_block k_347 rfl rfl ⟨Nat.le_of_ble_eq_true rfl, Nat.le_of_ble_eq_true rfl⟩ (r_recv hK hw (v_mn (by decide)) E_mn rfl) rfl hl.1 rfl (Nat.le_of_ble_eq_true rfl) ⟨Nat.le_of_ble_eq_true rfl, Nat.le_of_ble_eq_true rfl⟩ dL_law_260 (fun H locs hw hS => ?_)
              refine lv_iload hx hb dL_law_263 (lv_at hl 8 rfl) ?_
              refine lv_iconst (v := nI 1) hx hb dL_law_265 (by decide) ?_
              refine lv_iadd hx hb dL_law_266 ?_
              refine lv_icmp_ne (tgt := 306) hx hb dL_law_267 (by decide) (fun q17 => ?_) (fun q17 => ?_)
              · replace h := t_neg h q17
                refine lv_iconst (v := nI 0) hx hb dL_law_306 (by decide) ?_
                exact l_ret hx hb hr hlk hS ((t_ret h).1.trans er) dL_law_307
              · replace h := t_pos h q17
                refine lv_aload_n hx hb dL_law_270 rfl (lv_at hl 1 rfl) ?_
                refine lv_iload hx hb dL_law_271 (lv_at hl 7 rfl) ?_
                refine lv_iload hx hb dL_law_273 (lv_at hl 8 rfl) ?_
                obtain ⟨r19, y18, h⟩ := t_b1 h
                refine c_vi hx hb hml hown htb hK hw hS hlow (As := [.int x7, .int x8]) (rest := []) (c_X5_value hcv (M := M10) y18) cf_X5_value k_353 rfl rfl ⟨Nat.le_of_ble_eq_true rfl, Nat.le_of_ble_eq_true rfl⟩ (r_recv hK hw (v_mn (by decide)) E_mn rfl) rfl hl.1 rfl (Nat.le_of_ble_eq_true rfl) ⟨Nat.le_of_ble_eq_true rfl, Nat.le_of_ble_eq_true rfl⟩ dL_law_275 (fun H locs hw hS => ?_)
                refine lv_aload_n hx hb dL_law_278 rfl (lv_at hl 0 rfl) ?_
                refine lv_iconst (v := nI 1) hx hb dL_law_279 (by decide) ?_
                refine lv_iconst (v := nI 2) hx hb dL_law_280 (by decide) ?_
                refine lv_iload hx hb dL_law_281 (lv_at hl 7 rfl) ?_
                refine lv_imul hx hb dL_law_283 ?_
                refine lv_iadd hx hb dL_law_284 ?_
                obtain ⟨r21, y20, h⟩ := t_b1 h
                refine c_six hx hb hml hown htb hK hw hS hlow hX hbl hbA (As := [.ref b, .int ((nI 1) + ((nI 2) * x7))]) (rest := [.int r19]) (c_L_cell hcv (M0 := M10) (b := b) (L := L) (xs := xs) (hbA := hbA0) y20) cf_L_cell k_392 rfl rfl ⟨Nat.le_of_ble_eq_true rfl, Nat.le_of_ble_eq_true rfl⟩ rfl hl.1 rfl (Nat.le_of_ble_eq_true rfl) ⟨Nat.le_of_ble_eq_true rfl, Nat.le_of_ble_eq_true rfl⟩ dL_law_285 (fun H locs hw hS => ?_)
                refine lv_aload_n hx hb dL_law_288 rfl (lv_at hl 0 rfl) ?_
                refine lv_iconst (v := nI 2) hx hb dL_law_289 (by decide) ?_
                refine lv_iconst (v := nI 2) hx hb dL_law_290 (by decide) ?_
                refine lv_iload hx hb dL_law_291 (lv_at hl 7 rfl) ?_
                refine lv_imul hx hb dL_law_293 ?_
                refine lv_iadd hx hb dL_law_294 ?_
                obtain ⟨r23, y22, h⟩ := t_b1 h
                refine c_six hx hb hml hown htb hK hw hS hlow hX hbl hbA (As := [.ref b, .int ((nI 2) + ((nI 2) * x7))]) (rest := [.int r21, .int r19]) (c_L_cell hcv (M0 := M10) (b := b) (L := L) (xs := xs) (hbA := hbA0) y22) cf_L_cell k_392 rfl rfl ⟨Nat.le_of_ble_eq_true rfl, Nat.le_of_ble_eq_true rfl⟩ rfl hl.1 rfl (Nat.le_of_ble_eq_true rfl) ⟨Nat.le_of_ble_eq_true rfl, Nat.le_of_ble_eq_true rfl⟩ dL_law_295 (fun H locs hw hS => ?_)
                refine lv_iload hx hb dL_law_298 (lv_at hl 8 rfl) ?_
                obtain ⟨r25, y24, h⟩ := t_b1 h
                refine c_si hx hb hml hown htb hK hw hS hlow (As := [.int r21, .int r23, .int x8]) (rest := [.int r19]) (c_L_valueOf hcv (M0 := M10) y24) cf_L_valueOf k_401 rfl rfl ⟨Nat.le_of_ble_eq_true rfl, Nat.le_of_ble_eq_true rfl⟩ rfl hl.1 rfl (Nat.le_of_ble_eq_true rfl) ⟨Nat.le_of_ble_eq_true rfl, Nat.le_of_ble_eq_true rfl⟩ dL_law_300 (fun H locs hw hS => ?_)
                refine lv_icmp_eq (tgt := 308) hx hb dL_law_303 (by decide) (fun q26 => ?_) (fun q26 => ?_)
                · replace h := t_pos h q26
                  refine lv_aload_n hx hb dL_law_308 rfl (lv_at hl 1 rfl) ?_
                  refine lv_iload hx hb dL_law_309 (lv_at hl 5 rfl) ?_
                  refine lv_iconst (v := nI 4) hx hb dL_law_311 (by decide) ?_
                  obtain ⟨r28, y27, h⟩ := t_b1 h
                  refine c_vi hx hb hml hown htb hK hw hS hlow (As := [.int x5, .int (nI 4)]) (rest := []) (c_X5_question hcv (M := M10) y27) cf_X5_question k_361 rfl rfl ⟨Nat.le_of_ble_eq_true rfl, Nat.le_of_ble_eq_true rfl⟩ (r_recv hK hw (v_mn (by decide)) E_mn rfl) rfl hl.1 rfl (Nat.le_of_ble_eq_true rfl) ⟨Nat.le_of_ble_eq_true rfl, Nat.le_of_ble_eq_true rfl⟩ dL_law_312 (fun H locs hw hS => ?_)
                  refine lv_iconst (v := nI 1) hx hb dL_law_315 (by decide) ?_
                  refine lv_icmp_ne (tgt := 323) hx hb dL_law_316 (by decide) (fun q29 => ?_) (fun q29 => ?_)
                  · replace h := t_neg h q29
                    refine lv_iconst (v := nI 0) hx hb dL_law_323 (by decide) ?_
                    exact L324 k78 hk78 M10 x3 x4 x5 x6 (nI 0) h H locs hw hS ls (lv_sub hl [0, 1, 2, 3, 4, 5, 6] rfl)
                  · replace h := t_pos h q29
                    refine lv_iconst (v := nI 1) hx hb dL_law_319 (by decide) ?_
                    refine lv_goto (tgt := 324) hx hb dL_law_320 (by decide) ?_
                    exact L324 k78 hk78 M10 x3 x4 x5 x6 (nI 1) h H locs hw hS ls (lv_sub hl [0, 1, 2, 3, 4, 5, 6] rfl)
                · replace h := t_neg h q26
                  refine lv_iconst (v := nI 0) hx hb dL_law_306 (by decide) ?_
                  exact l_ret hx hb hr hlk hS ((t_ret h).1.trans er) dL_law_307
        · replace h := t_neg h q7
          refine lv_iconst (v := nI 0) hx hb dL_law_233 (by decide) ?_
          exact l_ret hx hb hr hlk hS ((t_ret h).1.trans er) dL_law_234
  have L192 : ∀ (k78 : MM → Int32 → Int32 → Option (Int32 × MM)) (hk78 : ∀ (M : MM) (x3 : Int32) (x4 : Int32), k78 M x3 x4 = some (r, x) → JM p l e s md b below meth c D cy ad (M) 13 [(0, .ref b), (1, .ref (ad 8 0)), (2, .ref (ad 9 0)), (3, .int x3), (4, .int x4)] 78 []), ∀ (M : MM) (x3 : Int32) (x4 : Int32) (x5 : Int32) (x6 : Int32) (x7 : Int32) (x8 : Int32) (x9 : Int32) (s0 : Int32), f_L_law_L192 k78 L xs M x3 x4 x5 x6 x7 x8 x9 s0 = some (r, x) → JM p l e s md b below meth c D cy ad (M) 13 [(0, .ref b), (1, .ref (ad 8 0)), (2, .ref (ad 9 0)), (3, .int x3), (4, .int x4), (5, .int x5), (6, .int x6), (7, .int x7), (8, .int x8), (9, .int x9)] 192 [.int s0] := by
    intro k78 hk78 M x3 x4 x5 x6 x7 x8 x9 s0 h H locs hw hS ls hl
    unfold f_L_law_L192 at h
    refine lv_aload_n hx hb dL_law_192 rfl (lv_at hl 1 rfl) ?_
    refine lv_iconst (v := nI 2) hx hb dL_law_193 (by decide) ?_
    obtain ⟨r2, y1, h⟩ := t_b1 h
    refine c_vi hx hb hml hown htb hK hw hS hlow (As := [.int (nI 2)]) (rest := [.int s0]) (c_X5_count hcv (M := M) y1) cf_X5_count k_388 rfl rfl ⟨Nat.le_of_ble_eq_true rfl, Nat.le_of_ble_eq_true rfl⟩ (r_recv hK hw (v_mn (by decide)) E_mn rfl) rfl hl.1 rfl (Nat.le_of_ble_eq_true rfl) ⟨Nat.le_of_ble_eq_true rfl, Nat.le_of_ble_eq_true rfl⟩ dL_law_194 (fun H locs hw hS => ?_)
    refine lv_if_ne (tgt := 204) hx hb dL_law_197 (by decide) (fun q3 => ?_) (fun q3 => ?_)
    · replace h := t_neg h q3
      refine lv_iconst (v := nI 0) hx hb dL_law_204 (by decide) ?_
      exact L205 k78 hk78 M x3 x4 x5 x6 x7 x8 x9 s0 (nI 0) h H locs hw hS ls (lv_sub hl [0, 1, 2, 3, 4, 5, 6, 7, 8, 9] rfl)
    · replace h := t_pos h q3
      refine lv_iconst (v := nI 1) hx hb dL_law_200 (by decide) ?_
      refine lv_goto (tgt := 205) hx hb dL_law_201 (by decide) ?_
      exact L205 k78 hk78 M x3 x4 x5 x6 x7 x8 x9 s0 (nI 1) h H locs hw hS ls (lv_sub hl [0, 1, 2, 3, 4, 5, 6, 7, 8, 9] rfl)
  have L177 : ∀ (k78 : MM → Int32 → Int32 → Option (Int32 × MM)) (hk78 : ∀ (M : MM) (x3 : Int32) (x4 : Int32), k78 M x3 x4 = some (r, x) → JM p l e s md b below meth c D cy ad (M) 13 [(0, .ref b), (1, .ref (ad 8 0)), (2, .ref (ad 9 0)), (3, .int x3), (4, .int x4)] 78 []), ∀ (M : MM) (x3 : Int32) (x4 : Int32) (x5 : Int32) (x6 : Int32) (x7 : Int32) (x8 : Int32) (x9 : Int32) (x10 : Int32) (s0 : Int32) (s1 : Int32), f_L_law_L177 k78 L xs M x3 x4 x5 x6 x7 x8 x9 x10 s0 s1 = some (r, x) → JM p l e s md b below meth c D cy ad (M) 13 [(0, .ref b), (1, .ref (ad 8 0)), (2, .ref (ad 9 0)), (3, .int x3), (4, .int x4), (5, .int x5), (6, .int x6), (7, .int x7), (8, .int x8), (9, .int x9), (10, .int x10)] 177 [.int s1, .int s0] := by
    intro k78 hk78 M x3 x4 x5 x6 x7 x8 x9 x10 s0 s1 h H locs hw hS ls hl
    unfold f_L_law_L177 at h
    refine lv_icmp_ne (tgt := 233) hx hb dL_law_177 (by decide) (fun q1 => ?_) (fun q1 => ?_)
    · replace h := t_neg h q1
      refine lv_iconst (v := nI 0) hx hb dL_law_233 (by decide) ?_
      exact l_ret hx hb hr hlk hS ((t_ret h).1.trans er) dL_law_234
    · replace h := t_pos h q1
      refine lv_iload hx hb dL_law_180 (lv_at hl 10 rfl) ?_
      refine lv_bipush (v := -4) hx hb dL_law_182 (by decide) ?_
      refine lv_icmp_ne (tgt := 191) hx hb dL_law_184 (by decide) (fun q2 => ?_) (fun q2 => ?_)
      · replace h := t_neg h q2
        refine lv_iconst (v := nI 0) hx hb dL_law_191 (by decide) ?_
        exact L192 k78 hk78 M x3 x4 x5 x6 x7 x8 x9 (nI 0) h H locs hw hS ls (lv_sub hl [0, 1, 2, 3, 4, 5, 6, 7, 8, 9] rfl)
      · replace h := t_pos h q2
        refine lv_iconst (v := nI 1) hx hb dL_law_187 (by decide) ?_
        refine lv_goto (tgt := 192) hx hb dL_law_188 (by decide) ?_
        exact L192 k78 hk78 M x3 x4 x5 x6 x7 x8 x9 (nI 1) h H locs hw hS ls (lv_sub hl [0, 1, 2, 3, 4, 5, 6, 7, 8, 9] rfl)
  have L161 : ∀ (k78 : MM → Int32 → Int32 → Option (Int32 × MM)) (hk78 : ∀ (M : MM) (x3 : Int32) (x4 : Int32), k78 M x3 x4 = some (r, x) → JM p l e s md b below meth c D cy ad (M) 13 [(0, .ref b), (1, .ref (ad 8 0)), (2, .ref (ad 9 0)), (3, .int x3), (4, .int x4)] 78 []), ∀ (M : MM) (x3 : Int32) (x4 : Int32) (x5 : Int32) (x6 : Int32) (x7 : Int32) (x8 : Int32) (x9 : Int32) (x10 : Int32) (s0 : Int32), f_L_law_L161 k78 L xs M x3 x4 x5 x6 x7 x8 x9 x10 s0 = some (r, x) → JM p l e s md b below meth c D cy ad (M) 13 [(0, .ref b), (1, .ref (ad 8 0)), (2, .ref (ad 9 0)), (3, .int x3), (4, .int x4), (5, .int x5), (6, .int x6), (7, .int x7), (8, .int x8), (9, .int x9), (10, .int x10)] 161 [.int s0] := by
    intro k78 hk78 M x3 x4 x5 x6 x7 x8 x9 x10 s0 h H locs hw hS ls hl
    unfold f_L_law_L161 at h
    refine lv_aload_n hx hb dL_law_161 rfl (lv_at hl 1 rfl) ?_
    refine lv_iload hx hb dL_law_162 (lv_at hl 5 rfl) ?_
    refine lv_iconst (v := nI 4) hx hb dL_law_164 (by decide) ?_
    obtain ⟨r2, y1, h⟩ := t_b1 h
    refine c_vi hx hb hml hown htb hK hw hS hlow (As := [.int x5, .int (nI 4)]) (rest := [.int s0]) (c_X5_question hcv (M := M) y1) cf_X5_question k_361 rfl rfl ⟨Nat.le_of_ble_eq_true rfl, Nat.le_of_ble_eq_true rfl⟩ (r_recv hK hw (v_mn (by decide)) E_mn rfl) rfl hl.1 rfl (Nat.le_of_ble_eq_true rfl) ⟨Nat.le_of_ble_eq_true rfl, Nat.le_of_ble_eq_true rfl⟩ dL_law_165 (fun H locs hw hS => ?_)
    refine lv_iconst (v := nI 1) hx hb dL_law_168 (by decide) ?_
    refine lv_icmp_ne (tgt := 176) hx hb dL_law_169 (by decide) (fun q3 => ?_) (fun q3 => ?_)
    · replace h := t_neg h q3
      refine lv_iconst (v := nI 0) hx hb dL_law_176 (by decide) ?_
      exact L177 k78 hk78 M x3 x4 x5 x6 x7 x8 x9 x10 s0 (nI 0) h H locs hw hS ls (lv_sub hl [0, 1, 2, 3, 4, 5, 6, 7, 8, 9, 10] rfl)
    · replace h := t_pos h q3
      refine lv_iconst (v := nI 1) hx hb dL_law_172 (by decide) ?_
      refine lv_goto (tgt := 177) hx hb dL_law_173 (by decide) ?_
      exact L177 k78 hk78 M x3 x4 x5 x6 x7 x8 x9 x10 s0 (nI 1) h H locs hw hS ls (lv_sub hl [0, 1, 2, 3, 4, 5, 6, 7, 8, 9, 10] rfl)
  have L559 : ∀ (M : MM) (s0 : Int32), f_L_law_L559 L xs M s0 = some (r, x) → JM p l e s md b below meth c D cy ad (M) 13 [(0, .ref b), (1, .ref (ad 8 0)), (2, .ref (ad 9 0))] 559 [.int s0] := by
    intro M s0 h H locs hw hS ls hl
    unfold f_L_law_L559 at h
    refine lv_istore (lv' := [(9, .int s0), (0, .ref b), (1, .ref (ad 8 0)), (2, .ref (ad 9 0))]) hx hb dL_law_559 hl (by decide) rfl (fun ls hl => ?_)
    refine lv_iload hx hb dL_law_561 (lv_at hl 0 rfl) ?_
    refine lv_if_eq (tgt := 579) hx hb dL_law_563 (by decide) (fun q1 => ?_) (fun q1 => ?_)
    · replace h := t_pos h q1
      refine lv_iconst (v := nI 0) hx hb dL_law_579 (by decide) ?_
      exact l_ret hx hb hr hlk hS ((t_ret h).1.trans er) dL_law_580
    · replace h := t_neg h q1
      refine lv_aload_n hx hb dL_law_566 rfl (lv_at hl 2 rfl) ?_
      refine lv_aload_n hx hb dL_law_567 rfl (lv_at hl 1 rfl) ?_
      refine lv_aload_n hx hb dL_law_568 rfl (lv_at hl 3 rfl) ?_
      obtain ⟨r3, M4, y2, h⟩ := t_bd h
      refine c_six hx hb hml hown htb hK hw hS hlow hX hbl hbA (As := [.ref (ad 8 0), .ref b, .ref (ad 9 0)]) (rest := []) (c_L_areSound hcv (M := M) (b := b) (L := L) (xs := xs) (hbA := hbA0) y2) cf_L_areSound k_491 rfl rfl ⟨Nat.le_of_ble_eq_true rfl, Nat.le_of_ble_eq_true rfl⟩ rfl hl.1 rfl (Nat.le_of_ble_eq_true rfl) ⟨Nat.le_of_ble_eq_true rfl, Nat.le_of_ble_eq_true rfl⟩ dL_law_569 (fun H locs hw hS => ?_)
      refine lv_if_eq (tgt := 579) hx hb dL_law_572 (by decide) (fun q5 => ?_) (fun q5 => ?_)
      · replace h := t_pos h q5
        refine lv_iconst (v := nI 0) hx hb dL_law_579 (by decide) ?_
        exact l_ret hx hb hr hlk hS ((t_ret h).1.trans er) dL_law_580
      · replace h := t_neg h q5
        refine lv_iconst (v := nI 1) hx hb dL_law_575 (by decide) ?_
        refine lv_goto (tgt := 580) hx hb dL_law_576 (by decide) ?_
        exact l_ret hx hb hr hlk hS ((t_ret h).1.trans er) dL_law_580
  have L558 : ∀ (M : MM), f_L_law_L558 L xs M = some (r, x) → JM p l e s md b below meth c D cy ad (M) 13 [(0, .ref b), (1, .ref (ad 8 0)), (2, .ref (ad 9 0))] 558 [] := by
    intro M h H locs hw hS ls hl
    unfold f_L_law_L558 at h
    refine lv_iconst (v := nI 0) hx hb dL_law_558 (by decide) ?_
    exact L559 M (nI 0) h H locs hw hS ls (lv_sub hl [0, 1, 2] rfl)
  have L491 : ∀ (M : MM) (x5 : Int32) (x6 : Int32) (x7 : Int32), f_L_law_L491 L xs M x5 x6 x7 = some (r, x) → JM p l e s md b below meth c D cy ad (M) 13 [(0, .ref b), (1, .ref (ad 8 0)), (2, .ref (ad 9 0)), (5, .int x5), (6, .int x6), (7, .int x7)] 491 [] := by
    intro M x5 x6 x7 h H locs hw hS ls hl
    unfold f_L_law_L491 at h
    refine lv_aload_n hx hb dL_law_491 rfl (lv_at hl 1 rfl) ?_
    obtain ⟨r2, M3, y1, h⟩ := t_bd h
    refine c_vi hx hb hml hown htb hK hw hS hlow (As := []) (rest := []) (c_X5_readOn hcv (M := M) y1) cf_X5_readOn k_333 rfl rfl ⟨Nat.le_of_ble_eq_true rfl, Nat.le_of_ble_eq_true rfl⟩ (r_recv hK hw (v_mn (by decide)) E_mn rfl) rfl hl.1 rfl (Nat.le_of_ble_eq_true rfl) ⟨Nat.le_of_ble_eq_true rfl, Nat.le_of_ble_eq_true rfl⟩ dL_law_492 (fun H locs hw hS => ?_)
    refine lv_istore (lv' := [(8, .int r2), (0, .ref b), (1, .ref (ad 8 0)), (2, .ref (ad 9 0)), (5, .int x5), (6, .int x6), (7, .int x7)]) hx hb dL_law_495 hl (by decide) rfl (fun ls hl => ?_)
    refine lv_iload hx hb dL_law_497 (lv_at hl 6 rfl) ?_
    refine lv_if_ne (tgt := 517) hx hb dL_law_499 (by decide) (fun q4 => ?_) (fun q4 => ?_)
    · replace h := t_neg h q4
      refine lv_iload hx hb dL_law_517 (lv_at hl 4 rfl) ?_
      refine lv_bipush (v := -5) hx hb dL_law_519 (by decide) ?_
      refine lv_icmp_ne (tgt := 539) hx hb dL_law_521 (by decide) (fun q5 => ?_) (fun q5 => ?_)
      · replace h := t_neg h q5
        refine lv_iload hx hb dL_law_539 (lv_at hl 0 rfl) ?_
        refine lv_iload hx hb dL_law_541 (lv_at hl 5 rfl) ?_
        refine lv_icmp_ne (tgt := 558) hx hb dL_law_543 (by decide) (fun q6 => ?_) (fun q6 => ?_)
        · replace h := t_neg h q6
          exact L558 M3 h H locs hw hS ls (lv_sub hl [1, 2, 3] rfl)
        · replace h := t_pos h q6
          refine lv_aload_n hx hb dL_law_546 rfl (lv_at hl 2 rfl) ?_
          refine lv_iconst (v := nI 2) hx hb dL_law_547 (by decide) ?_
          obtain ⟨r8, y7, h⟩ := t_b1 h
          refine c_vi hx hb hml hown htb hK hw hS hlow (As := [.int (nI 2)]) (rest := []) (c_X5_count hcv (M := M3) y7) cf_X5_count k_388 rfl rfl ⟨Nat.le_of_ble_eq_true rfl, Nat.le_of_ble_eq_true rfl⟩ (r_recv hK hw (v_mn (by decide)) E_mn rfl) rfl hl.1 rfl (Nat.le_of_ble_eq_true rfl) ⟨Nat.le_of_ble_eq_true rfl, Nat.le_of_ble_eq_true rfl⟩ dL_law_548 (fun H locs hw hS => ?_)
          refine lv_if_ne (tgt := 558) hx hb dL_law_551 (by decide) (fun q9 => ?_) (fun q9 => ?_)
          · replace h := t_neg h q9
            exact L558 M3 h H locs hw hS ls (lv_sub hl [1, 2, 3] rfl)
          · replace h := t_pos h q9
            refine lv_iconst (v := nI 1) hx hb dL_law_554 (by decide) ?_
            refine lv_goto (tgt := 559) hx hb dL_law_555 (by decide) ?_
            exact L559 M3 (nI 1) h H locs hw hS ls (lv_sub hl [1, 2, 3] rfl)
      · replace h := t_pos h q5
        refine lv_iload hx hb dL_law_524 (lv_at hl 0 rfl) ?_
        refine lv_iload hx hb dL_law_526 (lv_at hl 6 rfl) ?_
        refine lv_icmp_ne (tgt := 535) hx hb dL_law_528 (by decide) (fun q10 => ?_) (fun q10 => ?_)
        · replace h := t_neg h q10
          refine lv_iconst (v := nI 0) hx hb dL_law_535 (by decide) ?_
          refine lv_goto (tgt := 559) hx hb dL_law_536 (by decide) ?_
          exact L559 M3 (nI 0) h H locs hw hS ls (lv_sub hl [1, 2, 3] rfl)
        · replace h := t_pos h q10
          refine lv_iconst (v := nI 1) hx hb dL_law_531 (by decide) ?_
          refine lv_goto (tgt := 559) hx hb dL_law_532 (by decide) ?_
          exact L559 M3 (nI 1) h H locs hw hS ls (lv_sub hl [1, 2, 3] rfl)
    · replace h := t_pos h q4
      refine lv_iload hx hb dL_law_502 (lv_at hl 0 rfl) ?_
      refine lv_bipush (v := -5) hx hb dL_law_504 (by decide) ?_
      refine lv_icmp_ne (tgt := 513) hx hb dL_law_506 (by decide) (fun q11 => ?_) (fun q11 => ?_)
      · replace h := t_neg h q11
        refine lv_iconst (v := nI 0) hx hb dL_law_513 (by decide) ?_
        refine lv_goto (tgt := 559) hx hb dL_law_514 (by decide) ?_
        exact L559 M3 (nI 0) h H locs hw hS ls (lv_sub hl [1, 2, 3] rfl)
      · replace h := t_pos h q11
        refine lv_iconst (v := nI 1) hx hb dL_law_509 (by decide) ?_
        refine lv_goto (tgt := 559) hx hb dL_law_510 (by decide) ?_
        exact L559 M3 (nI 1) h H locs hw hS ls (lv_sub hl [1, 2, 3] rfl)
  have L403 : ∀ (M : MM), f_L_law_L403 L xs M = some (r, x) → JM p l e s md b below meth c D cy ad (M) 13 [(0, .ref b), (1, .ref (ad 8 0)), (2, .ref (ad 9 0))] 403 [] := by
    intro M h H locs hw hS ls hl
    unfold f_L_law_L403 at h
    refine lv_aload_n hx hb dL_law_403 rfl (lv_at hl 1 rfl) ?_
    refine lv_iconst (v := nI 2) hx hb dL_law_404 (by decide) ?_
    obtain ⟨r2, y1, h⟩ := t_b1 h
    refine c_vi hx hb hml hown htb hK hw hS hlow (As := [.int (nI 2)]) (rest := []) (c_X5_count hcv (M := M) y1) cf_X5_count k_388 rfl rfl ⟨Nat.le_of_ble_eq_true rfl, Nat.le_of_ble_eq_true rfl⟩ (r_recv hK hw (v_mn (by decide)) E_mn rfl) rfl hl.1 rfl (Nat.le_of_ble_eq_true rfl) ⟨Nat.le_of_ble_eq_true rfl, Nat.le_of_ble_eq_true rfl⟩ dL_law_405 (fun H locs hw hS => ?_)
    refine lv_if_ne (tgt := 436) hx hb dL_law_408 (by decide) (fun q3 => ?_) (fun q3 => ?_)
    · replace h := t_neg h q3
      refine lv_aload_n hx hb dL_law_436 rfl (lv_at hl 1 rfl) ?_
      refine lv_iconst (v := nI 0) hx hb dL_law_437 (by decide) ?_
      obtain ⟨r5, M6, y4, h⟩ := t_bd h
      refine c_vi hx hb hml hown htb hK hw hS hlow (As := [.int (nI 0)]) (rest := []) (c_X5_best hcv (M := M) y4) cf_X5_best k_384 rfl rfl ⟨Nat.le_of_ble_eq_true rfl, Nat.le_of_ble_eq_true rfl⟩ (r_recv hK hw (v_mn (by decide)) E_mn rfl) rfl hl.1 rfl (Nat.le_of_ble_eq_true rfl) ⟨Nat.le_of_ble_eq_true rfl, Nat.le_of_ble_eq_true rfl⟩ dL_law_438 (fun H locs hw hS => ?_)
      refine lv_istore (lv' := [(5, .int r5), (0, .ref b), (1, .ref (ad 8 0)), (2, .ref (ad 9 0))]) hx hb dL_law_441 hl (by decide) rfl (fun ls hl => ?_)
      refine lv_aload_n hx hb dL_law_443 rfl (lv_at hl 2 rfl) ?_
      refine lv_iconst (v := nI 1) hx hb dL_law_444 (by decide) ?_
      obtain ⟨r8, M9, y7, h⟩ := t_bd h
      refine c_vi hx hb hml hown htb hK hw hS hlow (As := [.int (nI 1)]) (rest := []) (c_X5_best hcv (M := M6) y7) cf_X5_best k_384 rfl rfl ⟨Nat.le_of_ble_eq_true rfl, Nat.le_of_ble_eq_true rfl⟩ (r_recv hK hw (v_mn (by decide)) E_mn rfl) rfl hl.1 rfl (Nat.le_of_ble_eq_true rfl) ⟨Nat.le_of_ble_eq_true rfl, Nat.le_of_ble_eq_true rfl⟩ dL_law_445 (fun H locs hw hS => ?_)
      refine lv_istore (lv' := [(6, .int r8), (5, .int r5), (0, .ref b), (1, .ref (ad 8 0)), (2, .ref (ad 9 0))]) hx hb dL_law_448 hl (by decide) rfl (fun ls hl => ?_)
      refine lv_aload_n hx hb dL_law_450 rfl (lv_at hl 3 rfl) ?_
      refine lv_iconst (v := nI 4) hx hb dL_law_451 (by decide) ?_
      obtain ⟨r11, y10, h⟩ := t_b1 h
      refine c_vi hx hb hml hown htb hK hw hS hlow (As := [.int (nI 4)]) (rest := []) (c_X5_count hcv (M := M9) y10) cf_X5_count k_388 rfl rfl ⟨Nat.le_of_ble_eq_true rfl, Nat.le_of_ble_eq_true rfl⟩ (r_recv hK hw (v_mn (by decide)) E_mn rfl) rfl hl.1 rfl (Nat.le_of_ble_eq_true rfl) ⟨Nat.le_of_ble_eq_true rfl, Nat.le_of_ble_eq_true rfl⟩ dL_law_452 (fun H locs hw hS => ?_)
      refine lv_aload_n hx hb dL_law_455 rfl (lv_at hl 3 rfl) ?_
      refine lv_iconst (v := nI 5) hx hb dL_law_456 (by decide) ?_
      obtain ⟨r13, y12, h⟩ := t_b1 h
      refine c_vi hx hb hml hown htb hK hw hS hlow (As := [.int (nI 5)]) (rest := [.int r11]) (c_X5_count hcv (M := M9) y12) cf_X5_count k_388 rfl rfl ⟨Nat.le_of_ble_eq_true rfl, Nat.le_of_ble_eq_true rfl⟩ (r_recv hK hw (v_mn (by decide)) E_mn rfl) rfl hl.1 rfl (Nat.le_of_ble_eq_true rfl) ⟨Nat.le_of_ble_eq_true rfl, Nat.le_of_ble_eq_true rfl⟩ dL_law_457 (fun H locs hw hS => ?_)
      refine lv_isub hx hb dL_law_460 ?_
      refine lv_istore (lv' := [(7, .int (r11 - r13)), (6, .int r8), (5, .int r5), (0, .ref b), (1, .ref (ad 8 0)), (2, .ref (ad 9 0))]) hx hb dL_law_461 hl (by decide) rfl (fun ls hl => ?_)
      refine lv_iload hx hb dL_law_463 (lv_at hl 2 rfl) ?_
      refine lv_bipush (v := -5) hx hb dL_law_465 (by decide) ?_
      refine lv_icmp_eq (tgt := 491) hx hb dL_law_467 (by decide) (fun q14 => ?_) (fun q14 => ?_)
      · replace h := t_pos h q14
        exact L491 M9 r5 r8 (r11 - r13) h H locs hw hS ls (lv_sub hl [3, 4, 5, 2, 1, 0] rfl)
      · replace h := t_neg h q14
        refine lv_iload hx hb dL_law_470 (lv_at hl 2 rfl) ?_
        refine lv_aload_n hx hb dL_law_472 rfl (lv_at hl 4 rfl) ?_
        refine lv_iconst (v := nI 3) hx hb dL_law_473 (by decide) ?_
        obtain ⟨r16, y15, h⟩ := t_b1 h
        refine c_vi hx hb hml hown htb hK hw hS hlow (As := [.int (nI 3)]) (rest := [.int r5]) (c_X5_count hcv (M := M9) y15) cf_X5_count k_388 rfl rfl ⟨Nat.le_of_ble_eq_true rfl, Nat.le_of_ble_eq_true rfl⟩ (r_recv hK hw (v_mn (by decide)) E_mn rfl) rfl hl.1 rfl (Nat.le_of_ble_eq_true rfl) ⟨Nat.le_of_ble_eq_true rfl, Nat.le_of_ble_eq_true rfl⟩ dL_law_474 (fun H locs hw hS => ?_)
        refine lv_icmp_eq (tgt := 491) hx hb dL_law_477 (by decide) (fun q17 => ?_) (fun q17 => ?_)
        · replace h := t_pos h q17
          exact L491 M9 r5 r8 (r11 - r13) h H locs hw hS ls (lv_sub hl [3, 4, 5, 2, 1, 0] rfl)
        · replace h := t_neg h q17
          refine lv_aload_n hx hb dL_law_480 rfl (lv_at hl 4 rfl) ?_
          refine lv_iload hx hb dL_law_481 (lv_at hl 2 rfl) ?_
          obtain ⟨r19, M20, y18, h⟩ := t_bd h
          refine c_vi hx hb hml hown htb hK hw hS hlow (As := [.int r5]) (rest := []) (c_X5_setPlan hcv (M := M9) y18) cf_X5_setPlan k_224 rfl rfl ⟨Nat.le_of_ble_eq_true rfl, Nat.le_of_ble_eq_true rfl⟩ (r_recv hK hw (v_mn (by decide)) E_mn rfl) rfl hl.1 rfl (Nat.le_of_ble_eq_true rfl) ⟨Nat.le_of_ble_eq_true rfl, Nat.le_of_ble_eq_true rfl⟩ dL_law_483 (fun H locs hw hS => ?_)
          refine lv_if_ge (tgt := 491) hx hb dL_law_486 (by decide) (fun q21 => ?_) (fun q21 => ?_)
          · replace h := t_pos h q21
            exact L491 M20 r5 r8 (r11 - r13) h H locs hw hS ls (lv_sub hl [3, 4, 5, 2, 1, 0] rfl)
          · replace h := t_neg h q21
            refine lv_iconst (v := nI 0) hx hb dL_law_489 (by decide) ?_
            exact l_ret hx hb hr hlk hS ((t_ret h).1.trans er) dL_law_490
    · replace h := t_pos h q3
      refine lv_aload_n hx hb dL_law_411 rfl (lv_at hl 1 rfl) ?_
      obtain ⟨r23, M24, y22, h⟩ := t_bd h
      refine c_vi hx hb hml hown htb hK hw hS hlow (As := []) (rest := []) (c_X5_readOn hcv (M := M) y22) cf_X5_readOn k_333 rfl rfl ⟨Nat.le_of_ble_eq_true rfl, Nat.le_of_ble_eq_true rfl⟩ (r_recv hK hw (v_mn (by decide)) E_mn rfl) rfl hl.1 rfl (Nat.le_of_ble_eq_true rfl) ⟨Nat.le_of_ble_eq_true rfl, Nat.le_of_ble_eq_true rfl⟩ dL_law_412 (fun H locs hw hS => ?_)
      refine lv_bipush (v := -4) hx hb dL_law_415 (by decide) ?_
      refine lv_icmp_ne (tgt := 434) hx hb dL_law_417 (by decide) (fun q25 => ?_) (fun q25 => ?_)
      · replace h := t_neg h q25
        refine lv_iconst (v := nI 0) hx hb dL_law_434 (by decide) ?_
        exact l_ret hx hb hr hlk hS ((t_ret h).1.trans er) dL_law_435
      · replace h := t_pos h q25
        refine lv_aload_n hx hb dL_law_420 rfl (lv_at hl 1 rfl) ?_
        refine lv_iconst (v := nI 1) hx hb dL_law_421 (by decide) ?_
        obtain ⟨r27, M28, y26, h⟩ := t_bd h
        refine c_vi hx hb hml hown htb hK hw hS hlow (As := [.int (nI 1)]) (rest := []) (c_X5_best hcv (M := M24) y26) cf_X5_best k_384 rfl rfl ⟨Nat.le_of_ble_eq_true rfl, Nat.le_of_ble_eq_true rfl⟩ (r_recv hK hw (v_mn (by decide)) E_mn rfl) rfl hl.1 rfl (Nat.le_of_ble_eq_true rfl) ⟨Nat.le_of_ble_eq_true rfl, Nat.le_of_ble_eq_true rfl⟩ dL_law_422 (fun H locs hw hS => ?_)
        refine lv_bipush (v := -4) hx hb dL_law_425 (by decide) ?_
        refine lv_icmp_ne (tgt := 434) hx hb dL_law_427 (by decide) (fun q29 => ?_) (fun q29 => ?_)
        · replace h := t_neg h q29
          refine lv_iconst (v := nI 0) hx hb dL_law_434 (by decide) ?_
          exact l_ret hx hb hr hlk hS ((t_ret h).1.trans er) dL_law_435
        · replace h := t_pos h q29
          refine lv_iconst (v := nI 1) hx hb dL_law_430 (by decide) ?_
          refine lv_goto (tgt := 435) hx hb dL_law_431 (by decide) ?_
          exact l_ret hx hb hr hlk hS ((t_ret h).1.trans er) dL_law_435
  have L78 : ∀ (n : Nat), ∀ (M : MM) (x3 : Int32) (x4 : Int32), f_L_law_L78 L xs n M x3 x4 = some (r, x) → JM p l e s md b below meth c D cy ad (M) 13 [(0, .ref b), (1, .ref (ad 8 0)), (2, .ref (ad 9 0)), (3, .int x3), (4, .int x4)] 78 [] := by
    intro n
    induction n with
    | zero =>
      intro M x3 x4 h
      cases h
    | succ n ih =>
      intro M x3 x4 h H locs hw hS ls hl
      rw [f_L_law_L78.eq_2] at h
      refine lv_aload_n hx hb dL_law_78 rfl (lv_at hl 1 rfl) ?_
      refine lv_iconst (v := nI 5) hx hb dL_law_79 (by decide) ?_
      obtain ⟨r2, y1, h⟩ := t_b1 h
      refine c_vi hx hb hml hown htb hK hw hS hlow (As := [.int (nI 5)]) (rest := []) (c_X5_count hcv (M := M) y1) cf_X5_count k_388 rfl rfl ⟨Nat.le_of_ble_eq_true rfl, Nat.le_of_ble_eq_true rfl⟩ (r_recv hK hw (v_mn (by decide)) E_mn rfl) rfl hl.1 rfl (Nat.le_of_ble_eq_true rfl) ⟨Nat.le_of_ble_eq_true rfl, Nat.le_of_ble_eq_true rfl⟩ dL_law_80 (fun H locs hw hS => ?_)
      refine lv_aload_n hx hb dL_law_83 rfl (lv_at hl 1 rfl) ?_
      refine lv_iconst (v := nI 4) hx hb dL_law_84 (by decide) ?_
      obtain ⟨r4, y3, h⟩ := t_b1 h
      refine c_vi hx hb hml hown htb hK hw hS hlow (As := [.int (nI 4)]) (rest := [.int r2]) (c_X5_count hcv (M := M) y3) cf_X5_count k_388 rfl rfl ⟨Nat.le_of_ble_eq_true rfl, Nat.le_of_ble_eq_true rfl⟩ (r_recv hK hw (v_mn (by decide)) E_mn rfl) rfl hl.1 rfl (Nat.le_of_ble_eq_true rfl) ⟨Nat.le_of_ble_eq_true rfl, Nat.le_of_ble_eq_true rfl⟩ dL_law_85 (fun H locs hw hS => ?_)
      refine lv_icmp_ge (tgt := 403) hx hb dL_law_88 (by decide) (fun q5 => ?_) (fun q5 => ?_)
      · replace h := t_pos h q5
        exact L403 M h H locs hw hS ls (lv_sub hl [0, 1, 2] rfl)
      · replace h := t_neg h q5
        refine lv_iload hx hb dL_law_91 (lv_at hl 4 rfl) ?_
        refine lv_bipush (v := nI 24) hx hb dL_law_93 (by decide) ?_
        refine lv_icmp_ge (tgt := 403) hx hb dL_law_95 (by decide) (fun q6 => ?_) (fun q6 => ?_)
        · replace h := t_pos h q6
          exact L403 M h H locs hw hS ls (lv_sub hl [0, 1, 2] rfl)
        · replace h := t_neg h q6
          refine lv_aload_n hx hb dL_law_98 rfl (lv_at hl 0 rfl) ?_
          refine lv_bipush (v := nI 24) hx hb dL_law_99 (by decide) ?_
          refine lv_iload hx hb dL_law_101 (lv_at hl 4 rfl) ?_
          refine lv_iadd hx hb dL_law_103 ?_
          obtain ⟨r8, y7, h⟩ := t_b1 h
          refine c_six hx hb hml hown htb hK hw hS hlow hX hbl hbA (As := [.ref b, .int ((nI 24) + x4)]) (rest := []) (c_L_cell hcv (M0 := M) (b := b) (L := L) (xs := xs) (hbA := hbA0) y7) cf_L_cell k_392 rfl rfl ⟨Nat.le_of_ble_eq_true rfl, Nat.le_of_ble_eq_true rfl⟩ rfl hl.1 rfl (Nat.le_of_ble_eq_true rfl) ⟨Nat.le_of_ble_eq_true rfl, Nat.le_of_ble_eq_true rfl⟩ dL_law_104 (fun H locs hw hS => ?_)
          refine lv_iload_n hx hb dL_law_107 rfl (lv_at hl 3 rfl) ?_
          obtain ⟨r10, y9, h⟩ := t_b1 h
          refine c_si hx hb hml hown htb hK hw hS hlow (As := [.int r8, .int x3]) (rest := []) (c_L_low hcv (M0 := M) y9) cf_L_low k_397 rfl rfl ⟨Nat.le_of_ble_eq_true rfl, Nat.le_of_ble_eq_true rfl⟩ rfl hl.1 rfl (Nat.le_of_ble_eq_true rfl) ⟨Nat.le_of_ble_eq_true rfl, Nat.le_of_ble_eq_true rfl⟩ dL_law_108 (fun H locs hw hS => ?_)
          refine lv_istore (lv' := [(5, .int r10), (0, .ref b), (1, .ref (ad 8 0)), (2, .ref (ad 9 0)), (3, .int x3), (4, .int x4)]) hx hb dL_law_111 hl (by decide) rfl (fun ls hl => ?_)
          refine lv_aload_n hx hb dL_law_113 rfl (lv_at hl 2 rfl) ?_
          refine lv_iload hx hb dL_law_114 (lv_at hl 0 rfl) ?_
          obtain ⟨r12, M13, y11, h⟩ := t_bd h
          refine c_vi hx hb hml hown htb hK hw hS hlow (As := [.int r10]) (rest := []) (c_X5_stopsIn hcv (M := M) y11) cf_X5_stopsIn k_379 rfl rfl ⟨Nat.le_of_ble_eq_true rfl, Nat.le_of_ble_eq_true rfl⟩ (r_recv hK hw (v_mn (by decide)) E_mn rfl) rfl hl.1 rfl (Nat.le_of_ble_eq_true rfl) ⟨Nat.le_of_ble_eq_true rfl, Nat.le_of_ble_eq_true rfl⟩ dL_law_116 (fun H locs hw hS => ?_)
          refine lv_istore (lv' := [(6, .int r12), (5, .int r10), (0, .ref b), (1, .ref (ad 8 0)), (2, .ref (ad 9 0)), (3, .int x3), (4, .int x4)]) hx hb dL_law_119 hl (by decide) rfl (fun ls hl => ?_)
          refine lv_aload_n hx hb dL_law_121 rfl (lv_at hl 3 rfl) ?_
          refine lv_iconst (v := nI 0) hx hb dL_law_122 (by decide) ?_
          obtain ⟨r15, y14, h⟩ := t_b1 h
          refine c_vi hx hb hml hown htb hK hw hS hlow (As := [.int (nI 0)]) (rest := []) (c_X5_next hcv (M := M13) y14) cf_X5_next k_375 rfl rfl ⟨Nat.le_of_ble_eq_true rfl, Nat.le_of_ble_eq_true rfl⟩ (r_recv hK hw (v_mn (by decide)) E_mn rfl) rfl hl.1 rfl (Nat.le_of_ble_eq_true rfl) ⟨Nat.le_of_ble_eq_true rfl, Nat.le_of_ble_eq_true rfl⟩ dL_law_123 (fun H locs hw hS => ?_)
          refine lv_istore (lv' := [(7, .int r15), (6, .int r12), (5, .int r10), (0, .ref b), (1, .ref (ad 8 0)), (2, .ref (ad 9 0)), (3, .int x3), (4, .int x4)]) hx hb dL_law_126 hl (by decide) rfl (fun ls hl => ?_)
          refine lv_aload_n hx hb dL_law_128 rfl (lv_at hl 4 rfl) ?_
          refine lv_iconst (v := nI 1) hx hb dL_law_129 (by decide) ?_
          obtain ⟨r17, y16, h⟩ := t_b1 h
          refine c_vi hx hb hml hown htb hK hw hS hlow (As := [.int (nI 1)]) (rest := []) (c_X5_next hcv (M := M13) y16) cf_X5_next k_375 rfl rfl ⟨Nat.le_of_ble_eq_true rfl, Nat.le_of_ble_eq_true rfl⟩ (r_recv hK hw (v_mn (by decide)) E_mn rfl) rfl hl.1 rfl (Nat.le_of_ble_eq_true rfl) ⟨Nat.le_of_ble_eq_true rfl, Nat.le_of_ble_eq_true rfl⟩ dL_law_130 (fun H locs hw hS => ?_)
          refine lv_istore (lv' := [(8, .int r17), (7, .int r15), (6, .int r12), (5, .int r10), (0, .ref b), (1, .ref (ad 8 0)), (2, .ref (ad 9 0)), (3, .int x3), (4, .int x4)]) hx hb dL_law_133 hl (by decide) rfl (fun ls hl => ?_)
          refine lv_aload_n hx hb dL_law_135 rfl (lv_at hl 5 rfl) ?_
          refine lv_iconst (v := nI 5) hx hb dL_law_136 (by decide) ?_
          obtain ⟨r19, y18, h⟩ := t_b1 h
          refine c_vi hx hb hml hown htb hK hw hS hlow (As := [.int (nI 5)]) (rest := []) (c_X5_count hcv (M := M13) y18) cf_X5_count k_388 rfl rfl ⟨Nat.le_of_ble_eq_true rfl, Nat.le_of_ble_eq_true rfl⟩ (r_recv hK hw (v_mn (by decide)) E_mn rfl) rfl hl.1 rfl (Nat.le_of_ble_eq_true rfl) ⟨Nat.le_of_ble_eq_true rfl, Nat.le_of_ble_eq_true rfl⟩ dL_law_137 (fun H locs hw hS => ?_)
          refine lv_istore (lv' := [(9, .int r19), (8, .int r17), (7, .int r15), (6, .int r12), (5, .int r10), (0, .ref b), (1, .ref (ad 8 0)), (2, .ref (ad 9 0)), (3, .int x3), (4, .int x4)]) hx hb dL_law_140 hl (by decide) rfl (fun ls hl => ?_)
          refine lv_aload_n hx hb dL_law_142 rfl (lv_at hl 6 rfl) ?_
          refine lv_iconst (v := nI 0) hx hb dL_law_143 (by decide) ?_
          obtain ⟨r21, M22, y20, h⟩ := t_bd h
          refine c_vi hx hb hml hown htb hK hw hS hlow (As := [.int (nI 0)]) (rest := []) (c_X5_best hcv (M := M13) y20) cf_X5_best k_384 rfl rfl ⟨Nat.le_of_ble_eq_true rfl, Nat.le_of_ble_eq_true rfl⟩ (r_recv hK hw (v_mn (by decide)) E_mn rfl) rfl hl.1 rfl (Nat.le_of_ble_eq_true rfl) ⟨Nat.le_of_ble_eq_true rfl, Nat.le_of_ble_eq_true rfl⟩ dL_law_144 (fun H locs hw hS => ?_)
          refine lv_istore (lv' := [(10, .int r21), (9, .int r19), (8, .int r17), (7, .int r15), (6, .int r12), (5, .int r10), (0, .ref b), (1, .ref (ad 8 0)), (2, .ref (ad 9 0)), (3, .int x3), (4, .int x4)]) hx hb dL_law_147 hl (by decide) rfl (fun ls hl => ?_)
          refine lv_iload hx hb dL_law_149 (lv_at hl 4 rfl) ?_
          refine lv_bipush (v := -4) hx hb dL_law_151 (by decide) ?_
          refine lv_icmp_ne (tgt := 160) hx hb dL_law_153 (by decide) (fun q23 => ?_) (fun q23 => ?_)
          · replace h := t_neg h q23
            refine lv_iconst (v := nI 0) hx hb dL_law_160 (by decide) ?_
            exact L161 (f_L_law_L78 L xs n) ih M22 x3 x4 r10 r12 r15 r17 r19 r21 (nI 0) h H locs hw hS ls (lv_sub hl [6, 7, 8, 9, 10, 5, 4, 3, 2, 1, 0] rfl)
          · replace h := t_pos h q23
            refine lv_iconst (v := nI 1) hx hb dL_law_156 (by decide) ?_
            refine lv_goto (tgt := 161) hx hb dL_law_157 (by decide) ?_
            exact L161 (f_L_law_L78 L xs n) ih M22 x3 x4 r10 r12 r15 r17 r19 r21 (nI 1) h H locs hw hS ls (lv_sub hl [6, 7, 8, 9, 10, 5, 4, 3, 2, 1, 0] rfl)
  have L58 : ∀ (M : MM), f_L_law_L58 L xs M = some (r, x) → JM p l e s md b below meth c D cy ad (M) 13 [(0, .ref b), (1, .ref (ad 8 0)), (2, .ref (ad 9 0))] 58 [] := by
    intro M h H locs hw hS ls hl
    unfold f_L_law_L58 at h
    refine lv_aload_n hx hb dL_law_58 rfl (lv_at hl 1 rfl) ?_
    refine lv_aload_n hx hb dL_law_59 rfl (lv_at hl 0 rfl) ?_
    refine lv_aload_n hx hb dL_law_60 rfl (lv_at hl 2 rfl) ?_
    obtain ⟨r2, M3, y1, h⟩ := t_bd h
    refine c_six hx hb hml hown htb hK hw hS hlow hX hbl hbA (As := [.ref (ad 8 0), .ref b, .ref (ad 9 0)]) (rest := []) (c_L_areSound hcv (M := M) (b := b) (L := L) (xs := xs) (hbA := hbA0) y1) cf_L_areSound k_491 rfl rfl ⟨Nat.le_of_ble_eq_true rfl, Nat.le_of_ble_eq_true rfl⟩ rfl hl.1 rfl (Nat.le_of_ble_eq_true rfl) ⟨Nat.le_of_ble_eq_true rfl, Nat.le_of_ble_eq_true rfl⟩ dL_law_61 (fun H locs hw hS => ?_)
    refine lv_if_ne (tgt := 69) hx hb dL_law_64 (by decide) (fun q4 => ?_) (fun q4 => ?_)
    · replace h := t_neg h q4
      refine lv_aload_n hx hb dL_law_69 rfl (lv_at hl 1 rfl) ?_
      refine lv_iconst (v := nI 1) hx hb dL_law_70 (by decide) ?_
      obtain ⟨r6, y5, h⟩ := t_b1 h
      refine c_vi hx hb hml hown htb hK hw hS hlow (As := [.int (nI 1)]) (rest := []) (c_X5_count hcv (M := M3) y5) cf_X5_count k_388 rfl rfl ⟨Nat.le_of_ble_eq_true rfl, Nat.le_of_ble_eq_true rfl⟩ (r_recv hK hw (v_mn (by decide)) E_mn rfl) rfl hl.1 rfl (Nat.le_of_ble_eq_true rfl) ⟨Nat.le_of_ble_eq_true rfl, Nat.le_of_ble_eq_true rfl⟩ dL_law_71 (fun H locs hw hS => ?_)
      refine lv_istore_n (lv' := [(3, .int r6), (0, .ref b), (1, .ref (ad 8 0)), (2, .ref (ad 9 0))]) hx hb dL_law_74 rfl hl (by decide) rfl (fun ls hl => ?_)
      refine lv_iconst (v := nI 0) hx hb dL_law_75 (by decide) ?_
      refine lv_istore (lv' := [(4, .int (nI 0)), (3, .int r6), (0, .ref b), (1, .ref (ad 8 0)), (2, .ref (ad 9 0))]) hx hb dL_law_76 hl (by decide) rfl (fun ls hl => ?_)
      exact L78 FU M3 r6 (nI 0) h H locs hw hS ls (lv_sub hl [2, 3, 4, 1, 0] rfl)
    · replace h := t_pos h q4
      refine lv_iconst (v := nI 0) hx hb dL_law_67 (by decide) ?_
      exact l_ret hx hb hr hlk hS ((t_ret h).1.trans er) dL_law_68
  have L25 : ∀ (n : Nat), ∀ (M : MM) (x3 : Int32), f_L_law_L25 L xs n M x3 = some (r, x) → JM p l e s md b below meth c D cy ad (M) 13 [(0, .ref b), (1, .ref (ad 8 0)), (2, .ref (ad 9 0)), (3, .int x3)] 25 [] := by
    intro n
    induction n with
    | zero =>
      intro M x3 h
      cases h
    | succ n ih =>
      intro M x3 h H locs hw hS ls hl
      rw [f_L_law_L25.eq_2] at h
      refine lv_iload_n hx hb dL_law_25 rfl (lv_at hl 3 rfl) ?_
      refine lv_bipush (v := nI 6) hx hb dL_law_26 (by decide) ?_
      refine lv_icmp_ge (tgt := 58) hx hb dL_law_28 (by decide) (fun q1 => ?_) (fun q1 => ?_)
      · replace h := t_pos h q1
        exact L58 M h H locs hw hS ls (lv_sub hl [0, 1, 2] rfl)
      · replace h := t_neg h q1
        refine lv_aload_n hx hb dL_law_31 rfl (lv_at hl 2 rfl) ?_
        refine lv_iload_n hx hb dL_law_32 rfl (lv_at hl 3 rfl) ?_
        refine lv_bipush (v := -5) hx hb dL_law_33 (by decide) ?_
        obtain ⟨q2, h⟩ := t_gd h
        obtain ⟨M4, e3, h⟩ := t_lt h
        refine r_iastA hx hb hK hcv hw hlow hS v_ra rfl (fun _ => E_ra) q2 e3.symm dL_law_35 (fun H locs hw hS => ?_)
        refine lv_aload_n hx hb dL_law_36 rfl (lv_at hl 2 rfl) ?_
        refine lv_bipush (v := nI 6) hx hb dL_law_37 (by decide) ?_
        refine lv_iload_n hx hb dL_law_39 rfl (lv_at hl 3 rfl) ?_
        refine lv_iadd hx hb dL_law_40 ?_
        refine lv_ldc (v := nI 200000) hx hb hown (htb _ k_500) dL_law_41 ?_
        obtain ⟨q5, h⟩ := t_gd h
        obtain ⟨M7, e6, h⟩ := t_lt h
        refine r_iastA hx hb hK hcv hw hlow hS v_ra rfl (fun _ => E_ra) q5 e6.symm dL_law_43 (fun H locs hw hS => ?_)
        refine lv_aload_n hx hb dL_law_44 rfl (lv_at hl 2 rfl) ?_
        refine lv_bipush (v := nI 12) hx hb dL_law_45 (by decide) ?_
        refine lv_iload_n hx hb dL_law_47 rfl (lv_at hl 3 rfl) ?_
        refine lv_iadd hx hb dL_law_48 ?_
        refine lv_bipush (v := -5) hx hb dL_law_49 (by decide) ?_
        obtain ⟨q8, h⟩ := t_gd h
        obtain ⟨M10, e9, h⟩ := t_lt h
        refine r_iastA hx hb hK hcv hw hlow hS v_ra rfl (fun _ => E_ra) q8 e9.symm dL_law_51 (fun H locs hw hS => ?_)
        refine lv_iinc (v := (x3 + (nI 1))) (lv' := [(3, .int (x3 + (nI 1))), (0, .ref b), (1, .ref (ad 8 0)), (2, .ref (ad 9 0))]) hx hb dL_law_52 hl (k := 3) rfl rfl (by decide) rfl (fun ls hl => ?_)
        refine lv_goto (tgt := 25) hx hb dL_law_55 (by decide) ?_
        exact ih M10 (x3 + (nI 1)) h H locs hw hS ls (lv_sub hl [1, 2, 3, 0] rfl)
  unfold f_L_law at h
  intro H locs hw hS ls hl
  refine lv_aload_n hx hb dL_law_13 rfl (lv_at hl 1 rfl) ?_
  refine lv_aload_n hx hb dL_law_14 rfl (lv_at hl 0 rfl) ?_
  obtain ⟨r2, M3, y1, h⟩ := t_bd h
  refine c_six hx hb hml hown htb hK hw hS hlow hX hbl hbA (As := [.ref (ad 8 0), .ref b]) (rest := []) (c_L_build hcv (M := M) (b := b) (L := L) (xs := xs) (hbA := hbA0) y1) cf_L_build k_410 rfl rfl ⟨Nat.le_of_ble_eq_true rfl, Nat.le_of_ble_eq_true rfl⟩ rfl hl.1 rfl (Nat.le_of_ble_eq_true rfl) ⟨Nat.le_of_ble_eq_true rfl, Nat.le_of_ble_eq_true rfl⟩ dL_law_15 (fun H locs hw hS => ?_)
  refine lv_if_ne (tgt := 23) hx hb dL_law_18 (by decide) (fun q4 => ?_) (fun q4 => ?_)
  · replace h := t_neg h q4
    refine lv_iconst (v := nI 0) hx hb dL_law_23 (by decide) ?_
    refine lv_istore_n (lv' := [(3, .int (nI 0)), (0, .ref b), (1, .ref (ad 8 0)), (2, .ref (ad 9 0))]) hx hb dL_law_24 rfl hl (by decide) rfl (fun ls hl => ?_)
    exact L25 FU M3 (nI 0) h H locs hw hS ls (lv_sub hl [1, 2, 3, 0] rfl)
  · replace h := t_pos h q4
    refine lv_iconst (v := nI 0) hx hb dL_law_21 (by decide) ?_
    exact l_ret hx hb hr hlk hS ((t_ret h).1.trans er) dL_law_22


set_option maxHeartbeats 8000000 in
set_option maxRecDepth 100000 in
/-- THE LAW, from its entry -/
theorem whole_walk {p : Program} {e : Env} {s : State} {m : MethodId} {below : List Frame} {meth : Method} {c : Code} (l : Launch) {b L : Nat} {xs : Nat → Int32} (C0 : lw_At p s m meth c b L xs) {Mx : MM} (hlaw : f_L_law (fun _ _ _ => 0) L xs = some (nI 1, Mx)) : W p l e room_1 s m #[Value.ref b] below meth c s.heap [] 0 0 (lw_Z below #[Value.ref b] s) (entryFrame m ([Value.ref b] : List Value).toArray 13) := by
  obtain ⟨hx, hb, hr, hml, hown, hts, hX, hbl, hlocks, hgv⟩ := id C0
  have htb : ∀ w ∈ TB, w.before #[Value.ref b] s = true := fun w h => hts w (TB_lw w h)
  obtain ⟨c0, iS0, hKn0⟩ := u_known (C := RX0) (T := TX0) (N := 9) (n := 9) hts (fun w h => TB_lw w (inX0 w h)) (htb _ k_67)
  obtain ⟨c1, iS1, hKn1⟩ := u_known (C := RX1) (T := TX1) (N := 8) (n := 8) hts (fun w h => TB_lw w (inX1 w h)) (htb _ k_18)
  obtain ⟨c2, iS2, hKn2⟩ := u_known (C := RX2) (T := TX2) (N := 3) (n := 3) hts (fun w h => TB_lw w (inX2 w h)) (htb _ k_186)
  obtain ⟨c3, iS3, hKn3⟩ := u_known (C := RX3) (T := TX3) (N := 8) (n := 8) hts (fun w h => TB_lw w (inX3 w h)) (htb _ k_115)
  obtain ⟨c4, iS4, hKn4⟩ := u_known (C := RX4) (T := TX4) (N := 6) (n := 6) hts (fun w h => TB_lw w (inX4 w h)) (htb _ k_58)
  obtain ⟨c5, iS5, hKn5⟩ := u_known (C := RX5) (T := TX5) (N := 6) (n := 6) hts (fun w h => TB_lw w (inX5 w h)) (htb _ k_10)
  obtain ⟨D, hKc⟩ : ∃ D : va_G, ∀ (k : Nat) (q : vw_C), vwCl[k]? = some q → u_Kn s q.1 q.2.1 q.2.2 (D.1 k) (D.2 k) := by
    refine ⟨(fun k => if k = 0 then c0 else if k = 1 then c1 else if k = 2 then c2 else if k = 3 then c3 else if k = 4 then c4 else c5, fun k => if k = 0 then iS0 else if k = 1 then iS1 else if k = 2 then iS2 else if k = 3 then iS3 else if k = 4 then iS4 else iS5), ?_⟩
    intro k q hq
    match k, hq with
    | 0, hq => cases hq; exact hKn0
    | 1, hq => cases hq; exact hKn1
    | 2, hq => cases hq; exact hKn2
    | 3, hq => cases hq; exact hKn3
    | 4, hq => cases hq; exact hKn4
    | 5, hq => cases hq; exact hKn5
    | k + 6, hq => simp [vwCl] at hq
  have hpr : ∀ {ty : FieldType}, Cond.arrayClass ty ∈ TB → ∃ cA : ClassId, ArrOfT s cA ty ∧ s.vm.findClass ("[" ++ ty.toString) = some cA := by
    intro ty h
    obtain ⟨cA, kA, comp, h1, h2, h3⟩ := Cond.arrayClass_spec (htb _ h)
    exact ⟨cA, fun n z => ⟨(fun k h => by cases h), kA, h2, comp, h3⟩, h1⟩
  have hob : ∀ {C : String}, Cond.arrayOver (.object C) ∈ lw_tbl → ∃ cA : ClassId, ArrOfT s cA (.object C) ∧ va_RA s cA (.object C) := by
    intro C h
    obtain ⟨comp, cA, k, h1, h2, h3, h4, h5⟩ := Cond.arrayOver_spec (hts _ h)
    exact ⟨cA, fun n z => ⟨(fun k h => by cases h), k, h3, comp, h4⟩, k, comp, h3, h4, h1, h5⟩
  obtain ⟨a0, ha0, hn0⟩ := hpr k_56
  obtain ⟨a1, ha1, hn1⟩ := hpr k_55
  obtain ⟨a2, ha2, hn2⟩ := hob k_64
  obtain ⟨a3, ha3, hn3⟩ := hob k_66
  obtain ⟨a4, ha4, hn4⟩ := hob k_192
  obtain ⟨cy, hcy⟩ : ∃ cy : Nat → ClassId, cy 0 = a0 ∧ cy 1 = a1 ∧ cy 2 = a2 ∧ cy 3 = a3 ∧ cy 4 = a4 := ⟨fun k => if k = 0 then a0 else if k = 1 then a1 else if k = 2 then a2 else if k = 3 then a3 else a4, rfl, rfl, rfl, rfl, rfl⟩
  obtain ⟨rfl, rfl, rfl, rfl, rfl⟩ := hcy
  have hK : KC D cy s := by
    refine ⟨⟨⟨hKc, fun k q h => ?_⟩, fun w hw => ?_⟩, va_AO.of (hts _ k_64), va_AO.of (hts _ k_66), va_AO.of (hts _ k_192)⟩
    · match k, h with
      | 0, h => cases h; exact ⟨ha0, hn0⟩
      | 1, h => cases h; exact ⟨ha1, hn1⟩
      | 2, h => cases h; exact ⟨ha2, hn2⟩
      | 3, h => cases h; exact ⟨ha3, hn3⟩
      | 4, h => cases h; exact ⟨ha4, hn4⟩
      | k + 5, h => simp [tyl] at h
    · obtain ⟨x1, x2, x3, x4, rfl⟩ := NXL_nest w hw
      exact va_Nw.of rfl (hts _ (NXL_lw _ hw))
  have hl := lv_entry ([.ref b]) (n := 13) (Nat.le_of_ble_eq_true rfl)
  rw [lg_entry_eq]
  generalize (lg_sl ([.ref b]) ++ List.replicate (13 - (lg_sl ([.ref b])).length) Slot.unset).toArray = ls at hl ⊢
  have hl : lv_has ls 13 [(0, .ref b)] := hl
  have hS : va_S (fun q : Nat => s.heap.size ≤ q) s.heap s.heap [] := va_S.rf
  have hw : XW D (fun _ => none) s.heap := fun a e h => by cases h
  have hz : s.heap.size = s.heap.size := rfl
  generalize hHH : s.heap = H at hw
  generalize hsz : s.heap.size = o at hz
  have hS : va_S (fun q : Nat => s.heap.size ≤ q) s.heap H [] := by rw [← hHH]; exact hS
  have hz : H.size = o := by rw [← hHH]; exact hsz
  generalize ([] : List Loc) = locs at hS ⊢
  refine n_new hx hb htb hown hK hw hz hS (ci := 5) (fl := bl5) inX5 rfl tyX5 tyX5_ok k_9 k_10 k_1 hfs_5 (Nat.le_of_ble_eq_true rfl) (Nat.le_of_ble_eq_true rfl) dL_law_0 (fun H hw hz hS => ?_)
  refine lv_dup hx hb dL_law_3 rfl ?_
  refine n_cp hx hb hml hown htb hK hw hz hS (A1 := AN o (o + 1)) (fun q h => by show s.heap.size ≤ q; rcases h with h | h <;> omega) (c_X5_init fu_at) cfI_5 k_11 rfl rfl ⟨Nat.le_of_ble_eq_true rfl, Nat.le_of_ble_eq_true rfl⟩ hl.1 (Nat.le_of_ble_eq_true rfl) ⟨Nat.le_of_ble_eq_true rfl, Nat.le_of_ble_eq_true rfl⟩ dL_law_4 (fun H locs hw hz hS => ?_)
  refine lv_astore_n (lv' := [(1, .ref o), (0, .ref b)]) hx hb dL_law_7 rfl hl (by decide) rfl (fun ls hl => ?_)
  refine lv_bipush (v := 18) hx hb dL_law_8 (by decide) ?_
  refine n_newi hx hb htb hK hw hz hS k_56 (N := 18) (by decide) rfl (by decide) (Nat.le_of_ble_eq_true rfl) (Nat.le_of_ble_eq_true rfl) dL_law_10 (fun H hw hz hS => ?_)
  refine lv_astore_n (lv' := [(2, .ref (o + 181)), (1, .ref o), (0, .ref b)]) hx hb dL_law_12 rfl hl (by decide) rfl (fun ls hl => ?_)
  have hW : WH D cy (adO o) (fun _ _ _ => 0) H := by
    refine wh_start (f := fun _ => none) (hw.sub (fun a e ha => ?_)) (hw.sub (fun a e ha => ?_))
    · by_cases h1 : o ≤ a ∧ a < o + 181
      · obtain ⟨d, rfl⟩ : ∃ d, a = o + d := ⟨a - o, by omega⟩
        rw [fu_ne (by omega)]
        rw [ov_in (by omega)] at ha ⊢
        exact ha
      · rw [ov_out (by omega)] at ha
        cases ha
    · by_cases h1 : a = o + 181
      · subst h1
        rw [fu_at] at ha ⊢
        exact ha
      · rw [fu_ne h1] at ha
        cases ha
  have hlow : ∀ q, AD (adO o) q → s.heap.size ≤ q := fun q h => by
    obtain ⟨v, -, rfl⟩ := h
    show s.heap.size ≤ o + aoff v.1 v.2
    omega
  refine W.cs (cells' := 182) (slots' := 2011) rfl rfl ?_
  exact c_L_law C0 CV_adO hlow hK.1 rfl hlaw H locs hW hS ls (lv_sub hl [2, 1, 0] rfl)
