/-! THE CLAIM OUT OF ONE WALK OF THE LAW'S BODY. Your part is whole_start (and what it stands on); all else here is the same for every law, but numbers. -/
def R_law : String := "SureAnswersLaw"
def lw_P (b : Addr) (xs : List Int32) (args : Array Value) (s : State) : Prop := args = #[.ref b] ∧ s.IntsAt b xs ∧ xs.length ≤ 2560 ∧ (Jvm.Cond.and given_1 narrow_1).before args s = true
def lw_Q (_ : Array Value) (s : State) (o : Outcome) (t : State) : Prop := o = .returned (some (.int 1)) ∧ Framed s o t [] 600000 7302250
def lw_Z (below : List Frame) (a : Array Value) (s : State) : State → Prop := fun t => ∃ o, t.status = .running ∧ Ended t below o ∧ lw_Q a s o t
/-- the law's own end, with 1 on the stack, nothing written that was there before, its room as the claim has it -/
theorem lw_ret {p : Program} {l : Launch} {e : Env} {s : State} {m : MethodId} {below : List Frame} {meth : Method} {c : Code} {b : Nat} (hx : p.tables.exec = Jvm.exec) (hb : c.code = code) (hr : meth.sig.returnType = ret) (hlocks : meth.locks = false) {pc : Nat} {H : Heap} {ls : Array Slot} (hdg : decode code pc = .ok (.ireturn, 1)) : W p l e room_1 s m #[Value.ref b] below meth c H [] 600000 7302250 (lw_Z below #[Value.ref b] s) (F0 m pc ls [.int 1]) := by
  intro T hT X
  obtain ⟨fs, hret, hrun, hended, hW, hframe⟩ := X.leave (v := some (.int 1)) (hlocks := hlocks) (fun h => by rw [hr] at h; cases h)
  have hmeth' : T.vm.method? m = some meth := X.method'
  refine ⟨T.setFrames fs, ?_, .returned (some (.int 1)), hrun, hended, rfl, ⟨_, rfl⟩, hW, hframe⟩
  jvm_step X.here [X.here.top, hx, hb, hdg, hmeth', hr, ret, narrow_b1]
  (try refine ⟨rfl, ?_⟩); (try refine ⟨rfl, ?_⟩)
  first | (intro acts; rw [hret _ acts rfl rfl rfl]) | rw [hret _ _ rfl rfl rfl]
  exact Steps.refl _
/-- what holds at the law's entry: the machine, the code, the tables' words (any of lw_tbl by 'hts w (by decide +kernel)'), the script of L ints xs at the cell b, what the Statement gives of the start (any of its parts by flat_of_before) -/
def lw_At (p : Program) (s : State) (m : MethodId) (meth : Method) (c : Code) (b L : Nat) (xs : Nat → Int32) : Prop :=
  p.tables.exec = Jvm.exec ∧ c.code = code ∧ meth.sig.returnType = ret ∧ c.maxLocals = 4 ∧ s.vm.findClass R_law = some m.cls ∧ (∀ w ∈ lw_tbl, w.before #[Value.ref b] s = true) ∧ va_X b L xs s s.heap ∧ b < s.heap.size ∧ meth.locks = false ∧ (Jvm.Cond.and given_1 narrow_1).before #[Value.ref b] s = true

theorem law_le {L i : Nat} (hL : L ≤ 2560) (hi : i ≤ 2560) : (Int32.ofNat L - nI 5 < nI i) ↔ L < i + 5 := by
  rcases Nat.lt_or_ge L 5 with h5 | h5
  · have hc : L = 0 ∨ L = 1 ∨ L = 2 ∨ L = 3 ∨ L = 4 := by omega
    have hneg : ∀ k : Nat, k < 5 → (Int32.ofNat k - nI 5).toInt < 0 := by decide
    have h1 := hneg L h5
    rw [Int32.lt_iff_toInt_lt, nI_toInt (by omega)]
    omega
  · have e : Int32.ofNat L - nI 5 = nI (L - 5) := by
      have h1 : nI (L - 5) + nI 5 = nI L := by rw [nI_add]; congr 1; omega
      show nI L - nI 5 = _
      rw [← h1, Int32.add_sub_cancel]
    rw [e, nI_ltI (by omega) (by omega)]
    omega
set_option maxHeartbeats 8000000 in
set_option maxRecDepth 100000 in
/-- THE LAW'S LOOP: at its head, with i ints read, class and reference stand in the relation -/
theorem law_loop {p : Program} {l : Launch} {e : Env} {s : State} {m : MethodId} {below : List Frame} {meth : Method} {c : Code} {D : va_G} {cy : Nat → ClassId} {ad : Nat → Nat → Nat} {b L : Nat} {xs : Nat → Int32} (hL : L ≤ 2560) (C0 : lw_At p s m meth c b L xs) (hcv : CV ad) (hlow : ∀ q, AD ad q → s.heap.size ≤ q) (hK : KD D cy s) {Rel : MM → Prop} (hSt : Steps Rel) :
    ∀ (n i : Nat), i ≤ L → L + 1 ≤ i + n → ∀ M : MM, Rel M → ∀ (H : Heap) (locs : List Loc), WH D cy ad M H → va_S (fun q : Nat => s.heap.size ≤ q) s.heap H locs → ∀ ls : Array Slot, lv_has ls 4 [(0, .ref b), (1, .ref (ad 8 0)), (2, .ref (ad 9 0)), (3, .int (nI i))] → W p l e room_1 s m #[Value.ref b] below meth c H locs 190 3658 (lw_Z below #[Value.ref b] s) (F0 m 18 ls []) := by
  obtain ⟨hx, hb, hr, hml, hown, hts, hX, hbl, hlocks, hgv⟩ := C0
  obtain ⟨S_addBlock, S_addRow, S_change, S_narrow, S_forget, S_ask, S_setTolerance, S_stop, S_drop, S_setPlan, S_read, S_readOn, S_readFrom, S_type, S_clearText, S_undo, S_keep, S_restore, S_block, S_value, S_question, S_next, S_stopsIn, S_best, S_count⟩ := hSt
  have htb : ∀ w ∈ TB, w.before #[Value.ref b] s = true := fun w h => hts w (TB_lw w h)
  have hbA : ¬ (fun q : Nat => s.heap.size ≤ q) b := Nat.not_le.mpr hbl
  intro n
  induction n with
  | zero =>
    intro i h1 h2
    exact absurd h2 (by omega)
  | succ n ih =>
    intro i hi hin M hR H locs hw hS ls hl
    refine lv_iload_n hx hb dL_law_18 rfl (lv_at hl 3 rfl) ?_
    refine lv_aload_n hx hb dL_law_19 rfl (lv_at hl 0 rfl) ?_
    refine va_slen hx hb hX hbl hbA hS dL_law_20 ?_
    refine lv_iconst (v := nI 5) hx hb dL_law_21 (by decide) ?_
    refine lv_isub hx hb dL_law_22 ?_
    refine lv_icmp_gt (tgt := 761) hx hb dL_law_23 (by decide) (fun q => ?_) (fun q => ?_)
    · refine lv_iconst (v := 1) hx hb dL_law_761 (by decide) ?_
      refine va_forget (fun q hq => hS.2.2 q hq) ?_
      refine W.widen (k := 600000) (n := 7302250) (Nat.le_of_ble_eq_true rfl) (Nat.le_of_ble_eq_true rfl) ?_
      exact lw_ret hx hb hr hlocks dL_law_762
    · have hi5 : i + 5 ≤ L := by
        have := (not_congr (law_le hL (by omega))).mp q
        omega
      -- behind a case
      have tail : ∀ M : MM, Rel M → ∀ (H : Heap) (locs : List Loc), WH D cy ad M H → va_S (fun q : Nat => s.heap.size ≤ q) s.heap H locs → ∀ ls : Array Slot, lv_has ls 4 [(0, .ref b), (1, .ref (ad 8 0)), (2, .ref (ad 9 0)), (3, .int (nI i))] → W p l e room_1 s m #[Value.ref b] below meth c H locs 190 3658 (lw_Z below #[Value.ref b] s) (F0 m 755 ls []) := by
        intro M hR H locs hw hS ls hl
        refine lv_iinc (v := nI (i + 5)) (lv' := [(3, .int (nI (i + 5))), (0, .ref b), (1, .ref (ad 8 0)), (2, .ref (ad 9 0))]) hx hb dL_law_755 hl (k := 3) rfl (nI_add i 5) (by decide) rfl (fun ls hl => ?_)
        refine lv_goto (tgt := 18) hx hb dL_law_758 (by decide) ?_
        exact ih (i + 5) hi5 (by omega) M hR H locs hw hS ls (lv_sub hl [1, 2, 3, 0] rfl)
      refine lv_aload_n hx hb dL_law_26 rfl (lv_at hl 0 rfl) ?_
      refine lv_iload_n hx hb dL_law_27 rfl (lv_at hl 3 rfl) ?_
      refine va_sld hx hb hX hbl hbA hS (vp_in_nI (by omega) (by omega)) dL_law_28 ?_
      refine lv_bipush (v := nI 31) hx hb dL_law_29 (by decide) ?_
      refine lv_iand hx hb dL_law_31 ?_
      refine lv_topi (fun z ez => ?_)
      by_cases q0 : z = nI 0
      · refine lv_tableIn (off := 116) (tgt := 148) hx hb dL_law_32 (by rw [q0]; decide) (by rw [q0]; decide) (by rw [q0]; rfl) (by decide) ?_
        refine lv_aload_n hx hb dL_law_148 rfl (lv_at hl 1 rfl) ?_
        obtain ⟨r, M1, m2, y1, y2, hR1⟩ := S_addBlock  M hR
        refine c_vi hx hb hml hown htb hK hw hS hlow (As := []) (rest := []) (c_X5_addBlock hcv (M := M) y1) cf_X5_addBlock k_225 rfl rfl ⟨Nat.le_of_ble_eq_true rfl, Nat.le_of_ble_eq_true rfl⟩ (r_recv hK hw (v_mn (by decide)) E_mn rfl) rfl hl.1 rfl (Nat.le_of_ble_eq_true rfl) ⟨Nat.le_of_ble_eq_true rfl, Nat.le_of_ble_eq_true rfl⟩ dL_law_149 (fun H locs hw hS => ?_)
        refine lv_aload_n hx hb dL_law_152 rfl (lv_at hl 2 rfl) ?_
        refine c_vi hx hb hml hown htb hK hw hS hlow (As := []) (rest := [.int r]) (c_X6_addBlock hcv (M0 := M1) (m := M1 9) (hm := rfl) y2) cf_X6_addBlock k_631 rfl rfl ⟨Nat.le_of_ble_eq_true rfl, Nat.le_of_ble_eq_true rfl⟩ (r_recv hK hw (v_md (by decide)) E_md rfl) rfl hl.1 rfl (Nat.le_of_ble_eq_true rfl) ⟨Nat.le_of_ble_eq_true rfl, Nat.le_of_ble_eq_true rfl⟩ dL_law_153 (fun H locs hw hS => ?_)
        refine lv_icmp_eq (tgt := 755) hx hb dL_law_156 (by decide) (fun q => ?_) (fun q => absurd rfl q)
        exact tail (gs M1 9 m2) hR1 H locs hw hS ls hl
      by_cases q1 : z = nI 1
      · refine lv_tableIn (off := 129) (tgt := 161) hx hb dL_law_32 (by rw [q1]; decide) (by rw [q1]; decide) (by rw [q1]; rfl) (by decide) ?_
        refine lv_aload_n hx hb dL_law_161 rfl (lv_at hl 1 rfl) ?_
        refine lv_aload_n hx hb dL_law_162 rfl (lv_at hl 0 rfl) ?_
        refine lv_iload_n hx hb dL_law_163 rfl (lv_at hl 3 rfl) ?_
        refine lv_iconst (v := nI 1) hx hb dL_law_164 (by decide) ?_
        refine lv_iadd hx hb dL_law_165 ?_
        refine va_sld hx hb hX hbl hbA hS (by rw [nI_add]; exact vp_in_nI (by omega) (by omega)) dL_law_166 ?_
        refine lv_aload_n hx hb dL_law_167 rfl (lv_at hl 0 rfl) ?_
        refine lv_iload_n hx hb dL_law_168 rfl (lv_at hl 3 rfl) ?_
        refine lv_iconst (v := nI 2) hx hb dL_law_169 (by decide) ?_
        refine lv_iadd hx hb dL_law_170 ?_
        refine va_sld hx hb hX hbl hbA hS (by rw [nI_add]; exact vp_in_nI (by omega) (by omega)) dL_law_171 ?_
        obtain ⟨r, M1, m2, y1, y2, hR1⟩ := S_addRow (xs (nI i + nI 1).toNatClampNeg) (xs (nI i + nI 2).toNatClampNeg) M hR
        refine c_vi hx hb hml hown htb hK hw hS hlow (As := [.int (xs (nI i + nI 1).toNatClampNeg), .int (xs (nI i + nI 2).toNatClampNeg)]) (rest := []) (c_X5_addRow hcv (M := M) y1) cf_X5_addRow k_334 rfl rfl ⟨Nat.le_of_ble_eq_true rfl, Nat.le_of_ble_eq_true rfl⟩ (r_recv hK hw (v_mn (by decide)) E_mn rfl) rfl hl.1 rfl (Nat.le_of_ble_eq_true rfl) ⟨Nat.le_of_ble_eq_true rfl, Nat.le_of_ble_eq_true rfl⟩ dL_law_172 (fun H locs hw hS => ?_)
        refine lv_aload_n hx hb dL_law_175 rfl (lv_at hl 2 rfl) ?_
        refine lv_aload_n hx hb dL_law_176 rfl (lv_at hl 0 rfl) ?_
        refine lv_iload_n hx hb dL_law_177 rfl (lv_at hl 3 rfl) ?_
        refine lv_iconst (v := nI 1) hx hb dL_law_178 (by decide) ?_
        refine lv_iadd hx hb dL_law_179 ?_
        refine va_sld hx hb hX hbl hbA hS (by rw [nI_add]; exact vp_in_nI (by omega) (by omega)) dL_law_180 ?_
        refine lv_aload_n hx hb dL_law_181 rfl (lv_at hl 0 rfl) ?_
        refine lv_iload_n hx hb dL_law_182 rfl (lv_at hl 3 rfl) ?_
        refine lv_iconst (v := nI 2) hx hb dL_law_183 (by decide) ?_
        refine lv_iadd hx hb dL_law_184 ?_
        refine va_sld hx hb hX hbl hbA hS (by rw [nI_add]; exact vp_in_nI (by omega) (by omega)) dL_law_185 ?_
        refine c_vi hx hb hml hown htb hK hw hS hlow (As := [.int (xs (nI i + nI 1).toNatClampNeg), .int (xs (nI i + nI 2).toNatClampNeg)]) (rest := [.int r]) (c_X6_addRow hcv (M0 := M1) (m := M1 9) (hm := rfl) y2) cf_X6_addRow k_714 rfl rfl ⟨Nat.le_of_ble_eq_true rfl, Nat.le_of_ble_eq_true rfl⟩ (r_recv hK hw (v_md (by decide)) E_md rfl) rfl hl.1 rfl (Nat.le_of_ble_eq_true rfl) ⟨Nat.le_of_ble_eq_true rfl, Nat.le_of_ble_eq_true rfl⟩ dL_law_186 (fun H locs hw hS => ?_)
        refine lv_icmp_eq (tgt := 755) hx hb dL_law_189 (by decide) (fun q => ?_) (fun q => absurd rfl q)
        exact tail (gs M1 9 m2) hR1 H locs hw hS ls hl
      by_cases q2 : z = nI 2
      · refine lv_tableIn (off := 162) (tgt := 194) hx hb dL_law_32 (by rw [q2]; decide) (by rw [q2]; decide) (by rw [q2]; rfl) (by decide) ?_
        refine lv_aload_n hx hb dL_law_194 rfl (lv_at hl 1 rfl) ?_
        refine lv_aload_n hx hb dL_law_195 rfl (lv_at hl 0 rfl) ?_
        refine lv_iload_n hx hb dL_law_196 rfl (lv_at hl 3 rfl) ?_
        refine lv_iconst (v := nI 1) hx hb dL_law_197 (by decide) ?_
        refine lv_iadd hx hb dL_law_198 ?_
        refine va_sld hx hb hX hbl hbA hS (by rw [nI_add]; exact vp_in_nI (by omega) (by omega)) dL_law_199 ?_
        refine lv_aload_n hx hb dL_law_200 rfl (lv_at hl 0 rfl) ?_
        refine lv_iload_n hx hb dL_law_201 rfl (lv_at hl 3 rfl) ?_
        refine lv_iconst (v := nI 2) hx hb dL_law_202 (by decide) ?_
        refine lv_iadd hx hb dL_law_203 ?_
        refine va_sld hx hb hX hbl hbA hS (by rw [nI_add]; exact vp_in_nI (by omega) (by omega)) dL_law_204 ?_
        refine lv_aload_n hx hb dL_law_205 rfl (lv_at hl 0 rfl) ?_
        refine lv_iload_n hx hb dL_law_206 rfl (lv_at hl 3 rfl) ?_
        refine lv_iconst (v := nI 3) hx hb dL_law_207 (by decide) ?_
        refine lv_iadd hx hb dL_law_208 ?_
        refine va_sld hx hb hX hbl hbA hS (by rw [nI_add]; exact vp_in_nI (by omega) (by omega)) dL_law_209 ?_
        obtain ⟨r, M1, m2, y1, y2, hR1⟩ := S_change (xs (nI i + nI 1).toNatClampNeg) (xs (nI i + nI 2).toNatClampNeg) (xs (nI i + nI 3).toNatClampNeg) M hR
        refine c_vi hx hb hml hown htb hK hw hS hlow (As := [.int (xs (nI i + nI 1).toNatClampNeg), .int (xs (nI i + nI 2).toNatClampNeg), .int (xs (nI i + nI 3).toNatClampNeg)]) (rest := []) (c_X5_change hcv (M := M) y1) cf_X5_change k_352 rfl rfl ⟨Nat.le_of_ble_eq_true rfl, Nat.le_of_ble_eq_true rfl⟩ (r_recv hK hw (v_mn (by decide)) E_mn rfl) rfl hl.1 rfl (Nat.le_of_ble_eq_true rfl) ⟨Nat.le_of_ble_eq_true rfl, Nat.le_of_ble_eq_true rfl⟩ dL_law_210 (fun H locs hw hS => ?_)
        refine lv_aload_n hx hb dL_law_213 rfl (lv_at hl 2 rfl) ?_
        refine lv_aload_n hx hb dL_law_214 rfl (lv_at hl 0 rfl) ?_
        refine lv_iload_n hx hb dL_law_215 rfl (lv_at hl 3 rfl) ?_
        refine lv_iconst (v := nI 1) hx hb dL_law_216 (by decide) ?_
        refine lv_iadd hx hb dL_law_217 ?_
        refine va_sld hx hb hX hbl hbA hS (by rw [nI_add]; exact vp_in_nI (by omega) (by omega)) dL_law_218 ?_
        refine lv_aload_n hx hb dL_law_219 rfl (lv_at hl 0 rfl) ?_
        refine lv_iload_n hx hb dL_law_220 rfl (lv_at hl 3 rfl) ?_
        refine lv_iconst (v := nI 2) hx hb dL_law_221 (by decide) ?_
        refine lv_iadd hx hb dL_law_222 ?_
        refine va_sld hx hb hX hbl hbA hS (by rw [nI_add]; exact vp_in_nI (by omega) (by omega)) dL_law_223 ?_
        refine lv_aload_n hx hb dL_law_224 rfl (lv_at hl 0 rfl) ?_
        refine lv_iload_n hx hb dL_law_225 rfl (lv_at hl 3 rfl) ?_
        refine lv_iconst (v := nI 3) hx hb dL_law_226 (by decide) ?_
        refine lv_iadd hx hb dL_law_227 ?_
        refine va_sld hx hb hX hbl hbA hS (by rw [nI_add]; exact vp_in_nI (by omega) (by omega)) dL_law_228 ?_
        refine c_vi hx hb hml hown htb hK hw hS hlow (As := [.int (xs (nI i + nI 1).toNatClampNeg), .int (xs (nI i + nI 2).toNatClampNeg), .int (xs (nI i + nI 3).toNatClampNeg)]) (rest := [.int r]) (c_X6_change hcv (M0 := M1) (m := M1 9) (hm := rfl) y2) cf_X6_change k_722 rfl rfl ⟨Nat.le_of_ble_eq_true rfl, Nat.le_of_ble_eq_true rfl⟩ (r_recv hK hw (v_md (by decide)) E_md rfl) rfl hl.1 rfl (Nat.le_of_ble_eq_true rfl) ⟨Nat.le_of_ble_eq_true rfl, Nat.le_of_ble_eq_true rfl⟩ dL_law_229 (fun H locs hw hS => ?_)
        refine lv_icmp_eq (tgt := 755) hx hb dL_law_232 (by decide) (fun q => ?_) (fun q => absurd rfl q)
        exact tail (gs M1 9 m2) hR1 H locs hw hS ls hl
      by_cases q3 : z = nI 3
      · refine lv_tableIn (off := 205) (tgt := 237) hx hb dL_law_32 (by rw [q3]; decide) (by rw [q3]; decide) (by rw [q3]; rfl) (by decide) ?_
        refine lv_aload_n hx hb dL_law_237 rfl (lv_at hl 1 rfl) ?_
        refine lv_aload_n hx hb dL_law_238 rfl (lv_at hl 0 rfl) ?_
        refine lv_iload_n hx hb dL_law_239 rfl (lv_at hl 3 rfl) ?_
        refine lv_iconst (v := nI 1) hx hb dL_law_240 (by decide) ?_
        refine lv_iadd hx hb dL_law_241 ?_
        refine va_sld hx hb hX hbl hbA hS (by rw [nI_add]; exact vp_in_nI (by omega) (by omega)) dL_law_242 ?_
        obtain ⟨r, M1, m2, y1, y2, hR1⟩ := S_narrow (xs (nI i + nI 1).toNatClampNeg) M hR
        refine c_vi hx hb hml hown htb hK hw hS hlow (As := [.int (xs (nI i + nI 1).toNatClampNeg)]) (rest := []) (c_X5_narrow hcv (M := M) y1) cf_X5_narrow k_365 rfl rfl ⟨Nat.le_of_ble_eq_true rfl, Nat.le_of_ble_eq_true rfl⟩ (r_recv hK hw (v_mn (by decide)) E_mn rfl) rfl hl.1 rfl (Nat.le_of_ble_eq_true rfl) ⟨Nat.le_of_ble_eq_true rfl, Nat.le_of_ble_eq_true rfl⟩ dL_law_243 (fun H locs hw hS => ?_)
        refine lv_aload_n hx hb dL_law_246 rfl (lv_at hl 2 rfl) ?_
        refine lv_aload_n hx hb dL_law_247 rfl (lv_at hl 0 rfl) ?_
        refine lv_iload_n hx hb dL_law_248 rfl (lv_at hl 3 rfl) ?_
        refine lv_iconst (v := nI 1) hx hb dL_law_249 (by decide) ?_
        refine lv_iadd hx hb dL_law_250 ?_
        refine va_sld hx hb hX hbl hbA hS (by rw [nI_add]; exact vp_in_nI (by omega) (by omega)) dL_law_251 ?_
        refine c_vi hx hb hml hown htb hK hw hS hlow (As := [.int (xs (nI i + nI 1).toNatClampNeg)]) (rest := [.int r]) (c_X6_narrow hcv (M0 := M1) (m := M1 9) (hm := rfl) y2) cf_X6_narrow k_726 rfl rfl ⟨Nat.le_of_ble_eq_true rfl, Nat.le_of_ble_eq_true rfl⟩ (r_recv hK hw (v_md (by decide)) E_md rfl) rfl hl.1 rfl (Nat.le_of_ble_eq_true rfl) ⟨Nat.le_of_ble_eq_true rfl, Nat.le_of_ble_eq_true rfl⟩ dL_law_252 (fun H locs hw hS => ?_)
        refine lv_icmp_eq (tgt := 755) hx hb dL_law_255 (by decide) (fun q => ?_) (fun q => absurd rfl q)
        exact tail (gs M1 9 m2) hR1 H locs hw hS ls hl
      by_cases q4 : z = nI 4
      · refine lv_tableIn (off := 228) (tgt := 260) hx hb dL_law_32 (by rw [q4]; decide) (by rw [q4]; decide) (by rw [q4]; rfl) (by decide) ?_
        refine lv_aload_n hx hb dL_law_260 rfl (lv_at hl 1 rfl) ?_
        obtain ⟨r, M1, m2, y1, y2, hR1⟩ := S_forget  M hR
        refine c_vi hx hb hml hown htb hK hw hS hlow (As := []) (rest := []) (c_X5_forget hcv (M := M) y1) cf_X5_forget k_377 rfl rfl ⟨Nat.le_of_ble_eq_true rfl, Nat.le_of_ble_eq_true rfl⟩ (r_recv hK hw (v_mn (by decide)) E_mn rfl) rfl hl.1 rfl (Nat.le_of_ble_eq_true rfl) ⟨Nat.le_of_ble_eq_true rfl, Nat.le_of_ble_eq_true rfl⟩ dL_law_261 (fun H locs hw hS => ?_)
        refine lv_aload_n hx hb dL_law_264 rfl (lv_at hl 2 rfl) ?_
        refine c_vi hx hb hml hown htb hK hw hS hlow (As := []) (rest := [.int r]) (c_X6_forget hcv (M0 := M1) (m := M1 9) (hm := rfl) y2) cf_X6_forget k_730 rfl rfl ⟨Nat.le_of_ble_eq_true rfl, Nat.le_of_ble_eq_true rfl⟩ (r_recv hK hw (v_md (by decide)) E_md rfl) rfl hl.1 rfl (Nat.le_of_ble_eq_true rfl) ⟨Nat.le_of_ble_eq_true rfl, Nat.le_of_ble_eq_true rfl⟩ dL_law_265 (fun H locs hw hS => ?_)
        refine lv_icmp_eq (tgt := 755) hx hb dL_law_268 (by decide) (fun q => ?_) (fun q => absurd rfl q)
        exact tail (gs M1 9 m2) hR1 H locs hw hS ls hl
      by_cases q5 : z = nI 5
      · refine lv_tableIn (off := 241) (tgt := 273) hx hb dL_law_32 (by rw [q5]; decide) (by rw [q5]; decide) (by rw [q5]; rfl) (by decide) ?_
        refine lv_aload_n hx hb dL_law_273 rfl (lv_at hl 1 rfl) ?_
        refine lv_aload_n hx hb dL_law_274 rfl (lv_at hl 0 rfl) ?_
        refine lv_iload_n hx hb dL_law_275 rfl (lv_at hl 3 rfl) ?_
        refine lv_iconst (v := nI 1) hx hb dL_law_276 (by decide) ?_
        refine lv_iadd hx hb dL_law_277 ?_
        refine va_sld hx hb hX hbl hbA hS (by rw [nI_add]; exact vp_in_nI (by omega) (by omega)) dL_law_278 ?_
        refine lv_aload_n hx hb dL_law_279 rfl (lv_at hl 0 rfl) ?_
        refine lv_iload_n hx hb dL_law_280 rfl (lv_at hl 3 rfl) ?_
        refine lv_iconst (v := nI 2) hx hb dL_law_281 (by decide) ?_
        refine lv_iadd hx hb dL_law_282 ?_
        refine va_sld hx hb hX hbl hbA hS (by rw [nI_add]; exact vp_in_nI (by omega) (by omega)) dL_law_283 ?_
        refine lv_aload_n hx hb dL_law_284 rfl (lv_at hl 0 rfl) ?_
        refine lv_iload_n hx hb dL_law_285 rfl (lv_at hl 3 rfl) ?_
        refine lv_iconst (v := nI 3) hx hb dL_law_286 (by decide) ?_
        refine lv_iadd hx hb dL_law_287 ?_
        refine va_sld hx hb hX hbl hbA hS (by rw [nI_add]; exact vp_in_nI (by omega) (by omega)) dL_law_288 ?_
        refine lv_aload_n hx hb dL_law_289 rfl (lv_at hl 0 rfl) ?_
        refine lv_iload_n hx hb dL_law_290 rfl (lv_at hl 3 rfl) ?_
        refine lv_iconst (v := nI 4) hx hb dL_law_291 (by decide) ?_
        refine lv_iadd hx hb dL_law_292 ?_
        refine va_sld hx hb hX hbl hbA hS (by rw [nI_add]; exact vp_in_nI (by omega) (by omega)) dL_law_293 ?_
        obtain ⟨r, M1, m2, y1, y2, hR1⟩ := S_ask (xs (nI i + nI 1).toNatClampNeg) (xs (nI i + nI 2).toNatClampNeg) (xs (nI i + nI 3).toNatClampNeg) (xs (nI i + nI 4).toNatClampNeg) M hR
        refine c_vi hx hb hml hown htb hK hw hS hlow (As := [.int (xs (nI i + nI 1).toNatClampNeg), .int (xs (nI i + nI 2).toNatClampNeg), .int (xs (nI i + nI 3).toNatClampNeg), .int (xs (nI i + nI 4).toNatClampNeg)]) (rest := []) (c_X5_ask hcv (M := M) y1) cf_X5_ask k_390 rfl rfl ⟨Nat.le_of_ble_eq_true rfl, Nat.le_of_ble_eq_true rfl⟩ (r_recv hK hw (v_mn (by decide)) E_mn rfl) rfl hl.1 rfl (Nat.le_of_ble_eq_true rfl) ⟨Nat.le_of_ble_eq_true rfl, Nat.le_of_ble_eq_true rfl⟩ dL_law_294 (fun H locs hw hS => ?_)
        refine lv_aload_n hx hb dL_law_297 rfl (lv_at hl 2 rfl) ?_
        refine lv_aload_n hx hb dL_law_298 rfl (lv_at hl 0 rfl) ?_
        refine lv_iload_n hx hb dL_law_299 rfl (lv_at hl 3 rfl) ?_
        refine lv_iconst (v := nI 1) hx hb dL_law_300 (by decide) ?_
        refine lv_iadd hx hb dL_law_301 ?_
        refine va_sld hx hb hX hbl hbA hS (by rw [nI_add]; exact vp_in_nI (by omega) (by omega)) dL_law_302 ?_
        refine lv_aload_n hx hb dL_law_303 rfl (lv_at hl 0 rfl) ?_
        refine lv_iload_n hx hb dL_law_304 rfl (lv_at hl 3 rfl) ?_
        refine lv_iconst (v := nI 2) hx hb dL_law_305 (by decide) ?_
        refine lv_iadd hx hb dL_law_306 ?_
        refine va_sld hx hb hX hbl hbA hS (by rw [nI_add]; exact vp_in_nI (by omega) (by omega)) dL_law_307 ?_
        refine lv_aload_n hx hb dL_law_308 rfl (lv_at hl 0 rfl) ?_
        refine lv_iload_n hx hb dL_law_309 rfl (lv_at hl 3 rfl) ?_
        refine lv_iconst (v := nI 3) hx hb dL_law_310 (by decide) ?_
        refine lv_iadd hx hb dL_law_311 ?_
        refine va_sld hx hb hX hbl hbA hS (by rw [nI_add]; exact vp_in_nI (by omega) (by omega)) dL_law_312 ?_
        refine lv_aload_n hx hb dL_law_313 rfl (lv_at hl 0 rfl) ?_
        refine lv_iload_n hx hb dL_law_314 rfl (lv_at hl 3 rfl) ?_
        refine lv_iconst (v := nI 4) hx hb dL_law_315 (by decide) ?_
        refine lv_iadd hx hb dL_law_316 ?_
        refine va_sld hx hb hX hbl hbA hS (by rw [nI_add]; exact vp_in_nI (by omega) (by omega)) dL_law_317 ?_
        refine c_vi hx hb hml hown htb hK hw hS hlow (As := [.int (xs (nI i + nI 1).toNatClampNeg), .int (xs (nI i + nI 2).toNatClampNeg), .int (xs (nI i + nI 3).toNatClampNeg), .int (xs (nI i + nI 4).toNatClampNeg)]) (rest := [.int r]) (c_X6_ask hcv (M0 := M1) (m := M1 9) (hm := rfl) y2) cf_X6_ask k_734 rfl rfl ⟨Nat.le_of_ble_eq_true rfl, Nat.le_of_ble_eq_true rfl⟩ (r_recv hK hw (v_md (by decide)) E_md rfl) rfl hl.1 rfl (Nat.le_of_ble_eq_true rfl) ⟨Nat.le_of_ble_eq_true rfl, Nat.le_of_ble_eq_true rfl⟩ dL_law_318 (fun H locs hw hS => ?_)
        refine lv_icmp_eq (tgt := 755) hx hb dL_law_321 (by decide) (fun q => ?_) (fun q => absurd rfl q)
        exact tail (gs M1 9 m2) hR1 H locs hw hS ls hl
      by_cases q6 : z = nI 6
      · refine lv_tableIn (off := 294) (tgt := 326) hx hb dL_law_32 (by rw [q6]; decide) (by rw [q6]; decide) (by rw [q6]; rfl) (by decide) ?_
        refine lv_aload_n hx hb dL_law_326 rfl (lv_at hl 1 rfl) ?_
        refine lv_aload_n hx hb dL_law_327 rfl (lv_at hl 0 rfl) ?_
        refine lv_iload_n hx hb dL_law_328 rfl (lv_at hl 3 rfl) ?_
        refine lv_iconst (v := nI 1) hx hb dL_law_329 (by decide) ?_
        refine lv_iadd hx hb dL_law_330 ?_
        refine va_sld hx hb hX hbl hbA hS (by rw [nI_add]; exact vp_in_nI (by omega) (by omega)) dL_law_331 ?_
        refine lv_aload_n hx hb dL_law_332 rfl (lv_at hl 0 rfl) ?_
        refine lv_iload_n hx hb dL_law_333 rfl (lv_at hl 3 rfl) ?_
        refine lv_iconst (v := nI 2) hx hb dL_law_334 (by decide) ?_
        refine lv_iadd hx hb dL_law_335 ?_
        refine va_sld hx hb hX hbl hbA hS (by rw [nI_add]; exact vp_in_nI (by omega) (by omega)) dL_law_336 ?_
        obtain ⟨r, M1, m2, y1, y2, hR1⟩ := S_setTolerance (xs (nI i + nI 1).toNatClampNeg) (xs (nI i + nI 2).toNatClampNeg) M hR
        refine c_vi hx hb hml hown htb hK hw hS hlow (As := [.int (xs (nI i + nI 1).toNatClampNeg), .int (xs (nI i + nI 2).toNatClampNeg)]) (rest := []) (c_X5_setTolerance hcv (M := M) y1) cf_X5_setTolerance k_400 rfl rfl ⟨Nat.le_of_ble_eq_true rfl, Nat.le_of_ble_eq_true rfl⟩ (r_recv hK hw (v_mn (by decide)) E_mn rfl) rfl hl.1 rfl (Nat.le_of_ble_eq_true rfl) ⟨Nat.le_of_ble_eq_true rfl, Nat.le_of_ble_eq_true rfl⟩ dL_law_337 (fun H locs hw hS => ?_)
        refine lv_aload_n hx hb dL_law_340 rfl (lv_at hl 2 rfl) ?_
        refine lv_aload_n hx hb dL_law_341 rfl (lv_at hl 0 rfl) ?_
        refine lv_iload_n hx hb dL_law_342 rfl (lv_at hl 3 rfl) ?_
        refine lv_iconst (v := nI 1) hx hb dL_law_343 (by decide) ?_
        refine lv_iadd hx hb dL_law_344 ?_
        refine va_sld hx hb hX hbl hbA hS (by rw [nI_add]; exact vp_in_nI (by omega) (by omega)) dL_law_345 ?_
        refine lv_aload_n hx hb dL_law_346 rfl (lv_at hl 0 rfl) ?_
        refine lv_iload_n hx hb dL_law_347 rfl (lv_at hl 3 rfl) ?_
        refine lv_iconst (v := nI 2) hx hb dL_law_348 (by decide) ?_
        refine lv_iadd hx hb dL_law_349 ?_
        refine va_sld hx hb hX hbl hbA hS (by rw [nI_add]; exact vp_in_nI (by omega) (by omega)) dL_law_350 ?_
        refine c_vi hx hb hml hown htb hK hw hS hlow (As := [.int (xs (nI i + nI 1).toNatClampNeg), .int (xs (nI i + nI 2).toNatClampNeg)]) (rest := [.int r]) (c_X6_setTolerance hcv (M0 := M1) (m := M1 9) (hm := rfl) y2) cf_X6_setTolerance k_739 rfl rfl ⟨Nat.le_of_ble_eq_true rfl, Nat.le_of_ble_eq_true rfl⟩ (r_recv hK hw (v_md (by decide)) E_md rfl) rfl hl.1 rfl (Nat.le_of_ble_eq_true rfl) ⟨Nat.le_of_ble_eq_true rfl, Nat.le_of_ble_eq_true rfl⟩ dL_law_351 (fun H locs hw hS => ?_)
        refine lv_icmp_eq (tgt := 755) hx hb dL_law_354 (by decide) (fun q => ?_) (fun q => absurd rfl q)
        exact tail (gs M1 9 m2) hR1 H locs hw hS ls hl
      by_cases q7 : z = nI 7
      · refine lv_tableIn (off := 327) (tgt := 359) hx hb dL_law_32 (by rw [q7]; decide) (by rw [q7]; decide) (by rw [q7]; rfl) (by decide) ?_
        refine lv_aload_n hx hb dL_law_359 rfl (lv_at hl 1 rfl) ?_
        refine lv_aload_n hx hb dL_law_360 rfl (lv_at hl 0 rfl) ?_
        refine lv_iload_n hx hb dL_law_361 rfl (lv_at hl 3 rfl) ?_
        refine lv_iconst (v := nI 1) hx hb dL_law_362 (by decide) ?_
        refine lv_iadd hx hb dL_law_363 ?_
        refine va_sld hx hb hX hbl hbA hS (by rw [nI_add]; exact vp_in_nI (by omega) (by omega)) dL_law_364 ?_
        obtain ⟨r, M1, m2, y1, y2, hR1⟩ := S_stop (xs (nI i + nI 1).toNatClampNeg) M hR
        refine c_vi hx hb hml hown htb hK hw hS hlow (As := [.int (xs (nI i + nI 1).toNatClampNeg)]) (rest := []) (c_X5_stop hcv (M := M) y1) cf_X5_stop k_408 rfl rfl ⟨Nat.le_of_ble_eq_true rfl, Nat.le_of_ble_eq_true rfl⟩ (r_recv hK hw (v_mn (by decide)) E_mn rfl) rfl hl.1 rfl (Nat.le_of_ble_eq_true rfl) ⟨Nat.le_of_ble_eq_true rfl, Nat.le_of_ble_eq_true rfl⟩ dL_law_365 (fun H locs hw hS => ?_)
        refine lv_aload_n hx hb dL_law_368 rfl (lv_at hl 2 rfl) ?_
        refine lv_aload_n hx hb dL_law_369 rfl (lv_at hl 0 rfl) ?_
        refine lv_iload_n hx hb dL_law_370 rfl (lv_at hl 3 rfl) ?_
        refine lv_iconst (v := nI 1) hx hb dL_law_371 (by decide) ?_
        refine lv_iadd hx hb dL_law_372 ?_
        refine va_sld hx hb hX hbl hbA hS (by rw [nI_add]; exact vp_in_nI (by omega) (by omega)) dL_law_373 ?_
        refine c_vi hx hb hml hown htb hK hw hS hlow (As := [.int (xs (nI i + nI 1).toNatClampNeg)]) (rest := [.int r]) (c_X6_stop hcv (M0 := M1) (m := M1 9) (hm := rfl) y2) cf_X6_stop k_747 rfl rfl ⟨Nat.le_of_ble_eq_true rfl, Nat.le_of_ble_eq_true rfl⟩ (r_recv hK hw (v_md (by decide)) E_md rfl) rfl hl.1 rfl (Nat.le_of_ble_eq_true rfl) ⟨Nat.le_of_ble_eq_true rfl, Nat.le_of_ble_eq_true rfl⟩ dL_law_374 (fun H locs hw hS => ?_)
        refine lv_icmp_eq (tgt := 755) hx hb dL_law_377 (by decide) (fun q => ?_) (fun q => absurd rfl q)
        exact tail (gs M1 9 m2) hR1 H locs hw hS ls hl
      by_cases q8 : z = nI 8
      · refine lv_tableIn (off := 350) (tgt := 382) hx hb dL_law_32 (by rw [q8]; decide) (by rw [q8]; decide) (by rw [q8]; rfl) (by decide) ?_
        refine lv_aload_n hx hb dL_law_382 rfl (lv_at hl 1 rfl) ?_
        refine lv_aload_n hx hb dL_law_383 rfl (lv_at hl 0 rfl) ?_
        refine lv_iload_n hx hb dL_law_384 rfl (lv_at hl 3 rfl) ?_
        refine lv_iconst (v := nI 1) hx hb dL_law_385 (by decide) ?_
        refine lv_iadd hx hb dL_law_386 ?_
        refine va_sld hx hb hX hbl hbA hS (by rw [nI_add]; exact vp_in_nI (by omega) (by omega)) dL_law_387 ?_
        obtain ⟨r, M1, m2, y1, y2, hR1⟩ := S_drop (xs (nI i + nI 1).toNatClampNeg) M hR
        refine c_vi hx hb hml hown htb hK hw hS hlow (As := [.int (xs (nI i + nI 1).toNatClampNeg)]) (rest := []) (c_X5_drop hcv (M := M) y1) cf_X5_drop k_415 rfl rfl ⟨Nat.le_of_ble_eq_true rfl, Nat.le_of_ble_eq_true rfl⟩ (r_recv hK hw (v_mn (by decide)) E_mn rfl) rfl hl.1 rfl (Nat.le_of_ble_eq_true rfl) ⟨Nat.le_of_ble_eq_true rfl, Nat.le_of_ble_eq_true rfl⟩ dL_law_388 (fun H locs hw hS => ?_)
        refine lv_aload_n hx hb dL_law_391 rfl (lv_at hl 2 rfl) ?_
        refine lv_aload_n hx hb dL_law_392 rfl (lv_at hl 0 rfl) ?_
        refine lv_iload_n hx hb dL_law_393 rfl (lv_at hl 3 rfl) ?_
        refine lv_iconst (v := nI 1) hx hb dL_law_394 (by decide) ?_
        refine lv_iadd hx hb dL_law_395 ?_
        refine va_sld hx hb hX hbl hbA hS (by rw [nI_add]; exact vp_in_nI (by omega) (by omega)) dL_law_396 ?_
        refine c_vi hx hb hml hown htb hK hw hS hlow (As := [.int (xs (nI i + nI 1).toNatClampNeg)]) (rest := [.int r]) (c_X6_drop hcv (M0 := M1) (m := M1 9) (hm := rfl) y2) cf_X6_drop k_751 rfl rfl ⟨Nat.le_of_ble_eq_true rfl, Nat.le_of_ble_eq_true rfl⟩ (r_recv hK hw (v_md (by decide)) E_md rfl) rfl hl.1 rfl (Nat.le_of_ble_eq_true rfl) ⟨Nat.le_of_ble_eq_true rfl, Nat.le_of_ble_eq_true rfl⟩ dL_law_397 (fun H locs hw hS => ?_)
        refine lv_icmp_eq (tgt := 755) hx hb dL_law_400 (by decide) (fun q => ?_) (fun q => absurd rfl q)
        exact tail (gs M1 9 m2) hR1 H locs hw hS ls hl
      by_cases q9 : z = nI 9
      · refine lv_tableIn (off := 373) (tgt := 405) hx hb dL_law_32 (by rw [q9]; decide) (by rw [q9]; decide) (by rw [q9]; rfl) (by decide) ?_
        refine lv_aload_n hx hb dL_law_405 rfl (lv_at hl 1 rfl) ?_
        refine lv_aload_n hx hb dL_law_406 rfl (lv_at hl 0 rfl) ?_
        refine lv_iload_n hx hb dL_law_407 rfl (lv_at hl 3 rfl) ?_
        refine lv_iconst (v := nI 1) hx hb dL_law_408 (by decide) ?_
        refine lv_iadd hx hb dL_law_409 ?_
        refine va_sld hx hb hX hbl hbA hS (by rw [nI_add]; exact vp_in_nI (by omega) (by omega)) dL_law_410 ?_
        obtain ⟨r, M1, m2, y1, y2, hR1⟩ := S_setPlan (xs (nI i + nI 1).toNatClampNeg) M hR
        refine c_vi hx hb hml hown htb hK hw hS hlow (As := [.int (xs (nI i + nI 1).toNatClampNeg)]) (rest := []) (c_X5_setPlan hcv (M := M) y1) cf_X5_setPlan k_424 rfl rfl ⟨Nat.le_of_ble_eq_true rfl, Nat.le_of_ble_eq_true rfl⟩ (r_recv hK hw (v_mn (by decide)) E_mn rfl) rfl hl.1 rfl (Nat.le_of_ble_eq_true rfl) ⟨Nat.le_of_ble_eq_true rfl, Nat.le_of_ble_eq_true rfl⟩ dL_law_411 (fun H locs hw hS => ?_)
        refine lv_aload_n hx hb dL_law_414 rfl (lv_at hl 2 rfl) ?_
        refine lv_aload_n hx hb dL_law_415 rfl (lv_at hl 0 rfl) ?_
        refine lv_iload_n hx hb dL_law_416 rfl (lv_at hl 3 rfl) ?_
        refine lv_iconst (v := nI 1) hx hb dL_law_417 (by decide) ?_
        refine lv_iadd hx hb dL_law_418 ?_
        refine va_sld hx hb hX hbl hbA hS (by rw [nI_add]; exact vp_in_nI (by omega) (by omega)) dL_law_419 ?_
        refine c_vi hx hb hml hown htb hK hw hS hlow (As := [.int (xs (nI i + nI 1).toNatClampNeg)]) (rest := [.int r]) (c_X6_setPlan hcv (M0 := M1) (m := M1 9) (hm := rfl) y2) cf_X6_setPlan k_755 rfl rfl ⟨Nat.le_of_ble_eq_true rfl, Nat.le_of_ble_eq_true rfl⟩ (r_recv hK hw (v_md (by decide)) E_md rfl) rfl hl.1 rfl (Nat.le_of_ble_eq_true rfl) ⟨Nat.le_of_ble_eq_true rfl, Nat.le_of_ble_eq_true rfl⟩ dL_law_420 (fun H locs hw hS => ?_)
        refine lv_icmp_eq (tgt := 755) hx hb dL_law_423 (by decide) (fun q => ?_) (fun q => absurd rfl q)
        exact tail (gs M1 9 m2) hR1 H locs hw hS ls hl
      by_cases q10 : z = nI 10
      · refine lv_tableIn (off := 396) (tgt := 428) hx hb dL_law_32 (by rw [q10]; decide) (by rw [q10]; decide) (by rw [q10]; rfl) (by decide) ?_
        refine lv_aload_n hx hb dL_law_428 rfl (lv_at hl 1 rfl) ?_
        refine lv_aload_n hx hb dL_law_429 rfl (lv_at hl 0 rfl) ?_
        refine lv_iload_n hx hb dL_law_430 rfl (lv_at hl 3 rfl) ?_
        refine lv_iconst (v := nI 1) hx hb dL_law_431 (by decide) ?_
        refine lv_iadd hx hb dL_law_432 ?_
        refine va_sld hx hb hX hbl hbA hS (by rw [nI_add]; exact vp_in_nI (by omega) (by omega)) dL_law_433 ?_
        obtain ⟨r, M1, m2, y1, y2, hR1⟩ := S_read (xs (nI i + nI 1).toNatClampNeg) M hR
        refine c_vi hx hb hml hown htb hK hw hS hlow (As := [.int (xs (nI i + nI 1).toNatClampNeg)]) (rest := []) (c_X5_read hcv (M := M) y1) cf_X5_read k_428 rfl rfl ⟨Nat.le_of_ble_eq_true rfl, Nat.le_of_ble_eq_true rfl⟩ (r_recv hK hw (v_mn (by decide)) E_mn rfl) rfl hl.1 rfl (Nat.le_of_ble_eq_true rfl) ⟨Nat.le_of_ble_eq_true rfl, Nat.le_of_ble_eq_true rfl⟩ dL_law_434 (fun H locs hw hS => ?_)
        refine lv_aload_n hx hb dL_law_437 rfl (lv_at hl 2 rfl) ?_
        refine lv_aload_n hx hb dL_law_438 rfl (lv_at hl 0 rfl) ?_
        refine lv_iload_n hx hb dL_law_439 rfl (lv_at hl 3 rfl) ?_
        refine lv_iconst (v := nI 1) hx hb dL_law_440 (by decide) ?_
        refine lv_iadd hx hb dL_law_441 ?_
        refine va_sld hx hb hX hbl hbA hS (by rw [nI_add]; exact vp_in_nI (by omega) (by omega)) dL_law_442 ?_
        refine c_vi hx hb hml hown htb hK hw hS hlow (As := [.int (xs (nI i + nI 1).toNatClampNeg)]) (rest := [.int r]) (c_X6_read hcv (M0 := M1) (m := M1 9) (hm := rfl) y2) cf_X6_read k_759 rfl rfl ⟨Nat.le_of_ble_eq_true rfl, Nat.le_of_ble_eq_true rfl⟩ (r_recv hK hw (v_md (by decide)) E_md rfl) rfl hl.1 rfl (Nat.le_of_ble_eq_true rfl) ⟨Nat.le_of_ble_eq_true rfl, Nat.le_of_ble_eq_true rfl⟩ dL_law_443 (fun H locs hw hS => ?_)
        refine lv_icmp_eq (tgt := 755) hx hb dL_law_446 (by decide) (fun q => ?_) (fun q => absurd rfl q)
        exact tail (gs M1 9 m2) hR1 H locs hw hS ls hl
      by_cases q11 : z = nI 11
      · refine lv_tableIn (off := 419) (tgt := 451) hx hb dL_law_32 (by rw [q11]; decide) (by rw [q11]; decide) (by rw [q11]; rfl) (by decide) ?_
        refine lv_aload_n hx hb dL_law_451 rfl (lv_at hl 1 rfl) ?_
        obtain ⟨r, M1, m2, y1, y2, hR1⟩ := S_readOn  M hR
        refine c_vi hx hb hml hown htb hK hw hS hlow (As := []) (rest := []) (c_X5_readOn hcv (M := M) y1) cf_X5_readOn k_460 rfl rfl ⟨Nat.le_of_ble_eq_true rfl, Nat.le_of_ble_eq_true rfl⟩ (r_recv hK hw (v_mn (by decide)) E_mn rfl) rfl hl.1 rfl (Nat.le_of_ble_eq_true rfl) ⟨Nat.le_of_ble_eq_true rfl, Nat.le_of_ble_eq_true rfl⟩ dL_law_452 (fun H locs hw hS => ?_)
        refine lv_aload_n hx hb dL_law_455 rfl (lv_at hl 2 rfl) ?_
        refine c_vi hx hb hml hown htb hK hw hS hlow (As := []) (rest := [.int r]) (c_X6_readOn hcv (M0 := M1) (m := M1 9) (hm := rfl) y2) cf_X6_readOn k_799 rfl rfl ⟨Nat.le_of_ble_eq_true rfl, Nat.le_of_ble_eq_true rfl⟩ (r_recv hK hw (v_md (by decide)) E_md rfl) rfl hl.1 rfl (Nat.le_of_ble_eq_true rfl) ⟨Nat.le_of_ble_eq_true rfl, Nat.le_of_ble_eq_true rfl⟩ dL_law_456 (fun H locs hw hS => ?_)
        refine lv_icmp_eq (tgt := 755) hx hb dL_law_459 (by decide) (fun q => ?_) (fun q => absurd rfl q)
        exact tail (gs M1 9 m2) hR1 H locs hw hS ls hl
      by_cases q12 : z = nI 12
      · refine lv_tableIn (off := 432) (tgt := 464) hx hb dL_law_32 (by rw [q12]; decide) (by rw [q12]; decide) (by rw [q12]; rfl) (by decide) ?_
        refine lv_aload_n hx hb dL_law_464 rfl (lv_at hl 1 rfl) ?_
        refine lv_aload_n hx hb dL_law_465 rfl (lv_at hl 0 rfl) ?_
        refine lv_iload_n hx hb dL_law_466 rfl (lv_at hl 3 rfl) ?_
        refine lv_iconst (v := nI 1) hx hb dL_law_467 (by decide) ?_
        refine lv_iadd hx hb dL_law_468 ?_
        refine va_sld hx hb hX hbl hbA hS (by rw [nI_add]; exact vp_in_nI (by omega) (by omega)) dL_law_469 ?_
        obtain ⟨r, M1, m2, y1, y2, hR1⟩ := S_readFrom (xs (nI i + nI 1).toNatClampNeg) M hR
        refine c_vi hx hb hml hown htb hK hw hS hlow (As := [.int (xs (nI i + nI 1).toNatClampNeg)]) (rest := []) (c_X5_readFrom hcv (M := M) y1) cf_X5_readFrom k_474 rfl rfl ⟨Nat.le_of_ble_eq_true rfl, Nat.le_of_ble_eq_true rfl⟩ (r_recv hK hw (v_mn (by decide)) E_mn rfl) rfl hl.1 rfl (Nat.le_of_ble_eq_true rfl) ⟨Nat.le_of_ble_eq_true rfl, Nat.le_of_ble_eq_true rfl⟩ dL_law_470 (fun H locs hw hS => ?_)
        refine lv_aload_n hx hb dL_law_473 rfl (lv_at hl 2 rfl) ?_
        refine lv_aload_n hx hb dL_law_474 rfl (lv_at hl 0 rfl) ?_
        refine lv_iload_n hx hb dL_law_475 rfl (lv_at hl 3 rfl) ?_
        refine lv_iconst (v := nI 1) hx hb dL_law_476 (by decide) ?_
        refine lv_iadd hx hb dL_law_477 ?_
        refine va_sld hx hb hX hbl hbA hS (by rw [nI_add]; exact vp_in_nI (by omega) (by omega)) dL_law_478 ?_
        refine c_vi hx hb hml hown htb hK hw hS hlow (As := [.int (xs (nI i + nI 1).toNatClampNeg)]) (rest := [.int r]) (c_X6_readFrom hcv (M0 := M1) (m := M1 9) (hm := rfl) y2) cf_X6_readFrom k_811 rfl rfl ⟨Nat.le_of_ble_eq_true rfl, Nat.le_of_ble_eq_true rfl⟩ (r_recv hK hw (v_md (by decide)) E_md rfl) rfl hl.1 rfl (Nat.le_of_ble_eq_true rfl) ⟨Nat.le_of_ble_eq_true rfl, Nat.le_of_ble_eq_true rfl⟩ dL_law_479 (fun H locs hw hS => ?_)
        refine lv_icmp_eq (tgt := 755) hx hb dL_law_482 (by decide) (fun q => ?_) (fun q => absurd rfl q)
        exact tail (gs M1 9 m2) hR1 H locs hw hS ls hl
      by_cases q13 : z = nI 13
      · refine lv_tableIn (off := 455) (tgt := 487) hx hb dL_law_32 (by rw [q13]; decide) (by rw [q13]; decide) (by rw [q13]; rfl) (by decide) ?_
        refine lv_aload_n hx hb dL_law_487 rfl (lv_at hl 1 rfl) ?_
        refine lv_aload_n hx hb dL_law_488 rfl (lv_at hl 0 rfl) ?_
        refine lv_iload_n hx hb dL_law_489 rfl (lv_at hl 3 rfl) ?_
        refine lv_iconst (v := nI 1) hx hb dL_law_490 (by decide) ?_
        refine lv_iadd hx hb dL_law_491 ?_
        refine va_sld hx hb hX hbl hbA hS (by rw [nI_add]; exact vp_in_nI (by omega) (by omega)) dL_law_492 ?_
        refine lv_i2c (v := ((xs (nI i + nI 1).toNatClampNeg).toUInt32 % 65536).toInt32) hx hb dL_law_493 rfl ?_
        obtain ⟨r, M1, m2, y1, y2, hR1⟩ := S_type (((xs (nI i + nI 1).toNatClampNeg).toUInt32 % 65536).toInt32) M hR
        refine c_vi hx hb hml hown htb hK hw hS hlow (As := [.int (((xs (nI i + nI 1).toNatClampNeg).toUInt32 % 65536).toInt32)]) (rest := []) (c_X5_type hcv (M := M) y1) cf_X5_type k_480 rfl rfl ⟨Nat.le_of_ble_eq_true rfl, Nat.le_of_ble_eq_true rfl⟩ (r_recv hK hw (v_mn (by decide)) E_mn rfl) rfl hl.1 rfl (Nat.le_of_ble_eq_true rfl) ⟨Nat.le_of_ble_eq_true rfl, Nat.le_of_ble_eq_true rfl⟩ dL_law_494 (fun H locs hw hS => ?_)
        refine lv_aload_n hx hb dL_law_497 rfl (lv_at hl 2 rfl) ?_
        refine lv_aload_n hx hb dL_law_498 rfl (lv_at hl 0 rfl) ?_
        refine lv_iload_n hx hb dL_law_499 rfl (lv_at hl 3 rfl) ?_
        refine lv_iconst (v := nI 1) hx hb dL_law_500 (by decide) ?_
        refine lv_iadd hx hb dL_law_501 ?_
        refine va_sld hx hb hX hbl hbA hS (by rw [nI_add]; exact vp_in_nI (by omega) (by omega)) dL_law_502 ?_
        refine lv_i2c (v := ((xs (nI i + nI 1).toNatClampNeg).toUInt32 % 65536).toInt32) hx hb dL_law_503 rfl ?_
        refine c_vi hx hb hml hown htb hK hw hS hlow (As := [.int (((xs (nI i + nI 1).toNatClampNeg).toUInt32 % 65536).toInt32)]) (rest := [.int r]) (c_X6_type hcv (M0 := M1) (m := M1 9) (hm := rfl) y2) cf_X6_type k_623 rfl rfl ⟨Nat.le_of_ble_eq_true rfl, Nat.le_of_ble_eq_true rfl⟩ (r_recv hK hw (v_md (by decide)) E_md rfl) rfl hl.1 rfl (Nat.le_of_ble_eq_true rfl) ⟨Nat.le_of_ble_eq_true rfl, Nat.le_of_ble_eq_true rfl⟩ dL_law_504 (fun H locs hw hS => ?_)
        refine lv_icmp_eq (tgt := 755) hx hb dL_law_507 (by decide) (fun q => ?_) (fun q => absurd rfl q)
        exact tail (gs M1 9 m2) hR1 H locs hw hS ls hl
      by_cases q14 : z = nI 14
      · refine lv_tableIn (off := 480) (tgt := 512) hx hb dL_law_32 (by rw [q14]; decide) (by rw [q14]; decide) (by rw [q14]; rfl) (by decide) ?_
        refine lv_aload_n hx hb dL_law_512 rfl (lv_at hl 1 rfl) ?_
        obtain ⟨r, M1, m2, y1, y2, hR1⟩ := S_clearText  M hR
        refine c_vi hx hb hml hown htb hK hw hS hlow (As := []) (rest := []) (c_X5_clearText hcv (M := M) y1) cf_X5_clearText k_488 rfl rfl ⟨Nat.le_of_ble_eq_true rfl, Nat.le_of_ble_eq_true rfl⟩ (r_recv hK hw (v_mn (by decide)) E_mn rfl) rfl hl.1 rfl (Nat.le_of_ble_eq_true rfl) ⟨Nat.le_of_ble_eq_true rfl, Nat.le_of_ble_eq_true rfl⟩ dL_law_513 (fun H locs hw hS => ?_)
        refine lv_aload_n hx hb dL_law_516 rfl (lv_at hl 2 rfl) ?_
        refine c_vi hx hb hml hown htb hK hw hS hlow (As := []) (rest := [.int r]) (c_X6_clearText hcv (M0 := M1) (m := M1 9) (hm := rfl) y2) cf_X6_clearText k_627 rfl rfl ⟨Nat.le_of_ble_eq_true rfl, Nat.le_of_ble_eq_true rfl⟩ (r_recv hK hw (v_md (by decide)) E_md rfl) rfl hl.1 rfl (Nat.le_of_ble_eq_true rfl) ⟨Nat.le_of_ble_eq_true rfl, Nat.le_of_ble_eq_true rfl⟩ dL_law_517 (fun H locs hw hS => ?_)
        refine lv_icmp_eq (tgt := 755) hx hb dL_law_520 (by decide) (fun q => ?_) (fun q => absurd rfl q)
        exact tail (gs M1 9 m2) hR1 H locs hw hS ls hl
      by_cases q15 : z = nI 15
      · refine lv_tableIn (off := 493) (tgt := 525) hx hb dL_law_32 (by rw [q15]; decide) (by rw [q15]; decide) (by rw [q15]; rfl) (by decide) ?_
        refine lv_aload_n hx hb dL_law_525 rfl (lv_at hl 1 rfl) ?_
        obtain ⟨r, M1, m2, y1, y2, hR1⟩ := S_undo  M hR
        refine c_vi hx hb hml hown htb hK hw hS hlow (As := []) (rest := []) (c_X5_undo hcv (M := M) y1) cf_X5_undo k_492 rfl rfl ⟨Nat.le_of_ble_eq_true rfl, Nat.le_of_ble_eq_true rfl⟩ (r_recv hK hw (v_mn (by decide)) E_mn rfl) rfl hl.1 rfl (Nat.le_of_ble_eq_true rfl) ⟨Nat.le_of_ble_eq_true rfl, Nat.le_of_ble_eq_true rfl⟩ dL_law_526 (fun H locs hw hS => ?_)
        refine lv_aload_n hx hb dL_law_529 rfl (lv_at hl 2 rfl) ?_
        refine c_vi hx hb hml hown htb hK hw hS hlow (As := []) (rest := [.int r]) (c_X6_undo hcv (M0 := M1) (m := M1 9) (hm := rfl) y2) cf_X6_undo k_599 rfl rfl ⟨Nat.le_of_ble_eq_true rfl, Nat.le_of_ble_eq_true rfl⟩ (r_recv hK hw (v_md (by decide)) E_md rfl) rfl hl.1 rfl (Nat.le_of_ble_eq_true rfl) ⟨Nat.le_of_ble_eq_true rfl, Nat.le_of_ble_eq_true rfl⟩ dL_law_530 (fun H locs hw hS => ?_)
        refine lv_icmp_eq (tgt := 755) hx hb dL_law_533 (by decide) (fun q => ?_) (fun q => absurd rfl q)
        exact tail (gs M1 9 m2) hR1 H locs hw hS ls hl
      by_cases q16 : z = nI 16
      · refine lv_tableIn (off := 506) (tgt := 538) hx hb dL_law_32 (by rw [q16]; decide) (by rw [q16]; decide) (by rw [q16]; rfl) (by decide) ?_
        refine lv_aload_n hx hb dL_law_538 rfl (lv_at hl 1 rfl) ?_
        obtain ⟨r, M1, m2, y1, y2, hR1⟩ := S_keep  M hR
        refine c_vi hx hb hml hown htb hK hw hS hlow (As := []) (rest := []) (c_X5_keep hcv (M := M) y1) cf_X5_keep k_500 rfl rfl ⟨Nat.le_of_ble_eq_true rfl, Nat.le_of_ble_eq_true rfl⟩ (r_recv hK hw (v_mn (by decide)) E_mn rfl) rfl hl.1 rfl (Nat.le_of_ble_eq_true rfl) ⟨Nat.le_of_ble_eq_true rfl, Nat.le_of_ble_eq_true rfl⟩ dL_law_539 (fun H locs hw hS => ?_)
        refine lv_aload_n hx hb dL_law_542 rfl (lv_at hl 2 rfl) ?_
        refine c_vi hx hb hml hown htb hK hw hS hlow (As := []) (rest := [.int r]) (c_X6_keep hcv (M0 := M1) (m := M1 9) (hm := rfl) y2) cf_X6_keep k_603 rfl rfl ⟨Nat.le_of_ble_eq_true rfl, Nat.le_of_ble_eq_true rfl⟩ (r_recv hK hw (v_md (by decide)) E_md rfl) rfl hl.1 rfl (Nat.le_of_ble_eq_true rfl) ⟨Nat.le_of_ble_eq_true rfl, Nat.le_of_ble_eq_true rfl⟩ dL_law_543 (fun H locs hw hS => ?_)
        refine lv_icmp_eq (tgt := 755) hx hb dL_law_546 (by decide) (fun q => ?_) (fun q => absurd rfl q)
        exact tail (gs M1 9 m2) hR1 H locs hw hS ls hl
      by_cases q17 : z = nI 17
      · refine lv_tableIn (off := 519) (tgt := 551) hx hb dL_law_32 (by rw [q17]; decide) (by rw [q17]; decide) (by rw [q17]; rfl) (by decide) ?_
        refine lv_aload_n hx hb dL_law_551 rfl (lv_at hl 1 rfl) ?_
        obtain ⟨r, M1, m2, y1, y2, hR1⟩ := S_restore  M hR
        refine c_vi hx hb hml hown htb hK hw hS hlow (As := []) (rest := []) (c_X5_restore hcv (M := M) y1) cf_X5_restore k_505 rfl rfl ⟨Nat.le_of_ble_eq_true rfl, Nat.le_of_ble_eq_true rfl⟩ (r_recv hK hw (v_mn (by decide)) E_mn rfl) rfl hl.1 rfl (Nat.le_of_ble_eq_true rfl) ⟨Nat.le_of_ble_eq_true rfl, Nat.le_of_ble_eq_true rfl⟩ dL_law_552 (fun H locs hw hS => ?_)
        refine lv_aload_n hx hb dL_law_555 rfl (lv_at hl 2 rfl) ?_
        refine c_vi hx hb hml hown htb hK hw hS hlow (As := []) (rest := [.int r]) (c_X6_restore hcv (M0 := M1) (m := M1 9) (hm := rfl) y2) cf_X6_restore k_615 rfl rfl ⟨Nat.le_of_ble_eq_true rfl, Nat.le_of_ble_eq_true rfl⟩ (r_recv hK hw (v_md (by decide)) E_md rfl) rfl hl.1 rfl (Nat.le_of_ble_eq_true rfl) ⟨Nat.le_of_ble_eq_true rfl, Nat.le_of_ble_eq_true rfl⟩ dL_law_556 (fun H locs hw hS => ?_)
        refine lv_icmp_eq (tgt := 755) hx hb dL_law_559 (by decide) (fun q => ?_) (fun q => absurd rfl q)
        exact tail (gs M1 9 m2) hR1 H locs hw hS ls hl
      by_cases q18 : z = nI 18
      · refine lv_tableIn (off := 532) (tgt := 564) hx hb dL_law_32 (by rw [q18]; decide) (by rw [q18]; decide) (by rw [q18]; rfl) (by decide) ?_
        refine lv_aload_n hx hb dL_law_564 rfl (lv_at hl 1 rfl) ?_
        refine lv_aload_n hx hb dL_law_565 rfl (lv_at hl 0 rfl) ?_
        refine lv_iload_n hx hb dL_law_566 rfl (lv_at hl 3 rfl) ?_
        refine lv_iconst (v := nI 1) hx hb dL_law_567 (by decide) ?_
        refine lv_iadd hx hb dL_law_568 ?_
        refine va_sld hx hb hX hbl hbA hS (by rw [nI_add]; exact vp_in_nI (by omega) (by omega)) dL_law_569 ?_
        refine lv_aload_n hx hb dL_law_570 rfl (lv_at hl 0 rfl) ?_
        refine lv_iload_n hx hb dL_law_571 rfl (lv_at hl 3 rfl) ?_
        refine lv_iconst (v := nI 2) hx hb dL_law_572 (by decide) ?_
        refine lv_iadd hx hb dL_law_573 ?_
        refine va_sld hx hb hX hbl hbA hS (by rw [nI_add]; exact vp_in_nI (by omega) (by omega)) dL_law_574 ?_
        obtain ⟨r, M1, m2, y1, y2, hR1⟩ := S_block (xs (nI i + nI 1).toNatClampNeg) (xs (nI i + nI 2).toNatClampNeg) M hR
        obtain ⟨z1, e1⟩ := t_pu y1
        subst e1
        refine c_vi hx hb hml hown htb hK hw hS hlow (As := [.int (xs (nI i + nI 1).toNatClampNeg), .int (xs (nI i + nI 2).toNatClampNeg)]) (rest := []) (c_X5_block hcv (M := M) z1) cf_X5_block k_509 rfl rfl ⟨Nat.le_of_ble_eq_true rfl, Nat.le_of_ble_eq_true rfl⟩ (r_recv hK hw (v_mn (by decide)) E_mn rfl) rfl hl.1 rfl (Nat.le_of_ble_eq_true rfl) ⟨Nat.le_of_ble_eq_true rfl, Nat.le_of_ble_eq_true rfl⟩ dL_law_575 (fun H locs hw hS => ?_)
        refine lv_aload_n hx hb dL_law_578 rfl (lv_at hl 2 rfl) ?_
        refine lv_aload_n hx hb dL_law_579 rfl (lv_at hl 0 rfl) ?_
        refine lv_iload_n hx hb dL_law_580 rfl (lv_at hl 3 rfl) ?_
        refine lv_iconst (v := nI 1) hx hb dL_law_581 (by decide) ?_
        refine lv_iadd hx hb dL_law_582 ?_
        refine va_sld hx hb hX hbl hbA hS (by rw [nI_add]; exact vp_in_nI (by omega) (by omega)) dL_law_583 ?_
        refine lv_aload_n hx hb dL_law_584 rfl (lv_at hl 0 rfl) ?_
        refine lv_iload_n hx hb dL_law_585 rfl (lv_at hl 3 rfl) ?_
        refine lv_iconst (v := nI 2) hx hb dL_law_586 (by decide) ?_
        refine lv_iadd hx hb dL_law_587 ?_
        refine va_sld hx hb hX hbl hbA hS (by rw [nI_add]; exact vp_in_nI (by omega) (by omega)) dL_law_588 ?_
        refine c_vi hx hb hml hown htb hK hw hS hlow (As := [.int (xs (nI i + nI 1).toNatClampNeg), .int (xs (nI i + nI 2).toNatClampNeg)]) (rest := [.int r]) (c_X6_block hcv (M0 := M) (m := M 9) (hm := rfl) y2) cf_X6_block k_815 rfl rfl ⟨Nat.le_of_ble_eq_true rfl, Nat.le_of_ble_eq_true rfl⟩ (r_recv hK hw (v_md (by decide)) E_md rfl) rfl hl.1 rfl (Nat.le_of_ble_eq_true rfl) ⟨Nat.le_of_ble_eq_true rfl, Nat.le_of_ble_eq_true rfl⟩ dL_law_589 (fun H locs hw hS => ?_)
        refine lv_icmp_eq (tgt := 755) hx hb dL_law_592 (by decide) (fun q => ?_) (fun q => absurd rfl q)
        exact tail (gs M 9 m2) hR1 H locs hw hS ls hl
      by_cases q19 : z = nI 19
      · refine lv_tableIn (off := 565) (tgt := 597) hx hb dL_law_32 (by rw [q19]; decide) (by rw [q19]; decide) (by rw [q19]; rfl) (by decide) ?_
        refine lv_aload_n hx hb dL_law_597 rfl (lv_at hl 1 rfl) ?_
        refine lv_aload_n hx hb dL_law_598 rfl (lv_at hl 0 rfl) ?_
        refine lv_iload_n hx hb dL_law_599 rfl (lv_at hl 3 rfl) ?_
        refine lv_iconst (v := nI 1) hx hb dL_law_600 (by decide) ?_
        refine lv_iadd hx hb dL_law_601 ?_
        refine va_sld hx hb hX hbl hbA hS (by rw [nI_add]; exact vp_in_nI (by omega) (by omega)) dL_law_602 ?_
        refine lv_aload_n hx hb dL_law_603 rfl (lv_at hl 0 rfl) ?_
        refine lv_iload_n hx hb dL_law_604 rfl (lv_at hl 3 rfl) ?_
        refine lv_iconst (v := nI 2) hx hb dL_law_605 (by decide) ?_
        refine lv_iadd hx hb dL_law_606 ?_
        refine va_sld hx hb hX hbl hbA hS (by rw [nI_add]; exact vp_in_nI (by omega) (by omega)) dL_law_607 ?_
        obtain ⟨r, M1, m2, y1, y2, hR1⟩ := S_value (xs (nI i + nI 1).toNatClampNeg) (xs (nI i + nI 2).toNatClampNeg) M hR
        obtain ⟨z1, e1⟩ := t_pu y1
        subst e1
        obtain ⟨z2, e2⟩ := t_pu y2
        subst e2
        refine c_vi hx hb hml hown htb hK hw hS hlow (As := [.int (xs (nI i + nI 1).toNatClampNeg), .int (xs (nI i + nI 2).toNatClampNeg)]) (rest := []) (c_X5_value hcv (M := M) z1) cf_X5_value k_514 rfl rfl ⟨Nat.le_of_ble_eq_true rfl, Nat.le_of_ble_eq_true rfl⟩ (r_recv hK hw (v_mn (by decide)) E_mn rfl) rfl hl.1 rfl (Nat.le_of_ble_eq_true rfl) ⟨Nat.le_of_ble_eq_true rfl, Nat.le_of_ble_eq_true rfl⟩ dL_law_608 (fun H locs hw hS => ?_)
        refine lv_aload_n hx hb dL_law_611 rfl (lv_at hl 2 rfl) ?_
        refine lv_aload_n hx hb dL_law_612 rfl (lv_at hl 0 rfl) ?_
        refine lv_iload_n hx hb dL_law_613 rfl (lv_at hl 3 rfl) ?_
        refine lv_iconst (v := nI 1) hx hb dL_law_614 (by decide) ?_
        refine lv_iadd hx hb dL_law_615 ?_
        refine va_sld hx hb hX hbl hbA hS (by rw [nI_add]; exact vp_in_nI (by omega) (by omega)) dL_law_616 ?_
        refine lv_aload_n hx hb dL_law_617 rfl (lv_at hl 0 rfl) ?_
        refine lv_iload_n hx hb dL_law_618 rfl (lv_at hl 3 rfl) ?_
        refine lv_iconst (v := nI 2) hx hb dL_law_619 (by decide) ?_
        refine lv_iadd hx hb dL_law_620 ?_
        refine va_sld hx hb hX hbl hbA hS (by rw [nI_add]; exact vp_in_nI (by omega) (by omega)) dL_law_621 ?_
        refine c_vi hx hb hml hown htb hK hw hS hlow (As := [.int (xs (nI i + nI 1).toNatClampNeg), .int (xs (nI i + nI 2).toNatClampNeg)]) (rest := [.int r]) (c_X6_value hcv (M0 := M) (m := M 9) (hm := rfl) z2) cf_X6_value k_819 rfl rfl ⟨Nat.le_of_ble_eq_true rfl, Nat.le_of_ble_eq_true rfl⟩ (r_recv hK hw (v_md (by decide)) E_md rfl) rfl hl.1 rfl (Nat.le_of_ble_eq_true rfl) ⟨Nat.le_of_ble_eq_true rfl, Nat.le_of_ble_eq_true rfl⟩ dL_law_622 (fun H locs hw hS => ?_)
        refine lv_icmp_eq (tgt := 755) hx hb dL_law_625 (by decide) (fun q => ?_) (fun q => absurd rfl q)
        rw [gs_self] at hR1
        exact tail M hR1 H locs hw hS ls hl
      by_cases q20 : z = nI 20
      · refine lv_tableIn (off := 598) (tgt := 630) hx hb dL_law_32 (by rw [q20]; decide) (by rw [q20]; decide) (by rw [q20]; rfl) (by decide) ?_
        refine lv_aload_n hx hb dL_law_630 rfl (lv_at hl 1 rfl) ?_
        refine lv_aload_n hx hb dL_law_631 rfl (lv_at hl 0 rfl) ?_
        refine lv_iload_n hx hb dL_law_632 rfl (lv_at hl 3 rfl) ?_
        refine lv_iconst (v := nI 1) hx hb dL_law_633 (by decide) ?_
        refine lv_iadd hx hb dL_law_634 ?_
        refine va_sld hx hb hX hbl hbA hS (by rw [nI_add]; exact vp_in_nI (by omega) (by omega)) dL_law_635 ?_
        refine lv_aload_n hx hb dL_law_636 rfl (lv_at hl 0 rfl) ?_
        refine lv_iload_n hx hb dL_law_637 rfl (lv_at hl 3 rfl) ?_
        refine lv_iconst (v := nI 2) hx hb dL_law_638 (by decide) ?_
        refine lv_iadd hx hb dL_law_639 ?_
        refine va_sld hx hb hX hbl hbA hS (by rw [nI_add]; exact vp_in_nI (by omega) (by omega)) dL_law_640 ?_
        obtain ⟨r, M1, m2, y1, y2, hR1⟩ := S_question (xs (nI i + nI 1).toNatClampNeg) (xs (nI i + nI 2).toNatClampNeg) M hR
        obtain ⟨z1, e1⟩ := t_pu y1
        subst e1
        refine c_vi hx hb hml hown htb hK hw hS hlow (As := [.int (xs (nI i + nI 1).toNatClampNeg), .int (xs (nI i + nI 2).toNatClampNeg)]) (rest := []) (c_X5_question hcv (M := M) z1) cf_X5_question k_518 rfl rfl ⟨Nat.le_of_ble_eq_true rfl, Nat.le_of_ble_eq_true rfl⟩ (r_recv hK hw (v_mn (by decide)) E_mn rfl) rfl hl.1 rfl (Nat.le_of_ble_eq_true rfl) ⟨Nat.le_of_ble_eq_true rfl, Nat.le_of_ble_eq_true rfl⟩ dL_law_641 (fun H locs hw hS => ?_)
        refine lv_aload_n hx hb dL_law_644 rfl (lv_at hl 2 rfl) ?_
        refine lv_aload_n hx hb dL_law_645 rfl (lv_at hl 0 rfl) ?_
        refine lv_iload_n hx hb dL_law_646 rfl (lv_at hl 3 rfl) ?_
        refine lv_iconst (v := nI 1) hx hb dL_law_647 (by decide) ?_
        refine lv_iadd hx hb dL_law_648 ?_
        refine va_sld hx hb hX hbl hbA hS (by rw [nI_add]; exact vp_in_nI (by omega) (by omega)) dL_law_649 ?_
        refine lv_aload_n hx hb dL_law_650 rfl (lv_at hl 0 rfl) ?_
        refine lv_iload_n hx hb dL_law_651 rfl (lv_at hl 3 rfl) ?_
        refine lv_iconst (v := nI 2) hx hb dL_law_652 (by decide) ?_
        refine lv_iadd hx hb dL_law_653 ?_
        refine va_sld hx hb hX hbl hbA hS (by rw [nI_add]; exact vp_in_nI (by omega) (by omega)) dL_law_654 ?_
        refine c_vi hx hb hml hown htb hK hw hS hlow (As := [.int (xs (nI i + nI 1).toNatClampNeg), .int (xs (nI i + nI 2).toNatClampNeg)]) (rest := [.int r]) (c_X6_question hcv (M0 := M) (m := M 9) (hm := rfl) y2) cf_X6_question k_823 rfl rfl ⟨Nat.le_of_ble_eq_true rfl, Nat.le_of_ble_eq_true rfl⟩ (r_recv hK hw (v_md (by decide)) E_md rfl) rfl hl.1 rfl (Nat.le_of_ble_eq_true rfl) ⟨Nat.le_of_ble_eq_true rfl, Nat.le_of_ble_eq_true rfl⟩ dL_law_655 (fun H locs hw hS => ?_)
        refine lv_icmp_eq (tgt := 755) hx hb dL_law_658 (by decide) (fun q => ?_) (fun q => absurd rfl q)
        exact tail (gs M 9 m2) hR1 H locs hw hS ls hl
      by_cases q21 : z = nI 21
      · refine lv_tableIn (off := 631) (tgt := 663) hx hb dL_law_32 (by rw [q21]; decide) (by rw [q21]; decide) (by rw [q21]; rfl) (by decide) ?_
        refine lv_aload_n hx hb dL_law_663 rfl (lv_at hl 1 rfl) ?_
        refine lv_aload_n hx hb dL_law_664 rfl (lv_at hl 0 rfl) ?_
        refine lv_iload_n hx hb dL_law_665 rfl (lv_at hl 3 rfl) ?_
        refine lv_iconst (v := nI 1) hx hb dL_law_666 (by decide) ?_
        refine lv_iadd hx hb dL_law_667 ?_
        refine va_sld hx hb hX hbl hbA hS (by rw [nI_add]; exact vp_in_nI (by omega) (by omega)) dL_law_668 ?_
        obtain ⟨r, M1, m2, y1, y2, hR1⟩ := S_next (xs (nI i + nI 1).toNatClampNeg) M hR
        obtain ⟨z1, e1⟩ := t_pu y1
        subst e1
        refine c_vi hx hb hml hown htb hK hw hS hlow (As := [.int (xs (nI i + nI 1).toNatClampNeg)]) (rest := []) (c_X5_next hcv (M := M) z1) cf_X5_next k_522 rfl rfl ⟨Nat.le_of_ble_eq_true rfl, Nat.le_of_ble_eq_true rfl⟩ (r_recv hK hw (v_mn (by decide)) E_mn rfl) rfl hl.1 rfl (Nat.le_of_ble_eq_true rfl) ⟨Nat.le_of_ble_eq_true rfl, Nat.le_of_ble_eq_true rfl⟩ dL_law_669 (fun H locs hw hS => ?_)
        refine lv_aload_n hx hb dL_law_672 rfl (lv_at hl 2 rfl) ?_
        refine lv_aload_n hx hb dL_law_673 rfl (lv_at hl 0 rfl) ?_
        refine lv_iload_n hx hb dL_law_674 rfl (lv_at hl 3 rfl) ?_
        refine lv_iconst (v := nI 1) hx hb dL_law_675 (by decide) ?_
        refine lv_iadd hx hb dL_law_676 ?_
        refine va_sld hx hb hX hbl hbA hS (by rw [nI_add]; exact vp_in_nI (by omega) (by omega)) dL_law_677 ?_
        refine c_vi hx hb hml hown htb hK hw hS hlow (As := [.int (xs (nI i + nI 1).toNatClampNeg)]) (rest := [.int r]) (c_X6_next hcv (M0 := M) (m := M 9) (hm := rfl) y2) cf_X6_next k_827 rfl rfl ⟨Nat.le_of_ble_eq_true rfl, Nat.le_of_ble_eq_true rfl⟩ (r_recv hK hw (v_md (by decide)) E_md rfl) rfl hl.1 rfl (Nat.le_of_ble_eq_true rfl) ⟨Nat.le_of_ble_eq_true rfl, Nat.le_of_ble_eq_true rfl⟩ dL_law_678 (fun H locs hw hS => ?_)
        refine lv_icmp_eq (tgt := 755) hx hb dL_law_681 (by decide) (fun q => ?_) (fun q => absurd rfl q)
        exact tail (gs M 9 m2) hR1 H locs hw hS ls hl
      by_cases q22 : z = nI 22
      · refine lv_tableIn (off := 654) (tgt := 686) hx hb dL_law_32 (by rw [q22]; decide) (by rw [q22]; decide) (by rw [q22]; rfl) (by decide) ?_
        refine lv_aload_n hx hb dL_law_686 rfl (lv_at hl 1 rfl) ?_
        refine lv_aload_n hx hb dL_law_687 rfl (lv_at hl 0 rfl) ?_
        refine lv_iload_n hx hb dL_law_688 rfl (lv_at hl 3 rfl) ?_
        refine lv_iconst (v := nI 1) hx hb dL_law_689 (by decide) ?_
        refine lv_iadd hx hb dL_law_690 ?_
        refine va_sld hx hb hX hbl hbA hS (by rw [nI_add]; exact vp_in_nI (by omega) (by omega)) dL_law_691 ?_
        obtain ⟨r, M1, m2, y1, y2, hR1⟩ := S_stopsIn (xs (nI i + nI 1).toNatClampNeg) M hR
        refine c_vi hx hb hml hown htb hK hw hS hlow (As := [.int (xs (nI i + nI 1).toNatClampNeg)]) (rest := []) (c_X5_stopsIn hcv (M := M) y1) cf_X5_stopsIn k_526 rfl rfl ⟨Nat.le_of_ble_eq_true rfl, Nat.le_of_ble_eq_true rfl⟩ (r_recv hK hw (v_mn (by decide)) E_mn rfl) rfl hl.1 rfl (Nat.le_of_ble_eq_true rfl) ⟨Nat.le_of_ble_eq_true rfl, Nat.le_of_ble_eq_true rfl⟩ dL_law_692 (fun H locs hw hS => ?_)
        refine lv_aload_n hx hb dL_law_695 rfl (lv_at hl 2 rfl) ?_
        refine lv_aload_n hx hb dL_law_696 rfl (lv_at hl 0 rfl) ?_
        refine lv_iload_n hx hb dL_law_697 rfl (lv_at hl 3 rfl) ?_
        refine lv_iconst (v := nI 1) hx hb dL_law_698 (by decide) ?_
        refine lv_iadd hx hb dL_law_699 ?_
        refine va_sld hx hb hX hbl hbA hS (by rw [nI_add]; exact vp_in_nI (by omega) (by omega)) dL_law_700 ?_
        refine c_vi hx hb hml hown htb hK hw hS hlow (As := [.int (xs (nI i + nI 1).toNatClampNeg)]) (rest := [.int r]) (c_X6_stopsIn hcv (M0 := M1) (m := M1 9) (hm := rfl) y2) cf_X6_stopsIn k_831 rfl rfl ⟨Nat.le_of_ble_eq_true rfl, Nat.le_of_ble_eq_true rfl⟩ (r_recv hK hw (v_md (by decide)) E_md rfl) rfl hl.1 rfl (Nat.le_of_ble_eq_true rfl) ⟨Nat.le_of_ble_eq_true rfl, Nat.le_of_ble_eq_true rfl⟩ dL_law_701 (fun H locs hw hS => ?_)
        refine lv_icmp_eq (tgt := 755) hx hb dL_law_704 (by decide) (fun q => ?_) (fun q => absurd rfl q)
        exact tail (gs M1 9 m2) hR1 H locs hw hS ls hl
      by_cases q23 : z = nI 23
      · refine lv_tableIn (off := 677) (tgt := 709) hx hb dL_law_32 (by rw [q23]; decide) (by rw [q23]; decide) (by rw [q23]; rfl) (by decide) ?_
        refine lv_aload_n hx hb dL_law_709 rfl (lv_at hl 1 rfl) ?_
        refine lv_aload_n hx hb dL_law_710 rfl (lv_at hl 0 rfl) ?_
        refine lv_iload_n hx hb dL_law_711 rfl (lv_at hl 3 rfl) ?_
        refine lv_iconst (v := nI 1) hx hb dL_law_712 (by decide) ?_
        refine lv_iadd hx hb dL_law_713 ?_
        refine va_sld hx hb hX hbl hbA hS (by rw [nI_add]; exact vp_in_nI (by omega) (by omega)) dL_law_714 ?_
        obtain ⟨r, M1, m2, y1, y2, hR1⟩ := S_best (xs (nI i + nI 1).toNatClampNeg) M hR
        refine c_vi hx hb hml hown htb hK hw hS hlow (As := [.int (xs (nI i + nI 1).toNatClampNeg)]) (rest := []) (c_X5_best hcv (M := M) y1) cf_X5_best k_530 rfl rfl ⟨Nat.le_of_ble_eq_true rfl, Nat.le_of_ble_eq_true rfl⟩ (r_recv hK hw (v_mn (by decide)) E_mn rfl) rfl hl.1 rfl (Nat.le_of_ble_eq_true rfl) ⟨Nat.le_of_ble_eq_true rfl, Nat.le_of_ble_eq_true rfl⟩ dL_law_715 (fun H locs hw hS => ?_)
        refine lv_aload_n hx hb dL_law_718 rfl (lv_at hl 2 rfl) ?_
        refine lv_aload_n hx hb dL_law_719 rfl (lv_at hl 0 rfl) ?_
        refine lv_iload_n hx hb dL_law_720 rfl (lv_at hl 3 rfl) ?_
        refine lv_iconst (v := nI 1) hx hb dL_law_721 (by decide) ?_
        refine lv_iadd hx hb dL_law_722 ?_
        refine va_sld hx hb hX hbl hbA hS (by rw [nI_add]; exact vp_in_nI (by omega) (by omega)) dL_law_723 ?_
        refine c_vi hx hb hml hown htb hK hw hS hlow (As := [.int (xs (nI i + nI 1).toNatClampNeg)]) (rest := [.int r]) (c_X6_best hcv (M0 := M1) (m := M1 9) (hm := rfl) y2) cf_X6_best k_843 rfl rfl ⟨Nat.le_of_ble_eq_true rfl, Nat.le_of_ble_eq_true rfl⟩ (r_recv hK hw (v_md (by decide)) E_md rfl) rfl hl.1 rfl (Nat.le_of_ble_eq_true rfl) ⟨Nat.le_of_ble_eq_true rfl, Nat.le_of_ble_eq_true rfl⟩ dL_law_724 (fun H locs hw hS => ?_)
        refine lv_icmp_eq (tgt := 755) hx hb dL_law_727 (by decide) (fun q => ?_) (fun q => absurd rfl q)
        exact tail (gs M1 9 m2) hR1 H locs hw hS ls hl
      by_cases q24 : z = nI 24
      · refine lv_tableIn (off := 700) (tgt := 732) hx hb dL_law_32 (by rw [q24]; decide) (by rw [q24]; decide) (by rw [q24]; rfl) (by decide) ?_
        refine lv_aload_n hx hb dL_law_732 rfl (lv_at hl 1 rfl) ?_
        refine lv_aload_n hx hb dL_law_733 rfl (lv_at hl 0 rfl) ?_
        refine lv_iload_n hx hb dL_law_734 rfl (lv_at hl 3 rfl) ?_
        refine lv_iconst (v := nI 1) hx hb dL_law_735 (by decide) ?_
        refine lv_iadd hx hb dL_law_736 ?_
        refine va_sld hx hb hX hbl hbA hS (by rw [nI_add]; exact vp_in_nI (by omega) (by omega)) dL_law_737 ?_
        obtain ⟨r, M1, m2, y1, y2, hR1⟩ := S_count (xs (nI i + nI 1).toNatClampNeg) M hR
        obtain ⟨z1, e1⟩ := t_pu y1
        subst e1
        obtain ⟨z2, e2⟩ := t_pu y2
        subst e2
        refine c_vi hx hb hml hown htb hK hw hS hlow (As := [.int (xs (nI i + nI 1).toNatClampNeg)]) (rest := []) (c_X5_count hcv (M := M) z1) cf_X5_count k_534 rfl rfl ⟨Nat.le_of_ble_eq_true rfl, Nat.le_of_ble_eq_true rfl⟩ (r_recv hK hw (v_mn (by decide)) E_mn rfl) rfl hl.1 rfl (Nat.le_of_ble_eq_true rfl) ⟨Nat.le_of_ble_eq_true rfl, Nat.le_of_ble_eq_true rfl⟩ dL_law_738 (fun H locs hw hS => ?_)
        refine lv_aload_n hx hb dL_law_741 rfl (lv_at hl 2 rfl) ?_
        refine lv_aload_n hx hb dL_law_742 rfl (lv_at hl 0 rfl) ?_
        refine lv_iload_n hx hb dL_law_743 rfl (lv_at hl 3 rfl) ?_
        refine lv_iconst (v := nI 1) hx hb dL_law_744 (by decide) ?_
        refine lv_iadd hx hb dL_law_745 ?_
        refine va_sld hx hb hX hbl hbA hS (by rw [nI_add]; exact vp_in_nI (by omega) (by omega)) dL_law_746 ?_
        refine c_vi hx hb hml hown htb hK hw hS hlow (As := [.int (xs (nI i + nI 1).toNatClampNeg)]) (rest := [.int r]) (c_X6_count hcv (M0 := M) (m := M 9) (hm := rfl) z2) cf_X6_count k_847 rfl rfl ⟨Nat.le_of_ble_eq_true rfl, Nat.le_of_ble_eq_true rfl⟩ (r_recv hK hw (v_md (by decide)) E_md rfl) rfl hl.1 rfl (Nat.le_of_ble_eq_true rfl) ⟨Nat.le_of_ble_eq_true rfl, Nat.le_of_ble_eq_true rfl⟩ dL_law_747 (fun H locs hw hS => ?_)
        refine lv_icmp_eq (tgt := 755) hx hb dL_law_750 (by decide) (fun q => ?_) (fun q => absurd rfl q)
        rw [gs_self] at hR1
        exact tail M hR1 H locs hw hS ls hl
      refine lv_tableOut (tgt := 755) hx hb dL_law_32 (tab_out (lo := 0) (n := 25) (by decide) (lt_s (lt_s (lt_s (lt_s (lt_s (lt_s (lt_s (lt_s (lt_s (lt_s (lt_s (lt_s (lt_s (lt_s (lt_s (lt_s (lt_s (lt_s (lt_s (lt_s (lt_s (lt_s (lt_s (lt_s (lt_s lt_0 q0) q1) q2) q3) q4) q5) q6) q7) q8) q9) q10) q11) q12) q13) q14) q15) q16) q17) q18) q19) q20) q21) q22) q23) q24)) (by decide) ?_
      exact tail M hR H locs hw hS ls hl
set_option maxHeartbeats 8000000 in
set_option maxRecDepth 100000 in
/-- THE LAW, from its entry -/
theorem whole_walk {p : Program} {e : Env} {s : State} {m : MethodId} {below : List Frame} {meth : Method} {c : Code} (l : Launch) {b L : Nat} {xs : Nat → Int32} (hL : L ≤ 2560) (C0 : lw_At p s m meth c b L xs) {Rel : MM → Prop} (hSt : Steps Rel) (h0 : Rel (fun _ _ _ => 0)) : W p l e room_1 s m #[Value.ref b] below meth c s.heap [] 0 0 (lw_Z below #[Value.ref b] s) (entryFrame m ([Value.ref b] : List Value).toArray 4) := by
  obtain ⟨hx, hb, hr, hml, hown, hts, hX, hbl, hlocks, hgv⟩ := id C0
  have htb : ∀ w ∈ TB, w.before #[Value.ref b] s = true := fun w h => hts w (TB_lw w h)
  obtain ⟨c0, iS0, hKn0⟩ := u_known (C := RX0) (T := TX0) (N := 9) (n := 9) hts (fun w h => TB_lw w (inX0 w h)) (htb _ k_68)
  obtain ⟨c1, iS1, hKn1⟩ := u_known (C := RX1) (T := TX1) (N := 8) (n := 8) hts (fun w h => TB_lw w (inX1 w h)) (htb _ k_19)
  obtain ⟨c2, iS2, hKn2⟩ := u_known (C := RX2) (T := TX2) (N := 3) (n := 3) hts (fun w h => TB_lw w (inX2 w h)) (htb _ k_187)
  obtain ⟨c3, iS3, hKn3⟩ := u_known (C := RX3) (T := TX3) (N := 8) (n := 8) hts (fun w h => TB_lw w (inX3 w h)) (htb _ k_116)
  obtain ⟨c4, iS4, hKn4⟩ := u_known (C := RX4) (T := TX4) (N := 6) (n := 6) hts (fun w h => TB_lw w (inX4 w h)) (htb _ k_59)
  obtain ⟨c5, iS5, hKn5⟩ := u_known (C := RX5) (T := TX5) (N := 6) (n := 6) hts (fun w h => TB_lw w (inX5 w h)) (htb _ k_11)
  obtain ⟨c6, iS6, hKn6⟩ := u_known (C := RX6) (T := TX6) (N := 18) (n := 18) hts (fun w h => TB_lw w (inX6 w h)) (htb _ k_539)
  obtain ⟨D, hKc⟩ : ∃ D : va_G, ∀ (k : Nat) (q : vw_C), vwCl[k]? = some q → u_Kn s q.1 q.2.1 q.2.2 (D.1 k) (D.2 k) := by
    refine ⟨(fun k => if k = 0 then c0 else if k = 1 then c1 else if k = 2 then c2 else if k = 3 then c3 else if k = 4 then c4 else if k = 5 then c5 else c6, fun k => if k = 0 then iS0 else if k = 1 then iS1 else if k = 2 then iS2 else if k = 3 then iS3 else if k = 4 then iS4 else if k = 5 then iS5 else iS6), ?_⟩
    intro k q hq
    match k, hq with
    | 0, hq => cases hq; exact hKn0
    | 1, hq => cases hq; exact hKn1
    | 2, hq => cases hq; exact hKn2
    | 3, hq => cases hq; exact hKn3
    | 4, hq => cases hq; exact hKn4
    | 5, hq => cases hq; exact hKn5
    | 6, hq => cases hq; exact hKn6
    | k + 7, hq => simp [vwCl] at hq
  have hpr : ∀ {ty : FieldType}, Cond.arrayClass ty ∈ TB → ∃ cA : ClassId, ArrOfT s cA ty ∧ s.vm.findClass ("[" ++ ty.toString) = some cA := by
    intro ty h
    obtain ⟨cA, kA, comp, h1, h2, h3⟩ := Cond.arrayClass_spec (htb _ h)
    exact ⟨cA, fun n z => ⟨(fun k h => by cases h), kA, h2, comp, h3⟩, h1⟩
  have hob : ∀ {C : String}, Cond.arrayOver (.object C) ∈ lw_tbl → ∃ cA : ClassId, ArrOfT s cA (.object C) ∧ va_RA s cA (.object C) := by
    intro C h
    obtain ⟨comp, cA, k, h1, h2, h3, h4, h5⟩ := Cond.arrayOver_spec (hts _ h)
    exact ⟨cA, fun n z => ⟨(fun k h => by cases h), k, h3, comp, h4⟩, k, comp, h3, h4, h1, h5⟩
  obtain ⟨a0, ha0, hn0⟩ := hpr k_57
  obtain ⟨a1, ha1, hn1⟩ := hpr k_56
  obtain ⟨a2, ha2, hn2⟩ := hob k_65
  obtain ⟨a3, ha3, hn3⟩ := hob k_67
  obtain ⟨a4, ha4, hn4⟩ := hob k_193
  obtain ⟨cy, hcy⟩ : ∃ cy : Nat → ClassId, cy 0 = a0 ∧ cy 1 = a1 ∧ cy 2 = a2 ∧ cy 3 = a3 ∧ cy 4 = a4 := ⟨fun k => if k = 0 then a0 else if k = 1 then a1 else if k = 2 then a2 else if k = 3 then a3 else a4, rfl, rfl, rfl, rfl, rfl⟩
  obtain ⟨rfl, rfl, rfl, rfl, rfl⟩ := hcy
  have hK : KC D cy s := by
    refine ⟨⟨⟨hKc, fun k q h => ?_⟩, fun w hw => ?_⟩, va_AO.of (hts _ k_65), va_AO.of (hts _ k_67), va_AO.of (hts _ k_193)⟩
    · match k, h with
      | 0, h => cases h; exact ⟨ha0, hn0⟩
      | 1, h => cases h; exact ⟨ha1, hn1⟩
      | 2, h => cases h; exact ⟨ha2, hn2⟩
      | 3, h => cases h; exact ⟨ha3, hn3⟩
      | 4, h => cases h; exact ⟨ha4, hn4⟩
      | k + 5, h => simp [tyl] at h
    · obtain ⟨x1, x2, x3, x4, rfl⟩ := NXL_nest w hw
      exact va_Nw.of rfl (hts _ (NXL_lw _ hw))
  have hl := lv_entry ([.ref b]) (n := 4) (Nat.le_of_ble_eq_true rfl)
  rw [lg_entry_eq]
  generalize (lg_sl ([.ref b]) ++ List.replicate (4 - (lg_sl ([.ref b])).length) Slot.unset).toArray = ls at hl ⊢
  have hl : lv_has ls 4 [(0, .ref b)] := hl
  have hS : va_S (fun q : Nat => s.heap.size ≤ q) s.heap s.heap [] := va_S.rf
  have hw : XW D (fun _ => none) s.heap := fun a e h => by cases h
  have hz : s.heap.size = s.heap.size := rfl
  generalize hHH : s.heap = H at hw
  generalize hsz : s.heap.size = o at hz
  have hS : va_S (fun q : Nat => s.heap.size ≤ q) s.heap H [] := by rw [← hHH]; exact hS
  have hz : H.size = o := by rw [← hHH]; exact hsz
  generalize ([] : List Loc) = locs at hS ⊢
  refine n_new hx hb htb hown hK hw hz hS (ci := 5) (fl := bl5) inX5 rfl tyX5 tyX5_ok k_10 k_11 k_1 hfs_5 (Nat.le_of_ble_eq_true rfl) (Nat.le_of_ble_eq_true rfl) dL_law_0 (fun H hw hz hS => ?_)
  refine lv_dup hx hb dL_law_3 rfl ?_
  refine n_cp hx hb hml hown htb hK hw hz hS (A1 := AN o (o + 1)) (fun q h => by show s.heap.size ≤ q; rcases h with h | h <;> omega) (c_X5_init fu_at) cfI_5 k_12 rfl rfl ⟨Nat.le_of_ble_eq_true rfl, Nat.le_of_ble_eq_true rfl⟩ hl.1 (Nat.le_of_ble_eq_true rfl) ⟨Nat.le_of_ble_eq_true rfl, Nat.le_of_ble_eq_true rfl⟩ dL_law_4 (fun H locs hw hz hS => ?_)
  refine lv_astore_n (lv' := [(1, .ref o), (0, .ref b)]) hx hb dL_law_7 rfl hl (by decide) rfl (fun ls hl => ?_)
  refine n_new hx hb htb hown hK hw hz hS (ci := 6) (fl := bl6) inX6 rfl tyX6 tyX6_ok k_538 k_539 k_7 hfs_6 (Nat.le_of_ble_eq_true rfl) (Nat.le_of_ble_eq_true rfl) dL_law_8 (fun H hw hz hS => ?_)
  refine lv_dup hx hb dL_law_11 rfl ?_
  refine n_cp hx hb hml hown htb hK hw hz hS (A1 := AN (o + 181) (o + 181 + 1)) (fun q h => by show s.heap.size ≤ q; rcases h with h | h <;> omega) (c_X6_init fu_at) cfI_6 k_540 rfl rfl ⟨Nat.le_of_ble_eq_true rfl, Nat.le_of_ble_eq_true rfl⟩ hl.1 (Nat.le_of_ble_eq_true rfl) ⟨Nat.le_of_ble_eq_true rfl, Nat.le_of_ble_eq_true rfl⟩ dL_law_12 (fun H locs hw hz hS => ?_)
  refine lv_astore_n (lv' := [(2, .ref (o + 181)), (1, .ref o), (0, .ref b)]) hx hb dL_law_15 rfl hl (by decide) rfl (fun ls hl => ?_)
  refine lv_iconst (v := nI 0) hx hb dL_law_16 (by decide) ?_
  refine lv_istore_n (lv' := [(3, .int (nI 0)), (2, .ref (o + 181)), (1, .ref o), (0, .ref b)]) hx hb dL_law_17 rfl hl (by decide) rfl (fun ls hl => ?_)
  have hW : WH D cy (adO o) (fun _ _ _ => 0) H := by
    refine wh_start (f := fun _ => none) (hw.sub (fun a e ha => ?_)) (hw.sub (fun a e ha => ?_))
    · by_cases h1 : o ≤ a ∧ a < o + 181
      · obtain ⟨d, rfl⟩ : ∃ d, a = o + d := ⟨a - o, by omega⟩
        rw [ov_out (by omega), fu_ne (by omega)]
        rw [ov_in (by omega)] at ha ⊢
        exact ha
      · rw [ov_out (by omega)] at ha
        cases ha
    · by_cases h1 : o + 181 ≤ a ∧ a < o + 181 + 9
      · obtain ⟨d, rfl⟩ : ∃ d, a = o + 181 + d := ⟨a - (o + 181), by omega⟩
        rw [ov_in (by omega)] at ha ⊢
        exact ha
      · rw [ov_out (by omega)] at ha
        cases ha
  have hlow : ∀ q, AD (adO o) q → s.heap.size ≤ q := fun q h => by
    obtain ⟨v, -, rfl⟩ := h
    show s.heap.size ≤ o + aoff v.1 v.2
    omega
  refine W.cs (cells' := 190) (slots' := 3658) rfl rfl ?_
  exact law_loop hL C0 CV_adO hlow hK.1 hSt (L + 1) 0 (Nat.zero_le _) (by omega) _ h0 H locs hW hS ls (lv_sub hl [3, 2, 1, 0] rfl)
