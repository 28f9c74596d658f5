theorem cf_X0_copyFrom : cfV RX0 yX0_copyFrom cX0_copyFrom 2 none 1 := ⟨⟨k_265, k_266, k_4, k_267⟩, by decide +kernel⟩
def f_X0_copyFrom (m : SM) (mz : SM) (i : Nat) (i2 : Nat) : Option (Int32 × SM) :=
  lt1 (sc m (11 + i) (va_cpy (mz (11 + i2)) (m (11 + i)) 0 0 16)) fun m2 => lt1 (up m2 (3 + i) 1 (mz (3 + i2) 1)) fun m4 => lt1 (up m4 (3 + i) 2 (mz (3 + i2) 2)) fun m6 => lt1 (up m6 (3 + i) 3 (mz (3 + i2) 3)) fun m8 => lt1 (up m8 (3 + i) 4 (mz (3 + i2) 4)) fun m10 => lt1 (up m10 (3 + i) 5 (mz (3 + i2) 5)) fun m12 => lt1 (up m12 (3 + i) 6 (mz (3 + i2) 6)) fun m14 => lt1 (up m14 (3 + i) 7 (mz (3 + i2) 7)) fun m16 => lt1 (up m16 (3 + i) 8 (mz (3 + i2) 8)) fun m18 => some (0, m18)
set_option maxHeartbeats 4000000 in
set_option maxRecDepth 100000 in
theorem c_X0_copyFrom {l : Launch} {D : va_G} {cy : Nat → ClassId} {ad : Nat → Nat → Nat} (hcv : CV ad) {g : Nat} (hg : g < 7) {g2 : Nat} (hg2 : g2 < 7) {i : Nat} (hi : i < 8) {i2 : Nat} (hi2 : i2 < 8) {M0 : MM} {m : SM} (hm : M0 g = m) (hne : g2 ≠ g) {mz : SM} (hm2 : M0 g2 = mz) {r : Int32} {x : SM} (h : f_X0_copyFrom m mz i i2 = some (r, x)) : Met l yX0_copyFrom (.code yX0_copyFrom cX0_copyFrom 2 none :: TB) ({ frames := 1, cells := 0, slots := 0, locals := 60 } : Room) (PW D cy ad M0 [.ref (ad g (3 + i)), .ref (ad g2 (3 + i2))]) (QV D cy ad (gs M0 g x)) 0 0 (AD ad) := by
  refine m_in (by decide +kernel) (Nat.le_of_ble_eq_true rfl) ?_
  intro p e s md args below meth c hC hw hS ls hl
  obtain ⟨hx, hb, hr, hml, hown, hts, hK, hlk⟩ := hC
  have hl : lv_has ls 2 [(0, .ref (ad g (3 + i))), (1, .ref (ad g2 (3 + i2)))] := hl
  rw [← gs_same hm] at hw
  unfold f_X0_copyFrom at h
  have main : JL p l e ({ frames := 1, cells := 0, slots := 0, locals := 60 } : Room) s md args below meth c D cy ad (MQ below (QV D cy ad (gs M0 g x)) args s 0 0 (AD ad)) (gs M0 g m) 2 [(0, .ref (ad g (3 + i))), (1, .ref (ad g2 (3 + i2)))] 0 [] := by
    intro H locs hw hS ls hl
    refine lv_aload_n hx hb dX0_copyFrom_0 rfl (lv_at hl 1 rfl) ?_
    refine r_get hx hb hts hown hK hw (v_bk hg2 hi2) (gs_nec hne hm2) (E_bk hg2 hi2) inX0 rfl 0 (by decide) k_73 rfl rfl dX0_copyFrom_1 ?_
    refine lv_iconst (v := nI 0) hx hb dX0_copyFrom_4 (by decide) ?_
    refine lv_aload_n hx hb dX0_copyFrom_5 rfl (lv_at hl 0 rfl) ?_
    refine r_get hx hb hts hown hK hw (v_bk hg hi) gs_atc (E_bk hg hi) inX0 rfl 0 (by decide) k_73 rfl rfl dX0_copyFrom_6 ?_
    refine lv_iconst (v := nI 0) hx hb dX0_copyFrom_9 (by decide) ?_
    refine lv_bipush (v := nI 16) hx hb dX0_copyFrom_10 (by decide) ?_
    obtain ⟨m2, e1, h⟩ := t_lt h
    refine r_copy hx hb hts (hml.trans hl.1.symm) hown k_268 k_270 k_269 k_8 hK hcv hw hS (v_va hg hi) gs_atc (fun _ => (E_va hg hi)) (v_va hg2 hi2) (gs_nec hne hm2) (fun _ => (E_va hg2 hi2)) (by decide) (by decide) (by decide) (by decide) (by decide) (Nat.le_of_ble_eq_true rfl) (by decide) (gs_sc e1) dX0_copyFrom_12 (fun H locs hw hS => ?_)
    refine lv_aload_n hx hb dX0_copyFrom_15 rfl (lv_at hl 0 rfl) ?_
    refine lv_aload_n hx hb dX0_copyFrom_16 rfl (lv_at hl 1 rfl) ?_
    refine r_get hx hb hts hown hK hw (v_bk hg2 hi2) (gs_nec hne hm2) (E_bk hg2 hi2) inX0 rfl 1 (by decide) k_75 rfl rfl dX0_copyFrom_17 ?_
    obtain ⟨m4, e3, h⟩ := t_lt h
    refine r_put hx hb hts hown hK hcv hw hS (v_bk hg hi) gs_atc (E_bk hg hi) inX0 rfl tyX0 tyX0_ok nmX0 1 (by decide) k_75 rfl rfl rfl rfl (Nat.le_of_ble_eq_true rfl) (E_bk hg hi) (gs_up e3) dX0_copyFrom_20 (fun H locs hw hS => ?_)
    refine lv_aload_n hx hb dX0_copyFrom_23 rfl (lv_at hl 0 rfl) ?_
    refine lv_aload_n hx hb dX0_copyFrom_24 rfl (lv_at hl 1 rfl) ?_
    refine r_get hx hb hts hown hK hw (v_bk hg2 hi2) (gs_nec hne hm2) (E_bk hg2 hi2) inX0 rfl 2 (by decide) k_78 rfl rfl dX0_copyFrom_25 ?_
    obtain ⟨m6, e5, h⟩ := t_lt h
    refine r_put hx hb hts hown hK hcv hw hS (v_bk hg hi) gs_atc (E_bk hg hi) inX0 rfl tyX0 tyX0_ok nmX0 2 (by decide) k_78 rfl rfl rfl rfl (Nat.le_of_ble_eq_true rfl) (E_bk hg hi) (gs_up e5) dX0_copyFrom_28 (fun H locs hw hS => ?_)
    refine lv_aload_n hx hb dX0_copyFrom_31 rfl (lv_at hl 0 rfl) ?_
    refine lv_aload_n hx hb dX0_copyFrom_32 rfl (lv_at hl 1 rfl) ?_
    refine r_get hx hb hts hown hK hw (v_bk hg2 hi2) (gs_nec hne hm2) (E_bk hg2 hi2) inX0 rfl 3 (by decide) k_82 rfl rfl dX0_copyFrom_33 ?_
    obtain ⟨m8, e7, h⟩ := t_lt h
    refine r_put hx hb hts hown hK hcv hw hS (v_bk hg hi) gs_atc (E_bk hg hi) inX0 rfl tyX0 tyX0_ok nmX0 3 (by decide) k_82 rfl rfl rfl rfl (Nat.le_of_ble_eq_true rfl) (E_bk hg hi) (gs_up e7) dX0_copyFrom_36 (fun H locs hw hS => ?_)
    refine lv_aload_n hx hb dX0_copyFrom_39 rfl (lv_at hl 0 rfl) ?_
    refine lv_aload_n hx hb dX0_copyFrom_40 rfl (lv_at hl 1 rfl) ?_
    refine r_get hx hb hts hown hK hw (v_bk hg2 hi2) (gs_nec hne hm2) (E_bk hg2 hi2) inX0 rfl 4 (by decide) k_86 rfl rfl dX0_copyFrom_41 ?_
    obtain ⟨m10, e9, h⟩ := t_lt h
    refine r_put hx hb hts hown hK hcv hw hS (v_bk hg hi) gs_atc (E_bk hg hi) inX0 rfl tyX0 tyX0_ok nmX0 4 (by decide) k_86 rfl rfl rfl rfl (Nat.le_of_ble_eq_true rfl) (E_bk hg hi) (gs_up e9) dX0_copyFrom_44 (fun H locs hw hS => ?_)
    refine lv_aload_n hx hb dX0_copyFrom_47 rfl (lv_at hl 0 rfl) ?_
    refine lv_aload_n hx hb dX0_copyFrom_48 rfl (lv_at hl 1 rfl) ?_
    refine r_get hx hb hts hown hK hw (v_bk hg2 hi2) (gs_nec hne hm2) (E_bk hg2 hi2) inX0 rfl 5 (by decide) k_89 rfl rfl dX0_copyFrom_49 ?_
    obtain ⟨m12, e11, h⟩ := t_lt h
    refine r_put hx hb hts hown hK hcv hw hS (v_bk hg hi) gs_atc (E_bk hg hi) inX0 rfl tyX0 tyX0_ok nmX0 5 (by decide) k_89 rfl rfl rfl rfl (Nat.le_of_ble_eq_true rfl) (E_bk hg hi) (gs_up e11) dX0_copyFrom_52 (fun H locs hw hS => ?_)
    refine lv_aload_n hx hb dX0_copyFrom_55 rfl (lv_at hl 0 rfl) ?_
    refine lv_aload_n hx hb dX0_copyFrom_56 rfl (lv_at hl 1 rfl) ?_
    refine r_get hx hb hts hown hK hw (v_bk hg2 hi2) (gs_nec hne hm2) (E_bk hg2 hi2) inX0 rfl 6 (by decide) k_92 rfl rfl dX0_copyFrom_57 ?_
    obtain ⟨m14, e13, h⟩ := t_lt h
    refine r_put hx hb hts hown hK hcv hw hS (v_bk hg hi) gs_atc (E_bk hg hi) inX0 rfl tyX0 tyX0_ok nmX0 6 (by decide) k_92 rfl rfl rfl rfl (Nat.le_of_ble_eq_true rfl) (E_bk hg hi) (gs_up e13) dX0_copyFrom_60 (fun H locs hw hS => ?_)
    refine lv_aload_n hx hb dX0_copyFrom_63 rfl (lv_at hl 0 rfl) ?_
    refine lv_aload_n hx hb dX0_copyFrom_64 rfl (lv_at hl 1 rfl) ?_
    refine r_get hx hb hts hown hK hw (v_bk hg2 hi2) (gs_nec hne hm2) (E_bk hg2 hi2) inX0 rfl 7 (by decide) k_95 rfl rfl dX0_copyFrom_65 ?_
    obtain ⟨m16, e15, h⟩ := t_lt h
    refine r_put hx hb hts hown hK hcv hw hS (v_bk hg hi) gs_atc (E_bk hg hi) inX0 rfl tyX0 tyX0_ok nmX0 7 (by decide) k_95 rfl rfl rfl rfl (Nat.le_of_ble_eq_true rfl) (E_bk hg hi) (gs_up e15) dX0_copyFrom_68 (fun H locs hw hS => ?_)
    refine lv_aload_n hx hb dX0_copyFrom_71 rfl (lv_at hl 0 rfl) ?_
    refine lv_aload_n hx hb dX0_copyFrom_72 rfl (lv_at hl 1 rfl) ?_
    refine r_get hx hb hts hown hK hw (v_bk hg2 hi2) (gs_nec hne hm2) (E_bk hg2 hi2) inX0 rfl 8 (by decide) k_96 rfl rfl dX0_copyFrom_73 ?_
    obtain ⟨m18, e17, h⟩ := t_lt h
    refine r_put hx hb hts hown hK hcv hw hS (v_bk hg hi) gs_atc (E_bk hg hi) inX0 rfl tyX0 tyX0_ok nmX0 8 (by decide) k_96 rfl rfl rfl rfl (Nat.le_of_ble_eq_true rfl) (E_bk hg hi) (gs_up e17) dX0_copyFrom_76 (fun H locs hw hS => ?_)
    have e1 := (t_ret h).1
    have e2 := (t_ret h).2
    exact e_v hx hb hr hlk hw hS (by rw [e2]) dX0_copyFrom_79
  exact main _ _ hw hS ls hl

theorem cf_X0_readRow : cfV RX0 yX0_readRow cX0_readRow 2 (some .int) 0 := ⟨⟨k_288, k_289, k_4, k_290⟩, by decide +kernel⟩
def f_X0_readRow (m : SM) (i : Nat) : Option (Int32 × SM) :=
  (if (m (3 + i) 5) < (m (3 + i) 4) then gd (m (3 + i) 5) 16 (lt1 (up m (3 + i) 5 ((m (3 + i) 5) + (nI 1))) fun m4 => lt1 (up m4 (3 + i) 6 ((m4 (3 + i) 6) + (m (11 + i) (m (3 + i) 5).toNatClampNeg))) fun m6 => lt1 (up m6 (3 + i) 7 (mn (m6 (3 + i) 7) (m (11 + i) (m (3 + i) 5).toNatClampNeg))) fun m8 => lt1 (up m8 (3 + i) 8 (mx (m8 (3 + i) 8) (m (11 + i) (m (3 + i) 5).toNatClampNeg))) fun m10 => some ((m (11 + i) (m (3 + i) 5).toNatClampNeg), m10)) else some ((-5 : Int32), m))
set_option maxHeartbeats 4000000 in
set_option maxRecDepth 100000 in
theorem c_X0_readRow {l : Launch} {D : va_G} {cy : Nat → ClassId} {ad : Nat → Nat → Nat} (hcv : CV ad) {g : Nat} (hg : g < 7) {i : Nat} (hi : i < 8) {M0 : MM} {m : SM} (hm : M0 g = m) {r : Int32} {x : SM} (h : f_X0_readRow m i = some (r, x)) : Met l yX0_readRow (.code yX0_readRow cX0_readRow 2 (some .int) :: TB) ({ frames := 1, cells := 0, slots := 0, locals := 21 } : Room) (PW D cy ad M0 [.ref (ad g (3 + i))]) (QI D cy ad r (gs M0 g x)) 0 0 (AD ad) := by
  refine m_in (by decide +kernel) (Nat.le_of_ble_eq_true rfl) ?_
  intro p e s md args below meth c hC hw hS ls hl
  obtain ⟨hx, hb, hr, hml, hown, hts, hK, hlk⟩ := hC
  have hl : lv_has ls 2 [(0, .ref (ad g (3 + i)))] := hl
  rw [← gs_same hm] at hw
  unfold f_X0_readRow at h
  have main : JL p l e ({ frames := 1, cells := 0, slots := 0, locals := 21 } : Room) s md args below meth c D cy ad (MQ below (QI D cy ad r (gs M0 g x)) args s 0 0 (AD ad)) (gs M0 g m) 2 [(0, .ref (ad g (3 + i)))] 0 [] := by
    intro H locs hw hS ls hl
    refine lv_aload_n hx hb dX0_readRow_0 rfl (lv_at hl 0 rfl) ?_
    refine r_get hx hb hts hown hK hw (v_bk hg hi) gs_atc (E_bk hg hi) inX0 rfl 5 (by decide) k_89 rfl rfl dX0_readRow_1 ?_
    refine lv_aload_n hx hb dX0_readRow_4 rfl (lv_at hl 0 rfl) ?_
    refine r_get hx hb hts hown hK hw (v_bk hg hi) gs_atc (E_bk hg hi) inX0 rfl 4 (by decide) k_86 rfl rfl dX0_readRow_5 ?_
    refine lv_icmp_lt (tgt := 14) hx hb dX0_readRow_8 (by decide) (fun q1 => ?_) (fun q1 => ?_)
    · replace h := t_pos h q1
      refine lv_aload_n hx hb dX0_readRow_14 rfl (lv_at hl 0 rfl) ?_
      refine r_get hx hb hts hown hK hw (v_bk hg hi) gs_atc (E_bk hg hi) inX0 rfl 0 (by decide) k_73 rfl rfl dX0_readRow_15 ?_
      refine lv_aload_n hx hb dX0_readRow_18 rfl (lv_at hl 0 rfl) ?_
      refine r_get hx hb hts hown hK hw (v_bk hg hi) gs_atc (E_bk hg hi) inX0 rfl 5 (by decide) k_89 rfl rfl dX0_readRow_19 ?_
      obtain ⟨q2, h⟩ := t_gd h
      refine r_iald hx hb hK hw (v_va hg hi) gs_atc (E_va hg hi) q2 dX0_readRow_22 ?_
      refine lv_istore_n (lv' := [(1, .int (m (11 + i) (m (3 + i) 5).toNatClampNeg)), (0, .ref (ad g (3 + i)))]) hx hb dX0_readRow_23 rfl hl (by decide) rfl (fun ls hl => ?_)
      refine lv_aload_n hx hb dX0_readRow_24 rfl (lv_at hl 1 rfl) ?_
      refine lv_dup hx hb dX0_readRow_25 rfl ?_
      refine r_get hx hb hts hown hK hw (v_bk hg hi) gs_atc (E_bk hg hi) inX0 rfl 5 (by decide) k_89 rfl rfl dX0_readRow_26 ?_
      refine lv_iconst (v := nI 1) hx hb dX0_readRow_29 (by decide) ?_
      refine lv_iadd hx hb dX0_readRow_30 ?_
      obtain ⟨m4, e3, h⟩ := t_lt h
      refine r_put hx hb hts hown hK hcv hw hS (v_bk hg hi) gs_atc (E_bk hg hi) inX0 rfl tyX0 tyX0_ok nmX0 5 (by decide) k_89 rfl rfl rfl rfl (Nat.le_of_ble_eq_true rfl) (E_bk hg hi) (gs_up e3) dX0_readRow_31 (fun H locs hw hS => ?_)
      refine lv_aload_n hx hb dX0_readRow_34 rfl (lv_at hl 1 rfl) ?_
      refine lv_dup hx hb dX0_readRow_35 rfl ?_
      refine r_get hx hb hts hown hK hw (v_bk hg hi) gs_atc (E_bk hg hi) inX0 rfl 6 (by decide) k_92 rfl rfl dX0_readRow_36 ?_
      refine lv_iload_n hx hb dX0_readRow_39 rfl (lv_at hl 0 rfl) ?_
      refine lv_iadd hx hb dX0_readRow_40 ?_
      obtain ⟨m6, e5, h⟩ := t_lt h
      refine r_put hx hb hts hown hK hcv hw hS (v_bk hg hi) gs_atc (E_bk hg hi) inX0 rfl tyX0 tyX0_ok nmX0 6 (by decide) k_92 rfl rfl rfl rfl (Nat.le_of_ble_eq_true rfl) (E_bk hg hi) (gs_up e5) dX0_readRow_41 (fun H locs hw hS => ?_)
      refine lv_aload_n hx hb dX0_readRow_44 rfl (lv_at hl 1 rfl) ?_
      refine lv_aload_n hx hb dX0_readRow_45 rfl (lv_at hl 1 rfl) ?_
      refine r_get hx hb hts hown hK hw (v_bk hg hi) gs_atc (E_bk hg hi) inX0 rfl 7 (by decide) k_95 rfl rfl dX0_readRow_46 ?_
      refine lv_iload_n hx hb dX0_readRow_49 rfl (lv_at hl 0 rfl) ?_
      refine r_min hx hb hts (hml.trans hl.1.symm) hown k_291 k_292 k_9 k_293 (Nat.le_of_ble_eq_true rfl) (Nat.le_of_ble_eq_true rfl) (Nat.le_of_ble_eq_true rfl) (Nat.le_of_ble_eq_true rfl) dX0_readRow_50 ?_
      obtain ⟨m8, e7, h⟩ := t_lt h
      refine r_put hx hb hts hown hK hcv hw hS (v_bk hg hi) gs_atc (E_bk hg hi) inX0 rfl tyX0 tyX0_ok nmX0 7 (by decide) k_95 rfl rfl rfl rfl (Nat.le_of_ble_eq_true rfl) (E_bk hg hi) (gs_up e7) dX0_readRow_53 (fun H locs hw hS => ?_)
      refine lv_aload_n hx hb dX0_readRow_56 rfl (lv_at hl 1 rfl) ?_
      refine lv_aload_n hx hb dX0_readRow_57 rfl (lv_at hl 1 rfl) ?_
      refine r_get hx hb hts hown hK hw (v_bk hg hi) gs_atc (E_bk hg hi) inX0 rfl 8 (by decide) k_96 rfl rfl dX0_readRow_58 ?_
      refine lv_iload_n hx hb dX0_readRow_61 rfl (lv_at hl 0 rfl) ?_
      refine r_max hx hb hts (hml.trans hl.1.symm) hown k_294 k_295 k_9 k_296 (Nat.le_of_ble_eq_true rfl) (Nat.le_of_ble_eq_true rfl) (Nat.le_of_ble_eq_true rfl) (Nat.le_of_ble_eq_true rfl) dX0_readRow_62 ?_
      obtain ⟨m10, e9, h⟩ := t_lt h
      refine r_put hx hb hts hown hK hcv hw hS (v_bk hg hi) gs_atc (E_bk hg hi) inX0 rfl tyX0 tyX0_ok nmX0 8 (by decide) k_96 rfl rfl rfl rfl (Nat.le_of_ble_eq_true rfl) (E_bk hg hi) (gs_up e9) dX0_readRow_65 (fun H locs hw hS => ?_)
      refine lv_iload_n hx hb dX0_readRow_68 rfl (lv_at hl 0 rfl) ?_
      have e1 := (t_ret h).1
      have e2 := (t_ret h).2
      exact e_i hx hb hr hlk hw hS e1 (by rw [e2]) dX0_readRow_69
    · replace h := t_neg h q1
      refine lv_bipush (v := -5) hx hb dX0_readRow_11 (by decide) ?_
      have e1 := (t_ret h).1
      have e2 := (t_ret h).2
      exact e_i hx hb hr hlk hw hS e1 (by rw [e2]) dX0_readRow_13
  exact main _ _ hw hS ls hl

theorem cf_X0_readFirst : cfV RX0 yX0_readFirst cX0_readFirst 3 none 1 := ⟨⟨k_284, k_285, k_4, k_286⟩, by decide +kernel⟩
def f_X0_readFirst_L24 (i : Nat) (p0 : Int32) : Nat → SM → Int32 → Option (Int32 × SM)
  | 0, _, _ => none
  | n + 1, m, x2 => (if p0 ≤ x2 then some (0, m) else bd (f_X0_readRow m i) fun r3 m4 => f_X0_readFirst_L24 i p0 n m4 (x2 + (nI 1)))
def f_X0_readFirst (m : SM) (i : Nat) (p0 : Int32) : Option (Int32 × SM) :=
  lt1 (up m (3 + i) 5 (nI 0)) fun m2 => lt1 (up m2 (3 + i) 6 (nI 0)) fun m4 => lt1 (up m4 (3 + i) 7 (nI 999)) fun m6 => lt1 (up m6 (3 + i) 8 (nI 0)) fun m8 => f_X0_readFirst_L24 i p0 FU m8 (nI 0)
set_option maxHeartbeats 4000000 in
set_option maxRecDepth 100000 in
theorem c_X0_readFirst {l : Launch} {D : va_G} {cy : Nat → ClassId} {ad : Nat → Nat → Nat} (hcv : CV ad) {g : Nat} (hg : g < 7) {i : Nat} (hi : i < 8) {M0 : MM} {m : SM} (hm : M0 g = m) {p0 : Int32} {r : Int32} {x : SM} (h : f_X0_readFirst m i p0 = some (r, x)) : Met l yX0_readFirst (.code yX0_readFirst cX0_readFirst 3 none :: TB) ({ frames := 2, cells := 0, slots := 0, locals := 42 } : Room) (PW D cy ad M0 [.ref (ad g (3 + i)), .int p0]) (QV D cy ad (gs M0 g x)) 0 0 (AD ad) := by
  refine m_in (by decide +kernel) (Nat.le_of_ble_eq_true rfl) ?_
  intro p e s md args below meth c hC hw hS ls hl
  obtain ⟨hx, hb, hr, hml, hown, hts, hK, hlk⟩ := hC
  have hl : lv_has ls 3 [(0, .ref (ad g (3 + i))), (1, .int p0)] := hl
  rw [← gs_same hm] at hw
  have L24 : ∀ (n : Nat), ∀ (m : SM) (x2 : Int32), f_X0_readFirst_L24 i p0 n m x2 = some (r, x) → JL p l e ({ frames := 2, cells := 0, slots := 0, locals := 42 } : Room) s md args below meth c D cy ad (MQ below (QV D cy ad (gs M0 g x)) args s 0 0 (AD ad)) (gs M0 g m) 3 [(0, .ref (ad g (3 + i))), (1, .int p0), (2, .int x2)] 24 [] := by
    intro n
    induction n with
    | zero =>
      intro m x2 h
      cases h
    | succ n ih =>
      intro m x2 h H locs hw hS ls hl
      rw [f_X0_readFirst_L24.eq_2] at h
      refine lv_iload_n hx hb dX0_readFirst_24 rfl (lv_at hl 2 rfl) ?_
      refine lv_iload_n hx hb dX0_readFirst_25 rfl (lv_at hl 1 rfl) ?_
      refine lv_icmp_ge (tgt := 40) hx hb dX0_readFirst_26 (by decide) (fun q1 => ?_) (fun q1 => ?_)
      · replace h := t_pos h q1
        have e1 := (t_ret h).1
        have e2 := (t_ret h).2
        exact e_v hx hb hr hlk hw hS (by rw [e2]) dX0_readFirst_40
      · replace h := t_neg h q1
        refine lv_aload_n hx hb dX0_readFirst_29 rfl (lv_at hl 0 rfl) ?_
        obtain ⟨r3, m4, y2, h⟩ := t_bd h
        refine c_vi hx hb hml hown hts hK hw hS (fun _ h => h) (As := []) (rest := []) (c_X0_readRow hcv (g := g) (hg := hg) (i := i) (hi := hi) (M0 := gs M0 g m) (m := m) (hm := gs_at) y2) cf_X0_readRow k_287 rfl rfl ⟨Nat.le_of_ble_eq_true rfl, Nat.le_of_ble_eq_true rfl⟩ (r_recv hK hw (v_bk hg hi) (E_bk hg hi) rfl) rfl hl.1 rfl (Nat.le_of_ble_eq_true rfl) ⟨Nat.le_refl _, Nat.le_refl _⟩ dX0_readFirst_30 (fun H locs hw hS => ?_)
        rw [gs_gs] at hw
        refine lv_pop hx hb dX0_readFirst_33 rfl ?_
        refine lv_iinc (v := (x2 + (nI 1))) (lv' := [(2, .int (x2 + (nI 1))), (0, .ref (ad g (3 + i))), (1, .int p0)]) hx hb dX0_readFirst_34 hl (k := 2) rfl rfl (by decide) rfl (fun ls hl => ?_)
        refine lv_goto (tgt := 24) hx hb dX0_readFirst_37 (by decide) ?_
        exact ih m4 (x2 + (nI 1)) h H locs hw hS ls (lv_sub hl [1, 2, 0] rfl)
  unfold f_X0_readFirst at h
  have main : JL p l e ({ frames := 2, cells := 0, slots := 0, locals := 42 } : Room) s md args below meth c D cy ad (MQ below (QV D cy ad (gs M0 g x)) args s 0 0 (AD ad)) (gs M0 g m) 3 [(0, .ref (ad g (3 + i))), (1, .int p0)] 0 [] := by
    intro H locs hw hS ls hl
    refine lv_aload_n hx hb dX0_readFirst_0 rfl (lv_at hl 0 rfl) ?_
    refine lv_iconst (v := nI 0) hx hb dX0_readFirst_1 (by decide) ?_
    obtain ⟨m2, e1, h⟩ := t_lt h
    refine r_put hx hb hts hown hK hcv hw hS (v_bk hg hi) gs_atc (E_bk hg hi) inX0 rfl tyX0 tyX0_ok nmX0 5 (by decide) k_89 rfl rfl rfl rfl (Nat.le_of_ble_eq_true rfl) (E_bk hg hi) (gs_up e1) dX0_readFirst_2 (fun H locs hw hS => ?_)
    refine lv_aload_n hx hb dX0_readFirst_5 rfl (lv_at hl 0 rfl) ?_
    refine lv_iconst (v := nI 0) hx hb dX0_readFirst_6 (by decide) ?_
    obtain ⟨m4, e3, h⟩ := t_lt h
    refine r_put hx hb hts hown hK hcv hw hS (v_bk hg hi) gs_atc (E_bk hg hi) inX0 rfl tyX0 tyX0_ok nmX0 6 (by decide) k_92 rfl rfl rfl rfl (Nat.le_of_ble_eq_true rfl) (E_bk hg hi) (gs_up e3) dX0_readFirst_7 (fun H locs hw hS => ?_)
    refine lv_aload_n hx hb dX0_readFirst_10 rfl (lv_at hl 0 rfl) ?_
    refine lv_sipush (v := nI 999) hx hb dX0_readFirst_11 (by decide) ?_
    obtain ⟨m6, e5, h⟩ := t_lt h
    refine r_put hx hb hts hown hK hcv hw hS (v_bk hg hi) gs_atc (E_bk hg hi) inX0 rfl tyX0 tyX0_ok nmX0 7 (by decide) k_95 rfl rfl rfl rfl (Nat.le_of_ble_eq_true rfl) (E_bk hg hi) (gs_up e5) dX0_readFirst_14 (fun H locs hw hS => ?_)
    refine lv_aload_n hx hb dX0_readFirst_17 rfl (lv_at hl 0 rfl) ?_
    refine lv_iconst (v := nI 0) hx hb dX0_readFirst_18 (by decide) ?_
    obtain ⟨m8, e7, h⟩ := t_lt h
    refine r_put hx hb hts hown hK hcv hw hS (v_bk hg hi) gs_atc (E_bk hg hi) inX0 rfl tyX0 tyX0_ok nmX0 8 (by decide) k_96 rfl rfl rfl rfl (Nat.le_of_ble_eq_true rfl) (E_bk hg hi) (gs_up e7) dX0_readFirst_19 (fun H locs hw hS => ?_)
    refine lv_iconst (v := nI 0) hx hb dX0_readFirst_22 (by decide) ?_
    refine lv_istore_n (lv' := [(2, .int (nI 0)), (0, .ref (ad g (3 + i))), (1, .int p0)]) hx hb dX0_readFirst_23 rfl hl (by decide) rfl (fun ls hl => ?_)
    exact L24 FU m8 (nI 0) h H locs hw hS ls (lv_sub hl [1, 2, 0] rfl)
  exact main _ _ hw hS ls hl

theorem cf_X0_copyFromText : cfV RX0 yX0_copyFromText cX0_copyFromText 2 none 1 := ⟨⟨k_280, k_281, k_4, k_282⟩, by decide +kernel⟩
def f_X0_copyFromText (m : SM) (mz : SM) (i : Nat) : Option (Int32 × SM) :=
  lt1 (sc m (11 + i) (va_cpy (mz 2) (m (11 + i)) 0 0 16)) fun m2 => lt1 (up m2 (3 + i) 1 (mz 0 4)) fun m4 => lt1 (up m4 (3 + i) 2 (mz 0 5)) fun m6 => lt1 (up m6 (3 + i) 3 (mz 0 6)) fun m8 => lt1 (up m8 (3 + i) 4 (mz 0 7)) fun m10 => bd (f_X0_readFirst m10 i (nI 0)) fun r12 m13 => some (0, m13)
set_option maxHeartbeats 4000000 in
set_option maxRecDepth 100000 in
theorem c_X0_copyFromText {l : Launch} {D : va_G} {cy : Nat → ClassId} {ad : Nat → Nat → Nat} (hcv : CV ad) {g : Nat} (hg : g < 7) {i : Nat} (hi : i < 8) {M0 : MM} {m : SM} (hm : M0 g = m) (hne : 7 ≠ g) {mz : SM} (hm2 : M0 7 = mz) {r : Int32} {x : SM} (h : f_X0_copyFromText m mz i = some (r, x)) : Met l yX0_copyFromText (.code yX0_copyFromText cX0_copyFromText 2 none :: TB) ({ frames := 3, cells := 0, slots := 0, locals := 64 } : Room) (PW D cy ad M0 [.ref (ad g (3 + i)), .ref (ad 7 0)]) (QV D cy ad (gs M0 g x)) 0 0 (AD ad) := by
  refine m_in (by decide +kernel) (Nat.le_of_ble_eq_true rfl) ?_
  intro p e s md args below meth c hC hw hS ls hl
  obtain ⟨hx, hb, hr, hml, hown, hts, hK, hlk⟩ := hC
  have hl : lv_has ls 2 [(0, .ref (ad g (3 + i))), (1, .ref (ad 7 0))] := hl
  rw [← gs_same hm] at hw
  unfold f_X0_copyFromText at h
  have main : JL p l e ({ frames := 3, cells := 0, slots := 0, locals := 64 } : Room) s md args below meth c D cy ad (MQ below (QV D cy ad (gs M0 g x)) args s 0 0 (AD ad)) (gs M0 g m) 2 [(0, .ref (ad g (3 + i))), (1, .ref (ad 7 0))] 0 [] := by
    intro H locs hw hS ls hl
    refine lv_aload_n hx hb dX0_copyFromText_0 rfl (lv_at hl 1 rfl) ?_
    refine r_get hx hb hts hown hK hw (v_tx (by decide)) (gs_nec hne hm2) E_tx inX1 rfl 1 (by decide) k_26 rfl rfl dX0_copyFromText_1 ?_
    refine lv_iconst (v := nI 0) hx hb dX0_copyFromText_4 (by decide) ?_
    refine lv_aload_n hx hb dX0_copyFromText_5 rfl (lv_at hl 0 rfl) ?_
    refine r_get hx hb hts hown hK hw (v_bk hg hi) gs_atc (E_bk hg hi) inX0 rfl 0 (by decide) k_73 rfl rfl dX0_copyFromText_6 ?_
    refine lv_iconst (v := nI 0) hx hb dX0_copyFromText_9 (by decide) ?_
    refine lv_bipush (v := nI 16) hx hb dX0_copyFromText_10 (by decide) ?_
    obtain ⟨m2, e1, h⟩ := t_lt h
    refine r_copy hx hb hts (hml.trans hl.1.symm) hown k_268 k_270 k_269 k_8 hK hcv hw hS (v_va hg hi) gs_atc (fun _ => (E_va hg hi)) (v_tx (by decide)) (gs_nec hne hm2) (fun _ => E_tv) (by decide) (by decide) (by decide) (by decide) (by decide) (Nat.le_of_ble_eq_true rfl) (by decide) (gs_sc e1) dX0_copyFromText_12 (fun H locs hw hS => ?_)
    refine lv_aload_n hx hb dX0_copyFromText_15 rfl (lv_at hl 0 rfl) ?_
    refine lv_aload_n hx hb dX0_copyFromText_16 rfl (lv_at hl 1 rfl) ?_
    refine r_get hx hb hts hown hK hw (v_tx (by decide)) (gs_nec hne hm2) E_tx inX1 rfl 4 (by decide) k_32 rfl rfl dX0_copyFromText_17 ?_
    obtain ⟨m4, e3, h⟩ := t_lt h
    refine r_put hx hb hts hown hK hcv hw hS (v_bk hg hi) gs_atc (E_bk hg hi) inX0 rfl tyX0 tyX0_ok nmX0 1 (by decide) k_75 rfl rfl rfl rfl (Nat.le_of_ble_eq_true rfl) (E_bk hg hi) (gs_up e3) dX0_copyFromText_20 (fun H locs hw hS => ?_)
    refine lv_aload_n hx hb dX0_copyFromText_23 rfl (lv_at hl 0 rfl) ?_
    refine lv_aload_n hx hb dX0_copyFromText_24 rfl (lv_at hl 1 rfl) ?_
    refine r_get hx hb hts hown hK hw (v_tx (by decide)) (gs_nec hne hm2) E_tx inX1 rfl 5 (by decide) k_33 rfl rfl dX0_copyFromText_25 ?_
    obtain ⟨m6, e5, h⟩ := t_lt h
    refine r_put hx hb hts hown hK hcv hw hS (v_bk hg hi) gs_atc (E_bk hg hi) inX0 rfl tyX0 tyX0_ok nmX0 2 (by decide) k_78 rfl rfl rfl rfl (Nat.le_of_ble_eq_true rfl) (E_bk hg hi) (gs_up e5) dX0_copyFromText_28 (fun H locs hw hS => ?_)
    refine lv_aload_n hx hb dX0_copyFromText_31 rfl (lv_at hl 0 rfl) ?_
    refine lv_aload_n hx hb dX0_copyFromText_32 rfl (lv_at hl 1 rfl) ?_
    refine r_get hx hb hts hown hK hw (v_tx (by decide)) (gs_nec hne hm2) E_tx inX1 rfl 6 (by decide) k_35 rfl rfl dX0_copyFromText_33 ?_
    obtain ⟨m8, e7, h⟩ := t_lt h
    refine r_put hx hb hts hown hK hcv hw hS (v_bk hg hi) gs_atc (E_bk hg hi) inX0 rfl tyX0 tyX0_ok nmX0 3 (by decide) k_82 rfl rfl rfl rfl (Nat.le_of_ble_eq_true rfl) (E_bk hg hi) (gs_up e7) dX0_copyFromText_36 (fun H locs hw hS => ?_)
    refine lv_aload_n hx hb dX0_copyFromText_39 rfl (lv_at hl 0 rfl) ?_
    refine lv_aload_n hx hb dX0_copyFromText_40 rfl (lv_at hl 1 rfl) ?_
    refine r_get hx hb hts hown hK hw (v_tx (by decide)) (gs_nec hne hm2) E_tx inX1 rfl 7 (by decide) k_37 rfl rfl dX0_copyFromText_41 ?_
    obtain ⟨m10, e9, h⟩ := t_lt h
    refine r_put hx hb hts hown hK hcv hw hS (v_bk hg hi) gs_atc (E_bk hg hi) inX0 rfl tyX0 tyX0_ok nmX0 4 (by decide) k_86 rfl rfl rfl rfl (Nat.le_of_ble_eq_true rfl) (E_bk hg hi) (gs_up e9) dX0_copyFromText_44 (fun H locs hw hS => ?_)
    refine lv_aload_n hx hb dX0_copyFromText_47 rfl (lv_at hl 0 rfl) ?_
    refine lv_iconst (v := nI 0) hx hb dX0_copyFromText_48 (by decide) ?_
    obtain ⟨r12, m13, y11, h⟩ := t_bd h
    refine c_vv hx hb hml hown hts hK hw hS (fun _ h => h) (As := [.int (nI 0)]) (rest := []) (c_X0_readFirst hcv (g := g) (hg := hg) (i := i) (hi := hi) (M0 := gs M0 g m10) (m := m10) (hm := gs_at) y11) cf_X0_readFirst k_283 rfl rfl ⟨Nat.le_of_ble_eq_true rfl, Nat.le_of_ble_eq_true rfl⟩ (r_recv hK hw (v_bk hg hi) (E_bk hg hi) rfl) rfl hl.1 rfl (Nat.le_of_ble_eq_true rfl) ⟨Nat.le_refl _, Nat.le_refl _⟩ dX0_copyFromText_49 (fun H locs hw hS => ?_)
    rw [gs_gs] at hw
    have e1 := (t_ret h).1
    have e2 := (t_ret h).2
    exact e_v hx hb hr hlk hw hS (by rw [e2]) dX0_copyFromText_52
  exact main _ _ hw hS ls hl

theorem cf_X5_isFromTo : cfS RX5 yX5_isFromTo cX5_isFromTo 3 (some .boolean) 3 := ⟨⟨k_254, k_1, k_255⟩, by decide +kernel⟩
def f_X5_isFromTo (p0 : Int32) (p1 : Int32) (p2 : Int32) : Option (Int32) :=
  (if p0 < p1 then some (nI 0) else (if p2 < p0 then some (nI 0) else some (nI 1)))
set_option maxHeartbeats 4000000 in
set_option maxRecDepth 100000 in
theorem c_X5_isFromTo {l : Launch} {D : va_G} {cy : Nat → ClassId} {ad : Nat → Nat → Nat} (hcv : CV ad) {M0 : MM} {p0 p1 p2 : Int32} {r : Int32} (h : f_X5_isFromTo p0 p1 p2 = some r) : Met l yX5_isFromTo (.code yX5_isFromTo cX5_isFromTo 3 (some .boolean) :: TB) ({ frames := 0, cells := 0, slots := 0, locals := 0 } : Room) (PW D cy ad M0 [.int p0, .int p1, .int p2]) (QI D cy ad r M0) 0 0 (AD ad) := by
  refine m_in (by decide +kernel) (Nat.le_of_ble_eq_true rfl) ?_
  intro p e s md args below meth c hC hw hS ls hl
  obtain ⟨hx, hb, hr, hml, hown, hts, hK, hlk⟩ := hC
  have hl : lv_has ls 3 [(0, .int p0), (1, .int p1), (2, .int p2)] := hl
  unfold f_X5_isFromTo at h
  have main : JL p l e ({ frames := 0, cells := 0, slots := 0, locals := 0 } : Room) s md args below meth c D cy ad (MQ below (QI D cy ad r M0) args s 0 0 (AD ad)) (M0) 3 [(0, .int p0), (1, .int p1), (2, .int p2)] 0 [] := by
    intro H locs hw hS ls hl
    refine lv_iload_n hx hb dX5_isFromTo_0 rfl (lv_at hl 0 rfl) ?_
    refine lv_iload_n hx hb dX5_isFromTo_1 rfl (lv_at hl 1 rfl) ?_
    refine lv_icmp_lt (tgt := 14) hx hb dX5_isFromTo_2 (by decide) (fun q1 => ?_) (fun q1 => ?_)
    · replace h := t_pos h q1
      refine lv_iconst (v := nI 0) hx hb dX5_isFromTo_14 (by decide) ?_
      have e1 := Option.some.inj h
      exact e_z hx hb hr hlk (Or.inl rfl) hw hS e1 rfl dX5_isFromTo_15
    · replace h := t_neg h q1
      refine lv_iload_n hx hb dX5_isFromTo_5 rfl (lv_at hl 0 rfl) ?_
      refine lv_iload_n hx hb dX5_isFromTo_6 rfl (lv_at hl 2 rfl) ?_
      refine lv_icmp_gt (tgt := 14) hx hb dX5_isFromTo_7 (by decide) (fun q2 => ?_) (fun q2 => ?_)
      · replace h := t_pos h q2
        refine lv_iconst (v := nI 0) hx hb dX5_isFromTo_14 (by decide) ?_
        have e1 := Option.some.inj h
        exact e_z hx hb hr hlk (Or.inl rfl) hw hS e1 rfl dX5_isFromTo_15
      · replace h := t_neg h q2
        refine lv_iconst (v := nI 1) hx hb dX5_isFromTo_10 (by decide) ?_
        refine lv_goto (tgt := 15) hx hb dX5_isFromTo_11 (by decide) ?_
        have e1 := Option.some.inj h
        exact e_z hx hb hr hlk (Or.inr rfl) hw hS e1 rfl dX5_isFromTo_15
  exact main _ _ hw hS ls hl

theorem cf_X0_allows : cfV RX0 yX0_allows cX0_allows 2 (some .boolean) 1 := ⟨⟨k_344, k_345, k_4, k_346⟩, by decide +kernel⟩
def f_X0_allows (m : SM) (i : Nat) (p0 : Int32) : Option (Int32) :=
  b1 (f_X5_isFromTo p0 (m (3 + i) 2) (m (3 + i) 3)) fun r2 => gz r2 (some r2)
set_option maxHeartbeats 4000000 in
set_option maxRecDepth 100000 in
theorem c_X0_allows {l : Launch} {D : va_G} {cy : Nat → ClassId} {ad : Nat → Nat → Nat} (hcv : CV ad) {g : Nat} (hg : g < 7) {i : Nat} (hi : i < 8) {M0 : MM} {m : SM} (hm : M0 g = m) {p0 : Int32} {r : Int32} (h : f_X0_allows m i p0 = some r) : Met l yX0_allows (.code yX0_allows cX0_allows 2 (some .boolean) :: TB) ({ frames := 1, cells := 0, slots := 0, locals := 22 } : Room) (PW D cy ad M0 [.ref (ad g (3 + i)), .int p0]) (QI D cy ad r M0) 0 0 (AD ad) := by
  refine m_in (by decide +kernel) (Nat.le_of_ble_eq_true rfl) ?_
  intro p e s md args below meth c hC hw hS ls hl
  obtain ⟨hx, hb, hr, hml, hown, hts, hK, hlk⟩ := hC
  have hl : lv_has ls 2 [(0, .ref (ad g (3 + i))), (1, .int p0)] := hl
  rw [← gs_same hm] at hw
  unfold f_X0_allows at h
  have main : JL p l e ({ frames := 1, cells := 0, slots := 0, locals := 22 } : Room) s md args below meth c D cy ad (MQ below (QI D cy ad r M0) args s 0 0 (AD ad)) (gs M0 g m) 2 [(0, .ref (ad g (3 + i))), (1, .int p0)] 0 [] := by
    intro H locs hw hS ls hl
    refine lv_iload_n hx hb dX0_allows_0 rfl (lv_at hl 1 rfl) ?_
    refine lv_aload_n hx hb dX0_allows_1 rfl (lv_at hl 0 rfl) ?_
    refine r_get hx hb hts hown hK hw (v_bk hg hi) gs_atc (E_bk hg hi) inX0 rfl 2 (by decide) k_78 rfl rfl dX0_allows_2 ?_
    refine lv_aload_n hx hb dX0_allows_5 rfl (lv_at hl 0 rfl) ?_
    refine r_get hx hb hts hown hK hw (v_bk hg hi) gs_atc (E_bk hg hi) inX0 rfl 3 (by decide) k_82 rfl rfl dX0_allows_6 ?_
    obtain ⟨r2, y1, h⟩ := t_b1 h
    refine c_sn hx hb hml hown hts hK hw hS (fun _ h => h) (As := [.int p0, .int (m (3 + i) 2), .int (m (3 + i) 3)]) (rest := []) (c_X5_isFromTo hcv (M0 := gs M0 g m) y1) cf_X5_isFromTo k_347n rfl rfl ⟨Nat.le_of_ble_eq_true rfl, Nat.le_of_ble_eq_true rfl⟩ rfl hl.1 rfl (Nat.le_of_ble_eq_true rfl) ⟨Nat.le_refl _, Nat.le_refl _⟩ dX0_allows_9 (fun H locs hw hS => ?_)
    obtain ⟨q3, h⟩ := t_gz h
    have e1 := Option.some.inj h
    exact e_z hx hb hr hlk q3 hw hS e1 (gs_same hm) dX0_allows_12
  exact main _ _ hw hS ls hl

theorem cf_X0_unread : cfV RX0 yX0_unread cX0_unread 1 (some .int) 0 := ⟨⟨k_323, k_324, k_4, k_325⟩, by decide +kernel⟩
def f_X0_unread (m : SM) (i : Nat) : Option (Int32) :=
  some ((m (3 + i) 4) - (m (3 + i) 5))
set_option maxHeartbeats 4000000 in
set_option maxRecDepth 100000 in
theorem c_X0_unread {l : Launch} {D : va_G} {cy : Nat → ClassId} {ad : Nat → Nat → Nat} (hcv : CV ad) {g : Nat} (hg : g < 7) {i : Nat} (hi : i < 8) {M0 : MM} {m : SM} (hm : M0 g = m) {r : Int32} (h : f_X0_unread m i = some r) : Met l yX0_unread (.code yX0_unread cX0_unread 1 (some .int) :: TB) ({ frames := 0, cells := 0, slots := 0, locals := 0 } : Room) (PW D cy ad M0 [.ref (ad g (3 + i))]) (QI D cy ad r M0) 0 0 (AD ad) := by
  refine m_in (by decide +kernel) (Nat.le_of_ble_eq_true rfl) ?_
  intro p e s md args below meth c hC hw hS ls hl
  obtain ⟨hx, hb, hr, hml, hown, hts, hK, hlk⟩ := hC
  have hl : lv_has ls 1 [(0, .ref (ad g (3 + i)))] := hl
  rw [← gs_same hm] at hw
  unfold f_X0_unread at h
  have main : JL p l e ({ frames := 0, cells := 0, slots := 0, locals := 0 } : Room) s md args below meth c D cy ad (MQ below (QI D cy ad r M0) args s 0 0 (AD ad)) (gs M0 g m) 1 [(0, .ref (ad g (3 + i)))] 0 [] := by
    intro H locs hw hS ls hl
    refine lv_aload_n hx hb dX0_unread_0 rfl (lv_at hl 0 rfl) ?_
    refine r_get hx hb hts hown hK hw (v_bk hg hi) gs_atc (E_bk hg hi) inX0 rfl 4 (by decide) k_86 rfl rfl dX0_unread_1 ?_
    refine lv_aload_n hx hb dX0_unread_4 rfl (lv_at hl 0 rfl) ?_
    refine r_get hx hb hts hown hK hw (v_bk hg hi) gs_atc (E_bk hg hi) inX0 rfl 5 (by decide) k_89 rfl rfl dX0_unread_5 ?_
    refine lv_isub hx hb dX0_unread_8 ?_
    have e1 := Option.some.inj h
    exact e_i hx hb hr hlk hw hS e1 (gs_same hm) dX0_unread_9
  exact main _ _ hw hS ls hl

theorem cf_X0_append : cfV RX0 yX0_append cX0_append 2 none 1 := ⟨⟨k_349, k_350, k_4, k_351⟩, by decide +kernel⟩
def f_X0_append (m : SM) (i : Nat) (p0 : Int32) : Option (Int32 × SM) :=
  (if (nI 16) ≤ (m (3 + i) 4) then some (0, m) else gd (m (3 + i) 4) 16 (lt1 (up m (11 + i) (m (3 + i) 4).toNatClampNeg p0) fun m4 => lt1 (up m4 (3 + i) 4 ((m4 (3 + i) 4) + (nI 1))) fun m6 => some (0, m6)))
set_option maxHeartbeats 4000000 in
set_option maxRecDepth 100000 in
theorem c_X0_append {l : Launch} {D : va_G} {cy : Nat → ClassId} {ad : Nat → Nat → Nat} (hcv : CV ad) {g : Nat} (hg : g < 7) {i : Nat} (hi : i < 8) {M0 : MM} {m : SM} (hm : M0 g = m) {p0 : Int32} {r : Int32} {x : SM} (h : f_X0_append m i p0 = some (r, x)) : Met l yX0_append (.code yX0_append cX0_append 2 none :: TB) ({ frames := 0, cells := 0, slots := 0, locals := 0 } : Room) (PW D cy ad M0 [.ref (ad g (3 + i)), .int p0]) (QV D cy ad (gs M0 g x)) 0 0 (AD ad) := by
  refine m_in (by decide +kernel) (Nat.le_of_ble_eq_true rfl) ?_
  intro p e s md args below meth c hC hw hS ls hl
  obtain ⟨hx, hb, hr, hml, hown, hts, hK, hlk⟩ := hC
  have hl : lv_has ls 2 [(0, .ref (ad g (3 + i))), (1, .int p0)] := hl
  rw [← gs_same hm] at hw
  unfold f_X0_append at h
  have main : JL p l e ({ frames := 0, cells := 0, slots := 0, locals := 0 } : Room) s md args below meth c D cy ad (MQ below (QV D cy ad (gs M0 g x)) args s 0 0 (AD ad)) (gs M0 g m) 2 [(0, .ref (ad g (3 + i))), (1, .int p0)] 0 [] := by
    intro H locs hw hS ls hl
    refine lv_aload_n hx hb dX0_append_0 rfl (lv_at hl 0 rfl) ?_
    refine r_get hx hb hts hown hK hw (v_bk hg hi) gs_atc (E_bk hg hi) inX0 rfl 4 (by decide) k_86 rfl rfl dX0_append_1 ?_
    refine lv_bipush (v := nI 16) hx hb dX0_append_4 (by decide) ?_
    refine lv_icmp_ge (tgt := 29) hx hb dX0_append_6 (by decide) (fun q1 => ?_) (fun q1 => ?_)
    · replace h := t_pos h q1
      have e1 := (t_ret h).1
      have e2 := (t_ret h).2
      exact e_v hx hb hr hlk hw hS (by rw [e2]) dX0_append_29
    · replace h := t_neg h q1
      refine lv_aload_n hx hb dX0_append_9 rfl (lv_at hl 0 rfl) ?_
      refine r_get hx hb hts hown hK hw (v_bk hg hi) gs_atc (E_bk hg hi) inX0 rfl 0 (by decide) k_73 rfl rfl dX0_append_10 ?_
      refine lv_aload_n hx hb dX0_append_13 rfl (lv_at hl 0 rfl) ?_
      refine r_get hx hb hts hown hK hw (v_bk hg hi) gs_atc (E_bk hg hi) inX0 rfl 4 (by decide) k_86 rfl rfl dX0_append_14 ?_
      refine lv_iload_n hx hb dX0_append_17 rfl (lv_at hl 1 rfl) ?_
      obtain ⟨q2, h⟩ := t_gd h
      obtain ⟨m4, e3, h⟩ := t_lt h
      refine r_iast hx hb hK hcv hw hS (v_va hg hi) gs_atc (fun _ => (E_va hg hi)) q2 (gs_up e3) dX0_append_18 (fun H locs hw hS => ?_)
      refine lv_aload_n hx hb dX0_append_19 rfl (lv_at hl 0 rfl) ?_
      refine lv_dup hx hb dX0_append_20 rfl ?_
      refine r_get hx hb hts hown hK hw (v_bk hg hi) gs_atc (E_bk hg hi) inX0 rfl 4 (by decide) k_86 rfl rfl dX0_append_21 ?_
      refine lv_iconst (v := nI 1) hx hb dX0_append_24 (by decide) ?_
      refine lv_iadd hx hb dX0_append_25 ?_
      obtain ⟨m6, e5, h⟩ := t_lt h
      refine r_put hx hb hts hown hK hcv hw hS (v_bk hg hi) gs_atc (E_bk hg hi) inX0 rfl tyX0 tyX0_ok nmX0 4 (by decide) k_86 rfl rfl rfl rfl (Nat.le_of_ble_eq_true rfl) (E_bk hg hi) (gs_up e5) dX0_append_26 (fun H locs hw hS => ?_)
      have e1 := (t_ret h).1
      have e2 := (t_ret h).2
      exact e_v hx hb hr hlk hw hS (by rw [e2]) dX0_append_29
  exact main _ _ hw hS ls hl

theorem cf_X0_put : cfV RX0 yX0_put cX0_put 3 none 2 := ⟨⟨k_362, k_363, k_4, k_364⟩, by decide +kernel⟩
def f_X0_put (m : SM) (i : Nat) (p0 : Int32) (p1 : Int32) : Option (Int32 × SM) :=
  b1 (f_X5_isFromTo p0 (nI 0) ((m (3 + i) 4) - (nI 1))) fun r2 => (if r2 = (nI 0) then some (0, m) else gd p0 16 (lt1 (up m (11 + i) p0.toNatClampNeg p1) fun m6 => bd (f_X0_readFirst m6 i (m6 (3 + i) 5)) fun r8 m9 => some (0, m9)))
set_option maxHeartbeats 4000000 in
set_option maxRecDepth 100000 in
theorem c_X0_put {l : Launch} {D : va_G} {cy : Nat → ClassId} {ad : Nat → Nat → Nat} (hcv : CV ad) {g : Nat} (hg : g < 7) {i : Nat} (hi : i < 8) {M0 : MM} {m : SM} (hm : M0 g = m) {p0 p1 : Int32} {r : Int32} {x : SM} (h : f_X0_put m i p0 p1 = some (r, x)) : Met l yX0_put (.code yX0_put cX0_put 3 none :: TB) ({ frames := 3, cells := 0, slots := 0, locals := 64 } : Room) (PW D cy ad M0 [.ref (ad g (3 + i)), .int p0, .int p1]) (QV D cy ad (gs M0 g x)) 0 0 (AD ad) := by
  refine m_in (by decide +kernel) (Nat.le_of_ble_eq_true rfl) ?_
  intro p e s md args below meth c hC hw hS ls hl
  obtain ⟨hx, hb, hr, hml, hown, hts, hK, hlk⟩ := hC
  have hl : lv_has ls 3 [(0, .ref (ad g (3 + i))), (1, .int p0), (2, .int p1)] := hl
  rw [← gs_same hm] at hw
  unfold f_X0_put at h
  have main : JL p l e ({ frames := 3, cells := 0, slots := 0, locals := 64 } : Room) s md args below meth c D cy ad (MQ below (QV D cy ad (gs M0 g x)) args s 0 0 (AD ad)) (gs M0 g m) 3 [(0, .ref (ad g (3 + i))), (1, .int p0), (2, .int p1)] 0 [] := by
    intro H locs hw hS ls hl
    refine lv_iload_n hx hb dX0_put_0 rfl (lv_at hl 1 rfl) ?_
    refine lv_iconst (v := nI 0) hx hb dX0_put_1 (by decide) ?_
    refine lv_aload_n hx hb dX0_put_2 rfl (lv_at hl 0 rfl) ?_
    refine r_get hx hb hts hown hK hw (v_bk hg hi) gs_atc (E_bk hg hi) inX0 rfl 4 (by decide) k_86 rfl rfl dX0_put_3 ?_
    refine lv_iconst (v := nI 1) hx hb dX0_put_6 (by decide) ?_
    refine lv_isub hx hb dX0_put_7 ?_
    obtain ⟨r2, y1, h⟩ := t_b1 h
    refine c_sn hx hb hml hown hts hK hw hS (fun _ h => h) (As := [.int p0, .int (nI 0), .int ((m (3 + i) 4) - (nI 1))]) (rest := []) (c_X5_isFromTo hcv (M0 := gs M0 g m) y1) cf_X5_isFromTo k_347n rfl rfl ⟨Nat.le_of_ble_eq_true rfl, Nat.le_of_ble_eq_true rfl⟩ rfl hl.1 rfl (Nat.le_of_ble_eq_true rfl) ⟨Nat.le_refl _, Nat.le_refl _⟩ dX0_put_8 (fun H locs hw hS => ?_)
    refine lv_if_eq (tgt := 29) hx hb dX0_put_11 (by decide) (fun q3 => ?_) (fun q3 => ?_)
    · replace h := t_pos h q3
      have e1 := (t_ret h).1
      have e2 := (t_ret h).2
      exact e_v hx hb hr hlk hw hS (by rw [e2]) dX0_put_29
    · replace h := t_neg h q3
      refine lv_aload_n hx hb dX0_put_14 rfl (lv_at hl 0 rfl) ?_
      refine r_get hx hb hts hown hK hw (v_bk hg hi) gs_atc (E_bk hg hi) inX0 rfl 0 (by decide) k_73 rfl rfl dX0_put_15 ?_
      refine lv_iload_n hx hb dX0_put_18 rfl (lv_at hl 1 rfl) ?_
      refine lv_iload_n hx hb dX0_put_19 rfl (lv_at hl 2 rfl) ?_
      obtain ⟨q4, h⟩ := t_gd h
      obtain ⟨m6, e5, h⟩ := t_lt h
      refine r_iast hx hb hK hcv hw hS (v_va hg hi) gs_atc (fun _ => (E_va hg hi)) q4 (gs_up e5) dX0_put_20 (fun H locs hw hS => ?_)
      refine lv_aload_n hx hb dX0_put_21 rfl (lv_at hl 0 rfl) ?_
      refine lv_aload_n hx hb dX0_put_22 rfl (lv_at hl 0 rfl) ?_
      refine r_get hx hb hts hown hK hw (v_bk hg hi) gs_atc (E_bk hg hi) inX0 rfl 5 (by decide) k_89 rfl rfl dX0_put_23 ?_
      obtain ⟨r8, m9, y7, h⟩ := t_bd h
      refine c_vv hx hb hml hown hts hK hw hS (fun _ h => h) (As := [.int (m6 (3 + i) 5)]) (rest := []) (c_X0_readFirst hcv (g := g) (hg := hg) (i := i) (hi := hi) (M0 := gs M0 g m6) (m := m6) (hm := gs_at) y7) cf_X0_readFirst k_283 rfl rfl ⟨Nat.le_of_ble_eq_true rfl, Nat.le_of_ble_eq_true rfl⟩ (r_recv hK hw (v_bk hg hi) (E_bk hg hi) rfl) rfl hl.1 rfl (Nat.le_of_ble_eq_true rfl) ⟨Nat.le_refl _, Nat.le_refl _⟩ dX0_put_26 (fun H locs hw hS => ?_)
      rw [gs_gs] at hw
      have e1 := (t_ret h).1
      have e2 := (t_ret h).2
      exact e_v hx hb hr hlk hw hS (by rw [e2]) dX0_put_29
  exact main _ _ hw hS ls hl

theorem cf_X0_leastValue : cfV RX0 yX0_leastValue cX0_leastValue 3 (some .int) 0 := ⟨⟨k_370, k_371, k_4, k_372⟩, by decide +kernel⟩
def f_X0_leastValue_L6 (m : SM) (i : Nat) : Nat → Int32 → Int32 → Option (Int32)
  | 0, _, _ => none
  | n + 1, x1, x2 => (if (m (3 + i) 4) ≤ x2 then some x1 else gd x2 16 (f_X0_leastValue_L6 m i n (mn x1 (m (11 + i) x2.toNatClampNeg)) (x2 + (nI 1))))
def f_X0_leastValue (m : SM) (i : Nat) : Option (Int32) :=
  f_X0_leastValue_L6 m i FU (nI 999) (nI 0)
set_option maxHeartbeats 4000000 in
set_option maxRecDepth 100000 in
theorem c_X0_leastValue {l : Launch} {D : va_G} {cy : Nat → ClassId} {ad : Nat → Nat → Nat} (hcv : CV ad) {g : Nat} (hg : g < 7) {i : Nat} (hi : i < 8) {M0 : MM} {m : SM} (hm : M0 g = m) {r : Int32} (h : f_X0_leastValue m i = some r) : Met l yX0_leastValue (.code yX0_leastValue cX0_leastValue 3 (some .int) :: TB) ({ frames := 1, cells := 0, slots := 0, locals := 21 } : Room) (PW D cy ad M0 [.ref (ad g (3 + i))]) (QI D cy ad r M0) 0 0 (AD ad) := by
  refine m_in (by decide +kernel) (Nat.le_of_ble_eq_true rfl) ?_
  intro p e s md args below meth c hC hw hS ls hl
  obtain ⟨hx, hb, hr, hml, hown, hts, hK, hlk⟩ := hC
  have hl : lv_has ls 3 [(0, .ref (ad g (3 + i)))] := hl
  rw [← gs_same hm] at hw
  have L6 : ∀ (n : Nat), ∀ (x1 : Int32) (x2 : Int32), f_X0_leastValue_L6 m i n x1 x2 = some r → JL p l e ({ frames := 1, cells := 0, slots := 0, locals := 21 } : Room) s md args below meth c D cy ad (MQ below (QI D cy ad r M0) args s 0 0 (AD ad)) (gs M0 g m) 3 [(0, .ref (ad g (3 + i))), (1, .int x1), (2, .int x2)] 6 [] := by
    intro n
    induction n with
    | zero =>
      intro x1 x2 h
      cases h
    | succ n ih =>
      intro x1 x2 h H locs hw hS ls hl
      rw [f_X0_leastValue_L6.eq_2] at h
      refine lv_iload_n hx hb dX0_leastValue_6 rfl (lv_at hl 2 rfl) ?_
      refine lv_aload_n hx hb dX0_leastValue_7 rfl (lv_at hl 0 rfl) ?_
      refine r_get hx hb hts hown hK hw (v_bk hg hi) gs_atc (E_bk hg hi) inX0 rfl 4 (by decide) k_86 rfl rfl dX0_leastValue_8 ?_
      refine lv_icmp_ge (tgt := 31) hx hb dX0_leastValue_11 (by decide) (fun q1 => ?_) (fun q1 => ?_)
      · replace h := t_pos h q1
        refine lv_iload_n hx hb dX0_leastValue_31 rfl (lv_at hl 1 rfl) ?_
        have e1 := Option.some.inj h
        exact e_i hx hb hr hlk hw hS e1 (gs_same hm) dX0_leastValue_32
      · replace h := t_neg h q1
        refine lv_iload_n hx hb dX0_leastValue_14 rfl (lv_at hl 1 rfl) ?_
        refine lv_aload_n hx hb dX0_leastValue_15 rfl (lv_at hl 0 rfl) ?_
        refine r_get hx hb hts hown hK hw (v_bk hg hi) gs_atc (E_bk hg hi) inX0 rfl 0 (by decide) k_73 rfl rfl dX0_leastValue_16 ?_
        refine lv_iload_n hx hb dX0_leastValue_19 rfl (lv_at hl 2 rfl) ?_
        obtain ⟨q2, h⟩ := t_gd h
        refine r_iald hx hb hK hw (v_va hg hi) gs_atc (E_va hg hi) q2 dX0_leastValue_20 ?_
        refine r_min hx hb hts (hml.trans hl.1.symm) hown k_291 k_292 k_9 k_293 (Nat.le_of_ble_eq_true rfl) (Nat.le_of_ble_eq_true rfl) (Nat.le_of_ble_eq_true rfl) (Nat.le_of_ble_eq_true rfl) dX0_leastValue_21 ?_
        refine lv_istore_n (lv' := [(1, .int (mn x1 (m (11 + i) x2.toNatClampNeg))), (0, .ref (ad g (3 + i))), (2, .int x2)]) hx hb dX0_leastValue_24 rfl hl (by decide) rfl (fun ls hl => ?_)
        refine lv_iinc (v := (x2 + (nI 1))) (lv' := [(2, .int (x2 + (nI 1))), (1, .int (mn x1 (m (11 + i) x2.toNatClampNeg))), (0, .ref (ad g (3 + i)))]) hx hb dX0_leastValue_25 hl (k := 2) rfl rfl (by decide) rfl (fun ls hl => ?_)
        refine lv_goto (tgt := 6) hx hb dX0_leastValue_28 (by decide) ?_
        exact ih (mn x1 (m (11 + i) x2.toNatClampNeg)) (x2 + (nI 1)) h H locs hw hS ls (lv_sub hl [2, 1, 0] rfl)
  unfold f_X0_leastValue at h
  have main : JL p l e ({ frames := 1, cells := 0, slots := 0, locals := 21 } : Room) s md args below meth c D cy ad (MQ below (QI D cy ad r M0) args s 0 0 (AD ad)) (gs M0 g m) 3 [(0, .ref (ad g (3 + i)))] 0 [] := by
    intro H locs hw hS ls hl
    refine lv_sipush (v := nI 999) hx hb dX0_leastValue_0 (by decide) ?_
    refine lv_istore_n (lv' := [(1, .int (nI 999)), (0, .ref (ad g (3 + i)))]) hx hb dX0_leastValue_3 rfl hl (by decide) rfl (fun ls hl => ?_)
    refine lv_iconst (v := nI 0) hx hb dX0_leastValue_4 (by decide) ?_
    refine lv_istore_n (lv' := [(2, .int (nI 0)), (1, .int (nI 999)), (0, .ref (ad g (3 + i)))]) hx hb dX0_leastValue_5 rfl hl (by decide) rfl (fun ls hl => ?_)
    exact L6 FU (nI 999) (nI 0) h H locs hw hS ls (lv_sub hl [2, 1, 0] rfl)
  exact main _ _ hw hS ls hl

theorem cf_X0_greatestValue : cfV RX0 yX0_greatestValue cX0_greatestValue 3 (some .int) 0 := ⟨⟨k_374, k_375, k_4, k_376⟩, by decide +kernel⟩
def f_X0_greatestValue_L4 (m : SM) (i : Nat) : Nat → Int32 → Int32 → Option (Int32)
  | 0, _, _ => none
  | n + 1, x1, x2 => (if (m (3 + i) 4) ≤ x2 then some x1 else gd x2 16 (f_X0_greatestValue_L4 m i n (mx x1 (m (11 + i) x2.toNatClampNeg)) (x2 + (nI 1))))
def f_X0_greatestValue (m : SM) (i : Nat) : Option (Int32) :=
  f_X0_greatestValue_L4 m i FU (nI 0) (nI 0)
set_option maxHeartbeats 4000000 in
set_option maxRecDepth 100000 in
theorem c_X0_greatestValue {l : Launch} {D : va_G} {cy : Nat → ClassId} {ad : Nat → Nat → Nat} (hcv : CV ad) {g : Nat} (hg : g < 7) {i : Nat} (hi : i < 8) {M0 : MM} {m : SM} (hm : M0 g = m) {r : Int32} (h : f_X0_greatestValue m i = some r) : Met l yX0_greatestValue (.code yX0_greatestValue cX0_greatestValue 3 (some .int) :: TB) ({ frames := 1, cells := 0, slots := 0, locals := 21 } : Room) (PW D cy ad M0 [.ref (ad g (3 + i))]) (QI D cy ad r M0) 0 0 (AD ad) := by
  refine m_in (by decide +kernel) (Nat.le_of_ble_eq_true rfl) ?_
  intro p e s md args below meth c hC hw hS ls hl
  obtain ⟨hx, hb, hr, hml, hown, hts, hK, hlk⟩ := hC
  have hl : lv_has ls 3 [(0, .ref (ad g (3 + i)))] := hl
  rw [← gs_same hm] at hw
  have L4 : ∀ (n : Nat), ∀ (x1 : Int32) (x2 : Int32), f_X0_greatestValue_L4 m i n x1 x2 = some r → JL p l e ({ frames := 1, cells := 0, slots := 0, locals := 21 } : Room) s md args below meth c D cy ad (MQ below (QI D cy ad r M0) args s 0 0 (AD ad)) (gs M0 g m) 3 [(0, .ref (ad g (3 + i))), (1, .int x1), (2, .int x2)] 4 [] := by
    intro n
    induction n with
    | zero =>
      intro x1 x2 h
      cases h
    | succ n ih =>
      intro x1 x2 h H locs hw hS ls hl
      rw [f_X0_greatestValue_L4.eq_2] at h
      refine lv_iload_n hx hb dX0_greatestValue_4 rfl (lv_at hl 2 rfl) ?_
      refine lv_aload_n hx hb dX0_greatestValue_5 rfl (lv_at hl 0 rfl) ?_
      refine r_get hx hb hts hown hK hw (v_bk hg hi) gs_atc (E_bk hg hi) inX0 rfl 4 (by decide) k_86 rfl rfl dX0_greatestValue_6 ?_
      refine lv_icmp_ge (tgt := 29) hx hb dX0_greatestValue_9 (by decide) (fun q1 => ?_) (fun q1 => ?_)
      · replace h := t_pos h q1
        refine lv_iload_n hx hb dX0_greatestValue_29 rfl (lv_at hl 1 rfl) ?_
        have e1 := Option.some.inj h
        exact e_i hx hb hr hlk hw hS e1 (gs_same hm) dX0_greatestValue_30
      · replace h := t_neg h q1
        refine lv_iload_n hx hb dX0_greatestValue_12 rfl (lv_at hl 1 rfl) ?_
        refine lv_aload_n hx hb dX0_greatestValue_13 rfl (lv_at hl 0 rfl) ?_
        refine r_get hx hb hts hown hK hw (v_bk hg hi) gs_atc (E_bk hg hi) inX0 rfl 0 (by decide) k_73 rfl rfl dX0_greatestValue_14 ?_
        refine lv_iload_n hx hb dX0_greatestValue_17 rfl (lv_at hl 2 rfl) ?_
        obtain ⟨q2, h⟩ := t_gd h
        refine r_iald hx hb hK hw (v_va hg hi) gs_atc (E_va hg hi) q2 dX0_greatestValue_18 ?_
        refine r_max hx hb hts (hml.trans hl.1.symm) hown k_294 k_295 k_9 k_296 (Nat.le_of_ble_eq_true rfl) (Nat.le_of_ble_eq_true rfl) (Nat.le_of_ble_eq_true rfl) (Nat.le_of_ble_eq_true rfl) dX0_greatestValue_19 ?_
        refine lv_istore_n (lv' := [(1, .int (mx x1 (m (11 + i) x2.toNatClampNeg))), (0, .ref (ad g (3 + i))), (2, .int x2)]) hx hb dX0_greatestValue_22 rfl hl (by decide) rfl (fun ls hl => ?_)
        refine lv_iinc (v := (x2 + (nI 1))) (lv' := [(2, .int (x2 + (nI 1))), (1, .int (mx x1 (m (11 + i) x2.toNatClampNeg))), (0, .ref (ad g (3 + i)))]) hx hb dX0_greatestValue_23 hl (k := 2) rfl rfl (by decide) rfl (fun ls hl => ?_)
        refine lv_goto (tgt := 4) hx hb dX0_greatestValue_26 (by decide) ?_
        exact ih (mx x1 (m (11 + i) x2.toNatClampNeg)) (x2 + (nI 1)) h H locs hw hS ls (lv_sub hl [2, 1, 0] rfl)
  unfold f_X0_greatestValue at h
  have main : JL p l e ({ frames := 1, cells := 0, slots := 0, locals := 21 } : Room) s md args below meth c D cy ad (MQ below (QI D cy ad r M0) args s 0 0 (AD ad)) (gs M0 g m) 3 [(0, .ref (ad g (3 + i)))] 0 [] := by
    intro H locs hw hS ls hl
    refine lv_iconst (v := nI 0) hx hb dX0_greatestValue_0 (by decide) ?_
    refine lv_istore_n (lv' := [(1, .int (nI 0)), (0, .ref (ad g (3 + i)))]) hx hb dX0_greatestValue_1 rfl hl (by decide) rfl (fun ls hl => ?_)
    refine lv_iconst (v := nI 0) hx hb dX0_greatestValue_2 (by decide) ?_
    refine lv_istore_n (lv' := [(2, .int (nI 0)), (1, .int (nI 0)), (0, .ref (ad g (3 + i)))]) hx hb dX0_greatestValue_3 rfl hl (by decide) rfl (fun ls hl => ?_)
    exact L4 FU (nI 0) (nI 0) h H locs hw hS ls (lv_sub hl [2, 1, 0] rfl)
  exact main _ _ hw hS ls hl

theorem cf_X0_readFromLimit : cfV RX0 yX0_readFromLimit cX0_readFromLimit 4 (some .int) 1 := ⟨⟨k_327, k_328, k_4, k_329⟩, by decide +kernel⟩
def f_X0_readFromLimit_L4 (m : SM) (i : Nat) (p0 : Int32) : Nat → Int32 → Int32 → Option (Int32)
  | 0, _, _ => none
  | n + 1, x2, x3 => (if (m (3 + i) 5) ≤ x3 then some x2 else gd x3 16 ((if (m (11 + i) x3.toNatClampNeg) < p0 then f_X0_readFromLimit_L4 m i p0 n x2 (x3 + (nI 1)) else f_X0_readFromLimit_L4 m i p0 n (x2 + (nI 1)) (x3 + (nI 1)))))
def f_X0_readFromLimit (m : SM) (i : Nat) (p0 : Int32) : Option (Int32) :=
  f_X0_readFromLimit_L4 m i p0 FU (nI 0) (nI 0)
set_option maxHeartbeats 4000000 in
set_option maxRecDepth 100000 in
theorem c_X0_readFromLimit {l : Launch} {D : va_G} {cy : Nat → ClassId} {ad : Nat → Nat → Nat} (hcv : CV ad) {g : Nat} (hg : g < 7) {i : Nat} (hi : i < 8) {M0 : MM} {m : SM} (hm : M0 g = m) {p0 : Int32} {r : Int32} (h : f_X0_readFromLimit m i p0 = some r) : Met l yX0_readFromLimit (.code yX0_readFromLimit cX0_readFromLimit 4 (some .int) :: TB) ({ frames := 0, cells := 0, slots := 0, locals := 0 } : Room) (PW D cy ad M0 [.ref (ad g (3 + i)), .int p0]) (QI D cy ad r M0) 0 0 (AD ad) := by
  refine m_in (by decide +kernel) (Nat.le_of_ble_eq_true rfl) ?_
  intro p e s md args below meth c hC hw hS ls hl
  obtain ⟨hx, hb, hr, hml, hown, hts, hK, hlk⟩ := hC
  have hl : lv_has ls 4 [(0, .ref (ad g (3 + i))), (1, .int p0)] := hl
  rw [← gs_same hm] at hw
  have L4 : ∀ (n : Nat), ∀ (x2 : Int32) (x3 : Int32), f_X0_readFromLimit_L4 m i p0 n x2 x3 = some r → JL p l e ({ frames := 0, cells := 0, slots := 0, locals := 0 } : Room) s md args below meth c D cy ad (MQ below (QI D cy ad r M0) args s 0 0 (AD ad)) (gs M0 g m) 4 [(0, .ref (ad g (3 + i))), (1, .int p0), (2, .int x2), (3, .int x3)] 4 [] := by
    intro n
    induction n with
    | zero =>
      intro x2 x3 h
      cases h
    | succ n ih =>
      intro x2 x3 h H locs hw hS ls hl
      rw [f_X0_readFromLimit_L4.eq_2] at h
      refine lv_iload_n hx hb dX0_readFromLimit_4 rfl (lv_at hl 3 rfl) ?_
      refine lv_aload_n hx hb dX0_readFromLimit_5 rfl (lv_at hl 0 rfl) ?_
      refine r_get hx hb hts hown hK hw (v_bk hg hi) gs_atc (E_bk hg hi) inX0 rfl 5 (by decide) k_89 rfl rfl dX0_readFromLimit_6 ?_
      refine lv_icmp_ge (tgt := 31) hx hb dX0_readFromLimit_9 (by decide) (fun q1 => ?_) (fun q1 => ?_)
      · replace h := t_pos h q1
        refine lv_iload_n hx hb dX0_readFromLimit_31 rfl (lv_at hl 2 rfl) ?_
        have e1 := Option.some.inj h
        exact e_i hx hb hr hlk hw hS e1 (gs_same hm) dX0_readFromLimit_32
      · replace h := t_neg h q1
        refine lv_aload_n hx hb dX0_readFromLimit_12 rfl (lv_at hl 0 rfl) ?_
        refine r_get hx hb hts hown hK hw (v_bk hg hi) gs_atc (E_bk hg hi) inX0 rfl 0 (by decide) k_73 rfl rfl dX0_readFromLimit_13 ?_
        refine lv_iload_n hx hb dX0_readFromLimit_16 rfl (lv_at hl 3 rfl) ?_
        obtain ⟨q2, h⟩ := t_gd h
        refine r_iald hx hb hK hw (v_va hg hi) gs_atc (E_va hg hi) q2 dX0_readFromLimit_17 ?_
        refine lv_iload_n hx hb dX0_readFromLimit_18 rfl (lv_at hl 1 rfl) ?_
        refine lv_icmp_lt (tgt := 25) hx hb dX0_readFromLimit_19 (by decide) (fun q3 => ?_) (fun q3 => ?_)
        · replace h := t_pos h q3
          refine lv_iinc (v := (x3 + (nI 1))) (lv' := [(3, .int (x3 + (nI 1))), (0, .ref (ad g (3 + i))), (1, .int p0), (2, .int x2)]) hx hb dX0_readFromLimit_25 hl (k := 3) rfl rfl (by decide) rfl (fun ls hl => ?_)
          refine lv_goto (tgt := 4) hx hb dX0_readFromLimit_28 (by decide) ?_
          exact ih x2 (x3 + (nI 1)) h H locs hw hS ls (lv_sub hl [1, 2, 3, 0] rfl)
        · replace h := t_neg h q3
          refine lv_iinc (v := (x2 + (nI 1))) (lv' := [(2, .int (x2 + (nI 1))), (0, .ref (ad g (3 + i))), (1, .int p0), (3, .int x3)]) hx hb dX0_readFromLimit_22 hl (k := 2) rfl rfl (by decide) rfl (fun ls hl => ?_)
          refine lv_iinc (v := (x3 + (nI 1))) (lv' := [(3, .int (x3 + (nI 1))), (2, .int (x2 + (nI 1))), (0, .ref (ad g (3 + i))), (1, .int p0)]) hx hb dX0_readFromLimit_25 hl (k := 3) rfl rfl (by decide) rfl (fun ls hl => ?_)
          refine lv_goto (tgt := 4) hx hb dX0_readFromLimit_28 (by decide) ?_
          exact ih (x2 + (nI 1)) (x3 + (nI 1)) h H locs hw hS ls (lv_sub hl [2, 3, 1, 0] rfl)
  unfold f_X0_readFromLimit at h
  have main : JL p l e ({ frames := 0, cells := 0, slots := 0, locals := 0 } : Room) s md args below meth c D cy ad (MQ below (QI D cy ad r M0) args s 0 0 (AD ad)) (gs M0 g m) 4 [(0, .ref (ad g (3 + i))), (1, .int p0)] 0 [] := by
    intro H locs hw hS ls hl
    refine lv_iconst (v := nI 0) hx hb dX0_readFromLimit_0 (by decide) ?_
    refine lv_istore_n (lv' := [(2, .int (nI 0)), (0, .ref (ad g (3 + i))), (1, .int p0)]) hx hb dX0_readFromLimit_1 rfl hl (by decide) rfl (fun ls hl => ?_)
    refine lv_iconst (v := nI 0) hx hb dX0_readFromLimit_2 (by decide) ?_
    refine lv_istore_n (lv' := [(3, .int (nI 0)), (2, .int (nI 0)), (0, .ref (ad g (3 + i))), (1, .int p0)]) hx hb dX0_readFromLimit_3 rfl hl (by decide) rfl (fun ls hl => ?_)
    exact L4 FU (nI 0) (nI 0) h H locs hw hS ls (lv_sub hl [2, 3, 1, 0] rfl)
  exact main _ _ hw hS ls hl

theorem cf_X0_share : cfV RX0 yX0_share cX0_share 5 (some .int) 3 := ⟨⟨k_319, k_320, k_4, k_321⟩, by decide +kernel⟩
def f_X0_share (m : SM) (i : Nat) (p0 : Int32) (p1 : Int32) (p2 : Int32) : Option (Int32) :=
  b1 (f_X0_unread m i) fun r2 => (if p0 = (nI 1) then b1 (f_X0_readFromLimit m i p1) fun r9 => (if p2 < p1 then some (r9 + (nI 0)) else some (r9 + r2)) else (if p0 = (nI 2) then (if r2 ≤ (nI 0) then some (m (3 + i) 7) else some (mn (m (3 + i) 7) p2)) else (if p0 = (nI 3) then (if r2 ≤ (nI 0) then some (m (3 + i) 8) else some (mx (m (3 + i) 8) p2)) else (some ((m (3 + i) 6) + (r2 * p2))))))
set_option maxHeartbeats 4000000 in
set_option maxRecDepth 100000 in
theorem c_X0_share {l : Launch} {D : va_G} {cy : Nat → ClassId} {ad : Nat → Nat → Nat} (hcv : CV ad) {g : Nat} (hg : g < 7) {i : Nat} (hi : i < 8) {M0 : MM} {m : SM} (hm : M0 g = m) {p0 p1 p2 : Int32} {r : Int32} (h : f_X0_share m i p0 p1 p2 = some r) : Met l yX0_share (.code yX0_share cX0_share 5 (some .int) :: TB) ({ frames := 1, cells := 0, slots := 0, locals := 23 } : Room) (PW D cy ad M0 [.ref (ad g (3 + i)), .int p0, .int p1, .int p2]) (QI D cy ad r M0) 0 0 (AD ad) := by
  refine m_in (by decide +kernel) (Nat.le_of_ble_eq_true rfl) ?_
  intro p e s md args below meth c hC hw hS ls hl
  obtain ⟨hx, hb, hr, hml, hown, hts, hK, hlk⟩ := hC
  have hl : lv_has ls 5 [(0, .ref (ad g (3 + i))), (1, .int p0), (2, .int p1), (3, .int p2)] := hl
  rw [← gs_same hm] at hw
  unfold f_X0_share at h
  have main : JL p l e ({ frames := 1, cells := 0, slots := 0, locals := 23 } : Room) s md args below meth c D cy ad (MQ below (QI D cy ad r M0) args s 0 0 (AD ad)) (gs M0 g m) 5 [(0, .ref (ad g (3 + i))), (1, .int p0), (2, .int p1), (3, .int p2)] 0 [] := by
    intro H locs hw hS ls hl
    refine lv_aload_n hx hb dX0_share_0 rfl (lv_at hl 0 rfl) ?_
    obtain ⟨r2, y1, h⟩ := t_b1 h
    refine c_vi hx hb hml hown hts hK hw hS (fun _ h => h) (As := []) (rest := []) (c_X0_unread hcv (g := g) (hg := hg) (i := i) (hi := hi) (M0 := gs M0 g m) (m := m) (hm := gs_at) y1) cf_X0_unread k_322 rfl rfl ⟨Nat.le_of_ble_eq_true rfl, Nat.le_of_ble_eq_true rfl⟩ (r_recv hK hw (v_bk hg hi) (E_bk hg hi) rfl) rfl hl.1 rfl (Nat.le_of_ble_eq_true rfl) ⟨Nat.le_refl _, Nat.le_refl _⟩ dX0_share_1 (fun H locs hw hS => ?_)
    refine lv_istore (lv' := [(4, .int r2), (0, .ref (ad g (3 + i))), (1, .int p0), (2, .int p1), (3, .int p2)]) hx hb dX0_share_4 hl (by decide) rfl (fun ls hl => ?_)
    refine lv_iload_n hx hb dX0_share_6 rfl (lv_at hl 2 rfl) ?_
    by_cases q3 : p0 = (nI 1)
    · replace h := t_pos h q3
      refine lv_tableIn (off := 25) (tgt := 32) hx hb dX0_share_7 (by rw [q3]; decide) (by rw [q3]; decide) (by rw [q3]; rfl) (by decide) ?_
      refine lv_aload_n hx hb dX0_share_32 rfl (lv_at hl 1 rfl) ?_
      refine lv_iload_n hx hb dX0_share_33 rfl (lv_at hl 3 rfl) ?_
      obtain ⟨r9, y8, h⟩ := t_b1 h
      refine c_vi hx hb hml hown hts hK hw hS (fun _ h => h) (As := [.int p1]) (rest := []) (c_X0_readFromLimit hcv (g := g) (hg := hg) (i := i) (hi := hi) (M0 := gs M0 g m) (m := m) (hm := gs_at) y8) cf_X0_readFromLimit k_326 rfl rfl ⟨Nat.le_of_ble_eq_true rfl, Nat.le_of_ble_eq_true rfl⟩ (r_recv hK hw (v_bk hg hi) (E_bk hg hi) rfl) rfl hl.1 rfl (Nat.le_of_ble_eq_true rfl) ⟨Nat.le_refl _, Nat.le_refl _⟩ dX0_share_34 (fun H locs hw hS => ?_)
      refine lv_iload_n hx hb dX0_share_37 rfl (lv_at hl 4 rfl) ?_
      refine lv_iload_n hx hb dX0_share_38 rfl (lv_at hl 3 rfl) ?_
      refine lv_icmp_lt (tgt := 47) hx hb dX0_share_39 (by decide) (fun q10 => ?_) (fun q10 => ?_)
      · replace h := t_pos h q10
        refine lv_iconst (v := nI 0) hx hb dX0_share_47 (by decide) ?_
        refine lv_iadd hx hb dX0_share_48 ?_
        have e1 := Option.some.inj h
        exact e_i hx hb hr hlk hw hS e1 (gs_same hm) dX0_share_49
      · replace h := t_neg h q10
        refine lv_iload hx hb dX0_share_42 (lv_at hl 0 rfl) ?_
        refine lv_goto (tgt := 48) hx hb dX0_share_44 (by decide) ?_
        refine lv_iadd hx hb dX0_share_48 ?_
        have e1 := Option.some.inj h
        exact e_i hx hb hr hlk hw hS e1 (gs_same hm) dX0_share_49
    · replace h := t_neg h q3
      by_cases q4 : p0 = (nI 2)
      · replace h := t_pos h q4
        refine lv_tableIn (off := 43) (tgt := 50) hx hb dX0_share_7 (by rw [q4]; decide) (by rw [q4]; decide) (by rw [q4]; rfl) (by decide) ?_
        refine lv_iload hx hb dX0_share_50 (lv_at hl 0 rfl) ?_
        refine lv_if_le (tgt := 66) hx hb dX0_share_52 (by decide) (fun q7 => ?_) (fun q7 => ?_)
        · replace h := t_pos h q7
          refine lv_aload_n hx hb dX0_share_66 rfl (lv_at hl 1 rfl) ?_
          refine r_get hx hb hts hown hK hw (v_bk hg hi) gs_atc (E_bk hg hi) inX0 rfl 7 (by decide) k_95 rfl rfl dX0_share_67 ?_
          have e1 := Option.some.inj h
          exact e_i hx hb hr hlk hw hS e1 (gs_same hm) dX0_share_70
        · replace h := t_neg h q7
          refine lv_aload_n hx hb dX0_share_55 rfl (lv_at hl 1 rfl) ?_
          refine r_get hx hb hts hown hK hw (v_bk hg hi) gs_atc (E_bk hg hi) inX0 rfl 7 (by decide) k_95 rfl rfl dX0_share_56 ?_
          refine lv_iload_n hx hb dX0_share_59 rfl (lv_at hl 4 rfl) ?_
          refine r_min hx hb hts (hml.trans hl.1.symm) hown k_291 k_292 k_9 k_293 (Nat.le_of_ble_eq_true rfl) (Nat.le_of_ble_eq_true rfl) (Nat.le_of_ble_eq_true rfl) (Nat.le_of_ble_eq_true rfl) dX0_share_60 ?_
          refine lv_goto (tgt := 70) hx hb dX0_share_63 (by decide) ?_
          have e1 := Option.some.inj h
          exact e_i hx hb hr hlk hw hS e1 (gs_same hm) dX0_share_70
      · replace h := t_neg h q4
        by_cases q5 : p0 = (nI 3)
        · replace h := t_pos h q5
          refine lv_tableIn (off := 64) (tgt := 71) hx hb dX0_share_7 (by rw [q5]; decide) (by rw [q5]; decide) (by rw [q5]; rfl) (by decide) ?_
          refine lv_iload hx hb dX0_share_71 (lv_at hl 0 rfl) ?_
          refine lv_if_le (tgt := 87) hx hb dX0_share_73 (by decide) (fun q6 => ?_) (fun q6 => ?_)
          · replace h := t_pos h q6
            refine lv_aload_n hx hb dX0_share_87 rfl (lv_at hl 1 rfl) ?_
            refine r_get hx hb hts hown hK hw (v_bk hg hi) gs_atc (E_bk hg hi) inX0 rfl 8 (by decide) k_96 rfl rfl dX0_share_88 ?_
            have e1 := Option.some.inj h
            exact e_i hx hb hr hlk hw hS e1 (gs_same hm) dX0_share_91
          · replace h := t_neg h q6
            refine lv_aload_n hx hb dX0_share_76 rfl (lv_at hl 1 rfl) ?_
            refine r_get hx hb hts hown hK hw (v_bk hg hi) gs_atc (E_bk hg hi) inX0 rfl 8 (by decide) k_96 rfl rfl dX0_share_77 ?_
            refine lv_iload_n hx hb dX0_share_80 rfl (lv_at hl 4 rfl) ?_
            refine r_max hx hb hts (hml.trans hl.1.symm) hown k_294 k_295 k_9 k_296 (Nat.le_of_ble_eq_true rfl) (Nat.le_of_ble_eq_true rfl) (Nat.le_of_ble_eq_true rfl) (Nat.le_of_ble_eq_true rfl) dX0_share_81 ?_
            refine lv_goto (tgt := 91) hx hb dX0_share_84 (by decide) ?_
            have e1 := Option.some.inj h
            exact e_i hx hb hr hlk hw hS e1 (gs_same hm) dX0_share_91
        · replace h := t_neg h q5
          refine lv_tableOut (tgt := 92) hx hb dX0_share_7 (tab_out (lo := 1) (n := 3) (by decide) (lt_s (lt_s (lt_s lt_0 q3) q4) q5)) (by decide) ?_
          refine lv_aload_n hx hb dX0_share_92 rfl (lv_at hl 1 rfl) ?_
          refine r_get hx hb hts hown hK hw (v_bk hg hi) gs_atc (E_bk hg hi) inX0 rfl 6 (by decide) k_92 rfl rfl dX0_share_93 ?_
          refine lv_iload hx hb dX0_share_96 (lv_at hl 0 rfl) ?_
          refine lv_iload_n hx hb dX0_share_98 rfl (lv_at hl 4 rfl) ?_
          refine lv_imul hx hb dX0_share_99 ?_
          refine lv_iadd hx hb dX0_share_100 ?_
          have e1 := Option.some.inj h
          exact e_i hx hb hr hlk hw hS e1 (gs_same hm) dX0_share_101
  exact main _ _ hw hS ls hl

theorem cf_X1_append : cfV RX1 yX1_append cX1_append 2 none 1 := ⟨⟨k_485, k_486, k_2, k_487⟩, by decide +kernel⟩
def f_X1_append (m : SM) (p0 : Int32) : Option (Int32 × SM) :=
  (if (nI 80) ≤ (m 0 2) then some (0, m) else gd (m 0 2) 80 (lt1 (up m 1 (m 0 2).toNatClampNeg (vp_nar .char p0)) fun m4 => lt1 (up m4 0 2 ((m4 0 2) + (nI 1))) fun m6 => some (0, m6)))
set_option maxHeartbeats 4000000 in
set_option maxRecDepth 100000 in
theorem c_X1_append {l : Launch} {D : va_G} {cy : Nat → ClassId} {ad : Nat → Nat → Nat} (hcv : CV ad) {M0 : MM} {m : SM} (hm : M0 7 = m) {p0 : Int32} {r : Int32} {x : SM} (h : f_X1_append m p0 = some (r, x)) : Met l yX1_append (.code yX1_append cX1_append 2 none :: TB) ({ frames := 0, cells := 0, slots := 0, locals := 0 } : Room) (PW D cy ad M0 [.ref (ad 7 0), .int p0]) (QV D cy ad (gs M0 7 x)) 0 0 (AD ad) := by
  refine m_in (by decide +kernel) (Nat.le_of_ble_eq_true rfl) ?_
  intro p e s md args below meth c hC hw hS ls hl
  obtain ⟨hx, hb, hr, hml, hown, hts, hK, hlk⟩ := hC
  have hl : lv_has ls 2 [(0, .ref (ad 7 0)), (1, .int p0)] := hl
  rw [← gs_same hm] at hw
  unfold f_X1_append at h
  have main : JL p l e ({ frames := 0, cells := 0, slots := 0, locals := 0 } : Room) s md args below meth c D cy ad (MQ below (QV D cy ad (gs M0 7 x)) args s 0 0 (AD ad)) (gs M0 7 m) 2 [(0, .ref (ad 7 0)), (1, .int p0)] 0 [] := by
    intro H locs hw hS ls hl
    refine lv_aload_n hx hb dX1_append_0 rfl (lv_at hl 0 rfl) ?_
    refine r_get hx hb hts hown hK hw (v_tx (by decide)) gs_atc E_tx inX1 rfl 2 (by decide) k_27 rfl rfl dX1_append_1 ?_
    refine lv_bipush (v := nI 80) hx hb dX1_append_4 (by decide) ?_
    refine lv_icmp_ge (tgt := 29) hx hb dX1_append_6 (by decide) (fun q1 => ?_) (fun q1 => ?_)
    · replace h := t_pos h q1
      have e1 := (t_ret h).1
      have e2 := (t_ret h).2
      exact e_v hx hb hr hlk hw hS (by rw [e2]) dX1_append_29
    · replace h := t_neg h q1
      refine lv_aload_n hx hb dX1_append_9 rfl (lv_at hl 0 rfl) ?_
      refine r_get hx hb hts hown hK hw (v_tx (by decide)) gs_atc E_tx inX1 rfl 0 (by decide) k_24 rfl rfl dX1_append_10 ?_
      refine lv_aload_n hx hb dX1_append_13 rfl (lv_at hl 0 rfl) ?_
      refine r_get hx hb hts hown hK hw (v_tx (by decide)) gs_atc E_tx inX1 rfl 2 (by decide) k_27 rfl rfl dX1_append_14 ?_
      refine lv_iload_n hx hb dX1_append_17 rfl (lv_at hl 1 rfl) ?_
      obtain ⟨q2, h⟩ := t_gd h
      obtain ⟨m4, e3, h⟩ := t_lt h
      refine r_cast hx hb hK hcv hw hS (v_tx (by decide)) gs_atc (fun _ => E_tc) q2 (gs_up e3) dX1_append_18 (fun H locs hw hS => ?_)
      refine lv_aload_n hx hb dX1_append_19 rfl (lv_at hl 0 rfl) ?_
      refine lv_dup hx hb dX1_append_20 rfl ?_
      refine r_get hx hb hts hown hK hw (v_tx (by decide)) gs_atc E_tx inX1 rfl 2 (by decide) k_27 rfl rfl dX1_append_21 ?_
      refine lv_iconst (v := nI 1) hx hb dX1_append_24 (by decide) ?_
      refine lv_iadd hx hb dX1_append_25 ?_
      obtain ⟨m6, e5, h⟩ := t_lt h
      refine r_put hx hb hts hown hK hcv hw hS (v_tx (by decide)) gs_atc E_tx inX1 rfl tyX1 tyX1_ok nmX1 2 (by decide) k_27 rfl rfl rfl rfl (Nat.le_of_ble_eq_true rfl) E_tx (gs_up e5) dX1_append_26 (fun H locs hw hS => ?_)
      have e1 := (t_ret h).1
      have e2 := (t_ret h).2
      exact e_v hx hb hr hlk hw hS (by rw [e2]) dX1_append_29
  exact main _ _ hw hS ls hl

theorem cf_X1_takeDigit : cfV RX1 yX1_takeDigit cX1_takeDigit 4 (some .int) 2 := ⟨⟨k_234, k_235, k_2, k_236⟩, by decide +kernel⟩
def f_X1_takeDigit (m : SM) (p0 : Int32) (p1 : Int32) : Option (Int32 × SM) :=
  (if (m 0 2) ≤ (m 0 3) then some ((-1 : Int32), m) else gd (m 0 3) 80 ((if (m 1 (m 0 3).toNatClampNeg) < p0 then some ((-1 : Int32), m) else gd (m 0 3) 80 ((if (m 1 (m 0 3).toNatClampNeg) ≤ p1 then gd (m 0 3) 80 (lt1 (up m 0 3 ((m 0 3) + (nI 1))) fun m8 => some (((m 1 (m 0 3).toNatClampNeg) - (nI 48)), m8)) else some ((-1 : Int32), m))))))
set_option maxHeartbeats 4000000 in
set_option maxRecDepth 100000 in
theorem c_X1_takeDigit {l : Launch} {D : va_G} {cy : Nat → ClassId} {ad : Nat → Nat → Nat} (hcv : CV ad) {M0 : MM} {m : SM} (hm : M0 7 = m) {p0 p1 : Int32} {r : Int32} {x : SM} (h : f_X1_takeDigit m p0 p1 = some (r, x)) : Met l yX1_takeDigit (.code yX1_takeDigit cX1_takeDigit 4 (some .int) :: TB) ({ frames := 0, cells := 0, slots := 0, locals := 0 } : Room) (PW D cy ad M0 [.ref (ad 7 0), .int p0, .int p1]) (QI D cy ad r (gs M0 7 x)) 0 0 (AD ad) := by
  refine m_in (by decide +kernel) (Nat.le_of_ble_eq_true rfl) ?_
  intro p e s md args below meth c hC hw hS ls hl
  obtain ⟨hx, hb, hr, hml, hown, hts, hK, hlk⟩ := hC
  have hl : lv_has ls 4 [(0, .ref (ad 7 0)), (1, .int p0), (2, .int p1)] := hl
  rw [← gs_same hm] at hw
  unfold f_X1_takeDigit at h
  have main : JL p l e ({ frames := 0, cells := 0, slots := 0, locals := 0 } : Room) s md args below meth c D cy ad (MQ below (QI D cy ad r (gs M0 7 x)) args s 0 0 (AD ad)) (gs M0 7 m) 4 [(0, .ref (ad 7 0)), (1, .int p0), (2, .int p1)] 0 [] := by
    intro H locs hw hS ls hl
    refine lv_aload_n hx hb dX1_takeDigit_0 rfl (lv_at hl 0 rfl) ?_
    refine r_get hx hb hts hown hK hw (v_tx (by decide)) gs_atc E_tx inX1 rfl 3 (by decide) k_30 rfl rfl dX1_takeDigit_1 ?_
    refine lv_aload_n hx hb dX1_takeDigit_4 rfl (lv_at hl 0 rfl) ?_
    refine r_get hx hb hts hown hK hw (v_tx (by decide)) gs_atc E_tx inX1 rfl 2 (by decide) k_27 rfl rfl dX1_takeDigit_5 ?_
    refine lv_icmp_ge (tgt := 37) hx hb dX1_takeDigit_8 (by decide) (fun q1 => ?_) (fun q1 => ?_)
    · replace h := t_pos h q1
      refine lv_iconst (v := -1) hx hb dX1_takeDigit_37 (by decide) ?_
      have e1 := (t_ret h).1
      have e2 := (t_ret h).2
      exact e_i hx hb hr hlk hw hS e1 (by rw [e2]) dX1_takeDigit_38
    · replace h := t_neg h q1
      refine lv_aload_n hx hb dX1_takeDigit_11 rfl (lv_at hl 0 rfl) ?_
      refine r_get hx hb hts hown hK hw (v_tx (by decide)) gs_atc E_tx inX1 rfl 0 (by decide) k_24 rfl rfl dX1_takeDigit_12 ?_
      refine lv_aload_n hx hb dX1_takeDigit_15 rfl (lv_at hl 0 rfl) ?_
      refine r_get hx hb hts hown hK hw (v_tx (by decide)) gs_atc E_tx inX1 rfl 3 (by decide) k_30 rfl rfl dX1_takeDigit_16 ?_
      obtain ⟨q2, h⟩ := t_gd h
      refine r_cald hx hb hK hw (v_tx (by decide)) gs_atc E_tc q2 dX1_takeDigit_19 ?_
      refine lv_iload_n hx hb dX1_takeDigit_20 rfl (lv_at hl 1 rfl) ?_
      refine lv_icmp_lt (tgt := 37) hx hb dX1_takeDigit_21 (by decide) (fun q3 => ?_) (fun q3 => ?_)
      · replace h := t_pos h q3
        refine lv_iconst (v := -1) hx hb dX1_takeDigit_37 (by decide) ?_
        have e1 := (t_ret h).1
        have e2 := (t_ret h).2
        exact e_i hx hb hr hlk hw hS e1 (by rw [e2]) dX1_takeDigit_38
      · replace h := t_neg h q3
        refine lv_aload_n hx hb dX1_takeDigit_24 rfl (lv_at hl 0 rfl) ?_
        refine r_get hx hb hts hown hK hw (v_tx (by decide)) gs_atc E_tx inX1 rfl 0 (by decide) k_24 rfl rfl dX1_takeDigit_25 ?_
        refine lv_aload_n hx hb dX1_takeDigit_28 rfl (lv_at hl 0 rfl) ?_
        refine r_get hx hb hts hown hK hw (v_tx (by decide)) gs_atc E_tx inX1 rfl 3 (by decide) k_30 rfl rfl dX1_takeDigit_29 ?_
        obtain ⟨q4, h⟩ := t_gd h
        refine r_cald hx hb hK hw (v_tx (by decide)) gs_atc E_tc q4 dX1_takeDigit_32 ?_
        refine lv_iload_n hx hb dX1_takeDigit_33 rfl (lv_at hl 2 rfl) ?_
        refine lv_icmp_le (tgt := 39) hx hb dX1_takeDigit_34 (by decide) (fun q5 => ?_) (fun q5 => ?_)
        · replace h := t_pos h q5
          refine lv_aload_n hx hb dX1_takeDigit_39 rfl (lv_at hl 0 rfl) ?_
          refine r_get hx hb hts hown hK hw (v_tx (by decide)) gs_atc E_tx inX1 rfl 0 (by decide) k_24 rfl rfl dX1_takeDigit_40 ?_
          refine lv_aload_n hx hb dX1_takeDigit_43 rfl (lv_at hl 0 rfl) ?_
          refine r_get hx hb hts hown hK hw (v_tx (by decide)) gs_atc E_tx inX1 rfl 3 (by decide) k_30 rfl rfl dX1_takeDigit_44 ?_
          obtain ⟨q6, h⟩ := t_gd h
          refine r_cald hx hb hK hw (v_tx (by decide)) gs_atc E_tc q6 dX1_takeDigit_47 ?_
          refine lv_bipush (v := nI 48) hx hb dX1_takeDigit_48 (by decide) ?_
          refine lv_isub hx hb dX1_takeDigit_50 ?_
          refine lv_istore_n (lv' := [(3, .int ((m 1 (m 0 3).toNatClampNeg) - (nI 48))), (0, .ref (ad 7 0)), (1, .int p0), (2, .int p1)]) hx hb dX1_takeDigit_51 rfl hl (by decide) rfl (fun ls hl => ?_)
          refine lv_aload_n hx hb dX1_takeDigit_52 rfl (lv_at hl 1 rfl) ?_
          refine lv_dup hx hb dX1_takeDigit_53 rfl ?_
          refine r_get hx hb hts hown hK hw (v_tx (by decide)) gs_atc E_tx inX1 rfl 3 (by decide) k_30 rfl rfl dX1_takeDigit_54 ?_
          refine lv_iconst (v := nI 1) hx hb dX1_takeDigit_57 (by decide) ?_
          refine lv_iadd hx hb dX1_takeDigit_58 ?_
          obtain ⟨m8, e7, h⟩ := t_lt h
          refine r_put hx hb hts hown hK hcv hw hS (v_tx (by decide)) gs_atc E_tx inX1 rfl tyX1 tyX1_ok nmX1 3 (by decide) k_30 rfl rfl rfl rfl (Nat.le_of_ble_eq_true rfl) E_tx (gs_up e7) dX1_takeDigit_59 (fun H locs hw hS => ?_)
          refine lv_iload_n hx hb dX1_takeDigit_62 rfl (lv_at hl 0 rfl) ?_
          have e1 := (t_ret h).1
          have e2 := (t_ret h).2
          exact e_i hx hb hr hlk hw hS e1 (by rw [e2]) dX1_takeDigit_63
        · replace h := t_neg h q5
          refine lv_iconst (v := -1) hx hb dX1_takeDigit_37 (by decide) ?_
          have e1 := (t_ret h).1
          have e2 := (t_ret h).2
          exact e_i hx hb hr hlk hw hS e1 (by rw [e2]) dX1_takeDigit_38
  exact main _ _ hw hS ls hl

theorem cf_X1_takeSign : cfV RX1 yX1_takeSign cX1_takeSign 2 (some .boolean) 1 := ⟨⟨k_238, k_239, k_2, k_240⟩, by decide +kernel⟩
def f_X1_takeSign (m : SM) (p0 : Int32) : Option (Int32 × SM) :=
  (if (m 0 2) ≤ (m 0 3) then some ((nI 0), m) else gd (m 0 3) 80 ((if (m 1 (m 0 3).toNatClampNeg) = p0 then lt1 (up m 0 3 ((m 0 3) + (nI 1))) fun m5 => some ((nI 1), m5) else some ((nI 0), m))))
set_option maxHeartbeats 4000000 in
set_option maxRecDepth 100000 in
theorem c_X1_takeSign {l : Launch} {D : va_G} {cy : Nat → ClassId} {ad : Nat → Nat → Nat} (hcv : CV ad) {M0 : MM} {m : SM} (hm : M0 7 = m) {p0 : Int32} {r : Int32} {x : SM} (h : f_X1_takeSign m p0 = some (r, x)) : Met l yX1_takeSign (.code yX1_takeSign cX1_takeSign 2 (some .boolean) :: TB) ({ frames := 0, cells := 0, slots := 0, locals := 0 } : Room) (PW D cy ad M0 [.ref (ad 7 0), .int p0]) (QI D cy ad r (gs M0 7 x)) 0 0 (AD ad) := by
  refine m_in (by decide +kernel) (Nat.le_of_ble_eq_true rfl) ?_
  intro p e s md args below meth c hC hw hS ls hl
  obtain ⟨hx, hb, hr, hml, hown, hts, hK, hlk⟩ := hC
  have hl : lv_has ls 2 [(0, .ref (ad 7 0)), (1, .int p0)] := hl
  rw [← gs_same hm] at hw
  unfold f_X1_takeSign at h
  have main : JL p l e ({ frames := 0, cells := 0, slots := 0, locals := 0 } : Room) s md args below meth c D cy ad (MQ below (QI D cy ad r (gs M0 7 x)) args s 0 0 (AD ad)) (gs M0 7 m) 2 [(0, .ref (ad 7 0)), (1, .int p0)] 0 [] := by
    intro H locs hw hS ls hl
    refine lv_aload_n hx hb dX1_takeSign_0 rfl (lv_at hl 0 rfl) ?_
    refine r_get hx hb hts hown hK hw (v_tx (by decide)) gs_atc E_tx inX1 rfl 3 (by decide) k_30 rfl rfl dX1_takeSign_1 ?_
    refine lv_aload_n hx hb dX1_takeSign_4 rfl (lv_at hl 0 rfl) ?_
    refine r_get hx hb hts hown hK hw (v_tx (by decide)) gs_atc E_tx inX1 rfl 2 (by decide) k_27 rfl rfl dX1_takeSign_5 ?_
    refine lv_icmp_ge (tgt := 24) hx hb dX1_takeSign_8 (by decide) (fun q1 => ?_) (fun q1 => ?_)
    · replace h := t_pos h q1
      refine lv_iconst (v := nI 0) hx hb dX1_takeSign_24 (by decide) ?_
      have e1 := (t_ret h).1
      have e2 := (t_ret h).2
      exact e_z hx hb hr hlk (Or.inl rfl) hw hS e1 (by rw [e2]) dX1_takeSign_25
    · replace h := t_neg h q1
      refine lv_aload_n hx hb dX1_takeSign_11 rfl (lv_at hl 0 rfl) ?_
      refine r_get hx hb hts hown hK hw (v_tx (by decide)) gs_atc E_tx inX1 rfl 0 (by decide) k_24 rfl rfl dX1_takeSign_12 ?_
      refine lv_aload_n hx hb dX1_takeSign_15 rfl (lv_at hl 0 rfl) ?_
      refine r_get hx hb hts hown hK hw (v_tx (by decide)) gs_atc E_tx inX1 rfl 3 (by decide) k_30 rfl rfl dX1_takeSign_16 ?_
      obtain ⟨q2, h⟩ := t_gd h
      refine r_cald hx hb hK hw (v_tx (by decide)) gs_atc E_tc q2 dX1_takeSign_19 ?_
      refine lv_iload_n hx hb dX1_takeSign_20 rfl (lv_at hl 1 rfl) ?_
      refine lv_icmp_eq (tgt := 26) hx hb dX1_takeSign_21 (by decide) (fun q3 => ?_) (fun q3 => ?_)
      · replace h := t_pos h q3
        refine lv_aload_n hx hb dX1_takeSign_26 rfl (lv_at hl 0 rfl) ?_
        refine lv_dup hx hb dX1_takeSign_27 rfl ?_
        refine r_get hx hb hts hown hK hw (v_tx (by decide)) gs_atc E_tx inX1 rfl 3 (by decide) k_30 rfl rfl dX1_takeSign_28 ?_
        refine lv_iconst (v := nI 1) hx hb dX1_takeSign_31 (by decide) ?_
        refine lv_iadd hx hb dX1_takeSign_32 ?_
        obtain ⟨m5, e4, h⟩ := t_lt h
        refine r_put hx hb hts hown hK hcv hw hS (v_tx (by decide)) gs_atc E_tx inX1 rfl tyX1 tyX1_ok nmX1 3 (by decide) k_30 rfl rfl rfl rfl (Nat.le_of_ble_eq_true rfl) E_tx (gs_up e4) dX1_takeSign_33 (fun H locs hw hS => ?_)
        refine lv_iconst (v := nI 1) hx hb dX1_takeSign_36 (by decide) ?_
        have e1 := (t_ret h).1
        have e2 := (t_ret h).2
        exact e_z hx hb hr hlk (Or.inr rfl) hw hS e1 (by rw [e2]) dX1_takeSign_37
      · replace h := t_neg h q3
        refine lv_iconst (v := nI 0) hx hb dX1_takeSign_24 (by decide) ?_
        have e1 := (t_ret h).1
        have e2 := (t_ret h).2
        exact e_z hx hb hr hlk (Or.inl rfl) hw hS e1 (by rw [e2]) dX1_takeSign_25
  exact main _ _ hw hS ls hl

theorem cf_X1_takeNumber : cfV RX1 yX1_takeNumber cX1_takeNumber 4 (some .int) 0 := ⟨⟨k_242, k_243, k_2, k_244⟩, by decide +kernel⟩
def f_X1_takeNumber_L11 : Nat → SM → Int32 → Int32 → Option (Int32 × SM)
  | 0, _, _, _ => none
  | n + 1, m, x1, x2 => (if (nI 3) ≤ x2 then some (x1, m) else (if x1 ≤ (nI 0) then some (x1, m) else bd (f_X1_takeDigit m (nI 48) (nI 57)) fun r4 m5 => (if (nI 0) ≤ r4 then f_X1_takeNumber_L11 n m5 (((nI 10) * x1) + r4) (x2 + (nI 1)) else some (x1, m5))))
def f_X1_takeNumber (m : SM) : Option (Int32 × SM) :=
  bd (f_X1_takeDigit m (nI 48) (nI 57)) fun r2 m3 => f_X1_takeNumber_L11 FU m3 r2 (nI 1)
set_option maxHeartbeats 4000000 in
set_option maxRecDepth 100000 in
theorem c_X1_takeNumber {l : Launch} {D : va_G} {cy : Nat → ClassId} {ad : Nat → Nat → Nat} (hcv : CV ad) {M0 : MM} {m : SM} (hm : M0 7 = m) {r : Int32} {x : SM} (h : f_X1_takeNumber m = some (r, x)) : Met l yX1_takeNumber (.code yX1_takeNumber cX1_takeNumber 4 (some .int) :: TB) ({ frames := 1, cells := 0, slots := 0, locals := 23 } : Room) (PW D cy ad M0 [.ref (ad 7 0)]) (QI D cy ad r (gs M0 7 x)) 0 0 (AD ad) := by
  refine m_in (by decide +kernel) (Nat.le_of_ble_eq_true rfl) ?_
  intro p e s md args below meth c hC hw hS ls hl
  obtain ⟨hx, hb, hr, hml, hown, hts, hK, hlk⟩ := hC
  have hl : lv_has ls 4 [(0, .ref (ad 7 0))] := hl
  rw [← gs_same hm] at hw
  have L11 : ∀ (n : Nat), ∀ (m : SM) (x1 : Int32) (x2 : Int32), f_X1_takeNumber_L11 n m x1 x2 = some (r, x) → JL p l e ({ frames := 1, cells := 0, slots := 0, locals := 23 } : Room) s md args below meth c D cy ad (MQ below (QI D cy ad r (gs M0 7 x)) args s 0 0 (AD ad)) (gs M0 7 m) 4 [(0, .ref (ad 7 0)), (1, .int x1), (2, .int x2)] 11 [] := by
    intro n
    induction n with
    | zero =>
      intro m x1 x2 h
      cases h
    | succ n ih =>
      intro m x1 x2 h H locs hw hS ls hl
      rw [f_X1_takeNumber_L11.eq_2] at h
      refine lv_iload_n hx hb dX1_takeNumber_11 rfl (lv_at hl 2 rfl) ?_
      refine lv_iconst (v := nI 3) hx hb dX1_takeNumber_12 (by decide) ?_
      refine lv_icmp_ge (tgt := 48) hx hb dX1_takeNumber_13 (by decide) (fun q1 => ?_) (fun q1 => ?_)
      · replace h := t_pos h q1
        refine lv_iload_n hx hb dX1_takeNumber_48 rfl (lv_at hl 1 rfl) ?_
        have e1 := (t_ret h).1
        have e2 := (t_ret h).2
        exact e_i hx hb hr hlk hw hS e1 (by rw [e2]) dX1_takeNumber_49
      · replace h := t_neg h q1
        refine lv_iload_n hx hb dX1_takeNumber_16 rfl (lv_at hl 1 rfl) ?_
        refine lv_if_le (tgt := 48) hx hb dX1_takeNumber_17 (by decide) (fun q2 => ?_) (fun q2 => ?_)
        · replace h := t_pos h q2
          refine lv_iload_n hx hb dX1_takeNumber_48 rfl (lv_at hl 1 rfl) ?_
          have e1 := (t_ret h).1
          have e2 := (t_ret h).2
          exact e_i hx hb hr hlk hw hS e1 (by rw [e2]) dX1_takeNumber_49
        · replace h := t_neg h q2
          refine lv_aload_n hx hb dX1_takeNumber_20 rfl (lv_at hl 0 rfl) ?_
          refine lv_bipush (v := nI 48) hx hb dX1_takeNumber_21 (by decide) ?_
          refine lv_bipush (v := nI 57) hx hb dX1_takeNumber_23 (by decide) ?_
          obtain ⟨r4, m5, y3, h⟩ := t_bd h
          refine c_vi hx hb hml hown hts hK hw hS (fun _ h => h) (As := [.int (nI 48), .int (nI 57)]) (rest := []) (c_X1_takeDigit hcv (M0 := gs M0 7 m) (m := m) (hm := gs_at) y3) cf_X1_takeDigit k_233 rfl rfl ⟨Nat.le_of_ble_eq_true rfl, Nat.le_of_ble_eq_true rfl⟩ (r_recv hK hw (v_tx (by decide)) E_tx rfl) rfl hl.1 rfl (Nat.le_of_ble_eq_true rfl) ⟨Nat.le_refl _, Nat.le_refl _⟩ dX1_takeNumber_25 (fun H locs hw hS => ?_)
          rw [gs_gs] at hw
          refine lv_istore_n (lv' := [(3, .int r4), (0, .ref (ad 7 0)), (1, .int x1), (2, .int x2)]) hx hb dX1_takeNumber_28 rfl hl (by decide) rfl (fun ls hl => ?_)
          refine lv_iload_n hx hb dX1_takeNumber_29 rfl (lv_at hl 0 rfl) ?_
          refine lv_if_ge (tgt := 35) hx hb dX1_takeNumber_30 (by decide) (fun q6 => ?_) (fun q6 => ?_)
          · replace h := t_pos h q6
            refine lv_bipush (v := nI 10) hx hb dX1_takeNumber_35 (by decide) ?_
            refine lv_iload_n hx hb dX1_takeNumber_37 rfl (lv_at hl 2 rfl) ?_
            refine lv_imul hx hb dX1_takeNumber_38 ?_
            refine lv_iload_n hx hb dX1_takeNumber_39 rfl (lv_at hl 0 rfl) ?_
            refine lv_iadd hx hb dX1_takeNumber_40 ?_
            refine lv_istore_n (lv' := [(1, .int (((nI 10) * x1) + r4)), (3, .int r4), (0, .ref (ad 7 0)), (2, .int x2)]) hx hb dX1_takeNumber_41 rfl hl (by decide) rfl (fun ls hl => ?_)
            refine lv_iinc (v := (x2 + (nI 1))) (lv' := [(2, .int (x2 + (nI 1))), (1, .int (((nI 10) * x1) + r4)), (3, .int r4), (0, .ref (ad 7 0))]) hx hb dX1_takeNumber_42 hl (k := 3) rfl rfl (by decide) rfl (fun ls hl => ?_)
            refine lv_goto (tgt := 11) hx hb dX1_takeNumber_45 (by decide) ?_
            exact ih m5 (((nI 10) * x1) + r4) (x2 + (nI 1)) h H locs hw hS ls (lv_sub hl [3, 1, 0] rfl)
          · replace h := t_neg h q6
            refine lv_iload_n hx hb dX1_takeNumber_33 rfl (lv_at hl 2 rfl) ?_
            have e1 := (t_ret h).1
            have e2 := (t_ret h).2
            exact e_i hx hb hr hlk hw hS e1 (by rw [e2]) dX1_takeNumber_34
  unfold f_X1_takeNumber at h
  have main : JL p l e ({ frames := 1, cells := 0, slots := 0, locals := 23 } : Room) s md args below meth c D cy ad (MQ below (QI D cy ad r (gs M0 7 x)) args s 0 0 (AD ad)) (gs M0 7 m) 4 [(0, .ref (ad 7 0))] 0 [] := by
    intro H locs hw hS ls hl
    refine lv_aload_n hx hb dX1_takeNumber_0 rfl (lv_at hl 0 rfl) ?_
    refine lv_bipush (v := nI 48) hx hb dX1_takeNumber_1 (by decide) ?_
    refine lv_bipush (v := nI 57) hx hb dX1_takeNumber_3 (by decide) ?_
    obtain ⟨r2, m3, y1, h⟩ := t_bd h
    refine c_vi hx hb hml hown hts hK hw hS (fun _ h => h) (As := [.int (nI 48), .int (nI 57)]) (rest := []) (c_X1_takeDigit hcv (M0 := gs M0 7 m) (m := m) (hm := gs_at) y1) cf_X1_takeDigit k_233 rfl rfl ⟨Nat.le_of_ble_eq_true rfl, Nat.le_of_ble_eq_true rfl⟩ (r_recv hK hw (v_tx (by decide)) E_tx rfl) rfl hl.1 rfl (Nat.le_of_ble_eq_true rfl) ⟨Nat.le_refl _, Nat.le_refl _⟩ dX1_takeNumber_5 (fun H locs hw hS => ?_)
    rw [gs_gs] at hw
    refine lv_istore_n (lv' := [(1, .int r2), (0, .ref (ad 7 0))]) hx hb dX1_takeNumber_8 rfl hl (by decide) rfl (fun ls hl => ?_)
    refine lv_iconst (v := nI 1) hx hb dX1_takeNumber_9 (by decide) ?_
    refine lv_istore_n (lv' := [(2, .int (nI 1)), (1, .int r2), (0, .ref (ad 7 0))]) hx hb dX1_takeNumber_10 rfl hl (by decide) rfl (fun ls hl => ?_)
    exact L11 FU m3 r2 (nI 1) h H locs hw hS ls (lv_sub hl [2, 1, 0] rfl)
  exact main _ _ hw hS ls hl

theorem cf_X1_takeValues : cfV RX1 yX1_takeValues cX1_takeValues 3 (some .boolean) 0 := ⟨⟨k_246, k_247, k_2, k_248⟩, by decide +kernel⟩
def f_X1_takeValues_L28 (k7 : SM → Int32 → Option (Int32 × SM)) (m : SM) (x1 : Int32) : Option (Int32 × SM) :=
  bd (f_X1_takeNumber m) fun r2 m3 => (if (nI 0) ≤ r2 then gd x1 16 (lt1 (up m3 2 x1.toNatClampNeg r2) fun m7 => lt1 (up m7 0 7 ((m7 0 7) + (nI 1))) fun m9 => (if (m9 0 3) < (m9 0 2) then k7 m9 (x1 + (nI 1)) else some ((nI 1), m9))) else some ((nI 0), m3))
def f_X1_takeValues_L7 : Nat → SM → Int32 → Option (Int32 × SM)
  | 0, _, _ => none
  | n + 1, m, x1 => (if (nI 16) ≤ x1 then some ((nI 0), m) else (if x1 ≤ (nI 0) then f_X1_takeValues_L28 (f_X1_takeValues_L7 n) m x1 else bd (f_X1_takeSign m (nI 44)) fun r4 m5 => (if r4 = (nI 0) then some ((nI 0), m5) else f_X1_takeValues_L28 (f_X1_takeValues_L7 n) m5 x1)))
def f_X1_takeValues (m : SM) : Option (Int32 × SM) :=
  lt1 (up m 0 7 (nI 0)) fun m2 => f_X1_takeValues_L7 FU m2 (nI 0)
set_option maxHeartbeats 4000000 in
set_option maxRecDepth 100000 in
theorem c_X1_takeValues {l : Launch} {D : va_G} {cy : Nat → ClassId} {ad : Nat → Nat → Nat} (hcv : CV ad) {M0 : MM} {m : SM} (hm : M0 7 = m) {r : Int32} {x : SM} (h : f_X1_takeValues m = some (r, x)) : Met l yX1_takeValues (.code yX1_takeValues cX1_takeValues 3 (some .boolean) :: TB) ({ frames := 2, cells := 0, slots := 0, locals := 46 } : Room) (PW D cy ad M0 [.ref (ad 7 0)]) (QI D cy ad r (gs M0 7 x)) 0 0 (AD ad) := by
  refine m_in (by decide +kernel) (Nat.le_of_ble_eq_true rfl) ?_
  intro p e s md args below meth c hC hw hS ls hl
  obtain ⟨hx, hb, hr, hml, hown, hts, hK, hlk⟩ := hC
  have hl : lv_has ls 3 [(0, .ref (ad 7 0))] := hl
  rw [← gs_same hm] at hw
  have L28 : ∀ (k7 : SM → Int32 → Option (Int32 × SM)) (hk7 : ∀ (m : SM) (x1 : Int32), k7 m x1 = some (r, x) → JL p l e ({ frames := 2, cells := 0, slots := 0, locals := 46 } : Room) s md args below meth c D cy ad (MQ below (QI D cy ad r (gs M0 7 x)) args s 0 0 (AD ad)) (gs M0 7 m) 3 [(0, .ref (ad 7 0)), (1, .int x1)] 7 []), ∀ (m : SM) (x1 : Int32), f_X1_takeValues_L28 k7 m x1 = some (r, x) → JL p l e ({ frames := 2, cells := 0, slots := 0, locals := 46 } : Room) s md args below meth c D cy ad (MQ below (QI D cy ad r (gs M0 7 x)) args s 0 0 (AD ad)) (gs M0 7 m) 3 [(0, .ref (ad 7 0)), (1, .int x1)] 28 [] := by
    intro k7 hk7 m x1 h H locs hw hS ls hl
    unfold f_X1_takeValues_L28 at h
    refine lv_aload_n hx hb dX1_takeValues_28 rfl (lv_at hl 0 rfl) ?_
    obtain ⟨r2, m3, y1, h⟩ := t_bd h
    refine c_vi hx hb hml hown hts hK hw hS (fun _ h => h) (As := []) (rest := []) (c_X1_takeNumber hcv (M0 := gs M0 7 m) (m := m) (hm := gs_at) y1) cf_X1_takeNumber k_241 rfl rfl ⟨Nat.le_of_ble_eq_true rfl, Nat.le_of_ble_eq_true rfl⟩ (r_recv hK hw (v_tx (by decide)) E_tx rfl) rfl hl.1 rfl (Nat.le_of_ble_eq_true rfl) ⟨Nat.le_refl _, Nat.le_refl _⟩ dX1_takeValues_29 (fun H locs hw hS => ?_)
    rw [gs_gs] at hw
    refine lv_istore_n (lv' := [(2, .int r2), (0, .ref (ad 7 0)), (1, .int x1)]) hx hb dX1_takeValues_32 rfl hl (by decide) rfl (fun ls hl => ?_)
    refine lv_iload_n hx hb dX1_takeValues_33 rfl (lv_at hl 0 rfl) ?_
    refine lv_if_ge (tgt := 39) hx hb dX1_takeValues_34 (by decide) (fun q4 => ?_) (fun q4 => ?_)
    · replace h := t_pos h q4
      refine lv_aload_n hx hb dX1_takeValues_39 rfl (lv_at hl 1 rfl) ?_
      refine r_get hx hb hts hown hK hw (v_tx (by decide)) gs_atc E_tx inX1 rfl 1 (by decide) k_25 rfl rfl dX1_takeValues_40 ?_
      refine lv_iload_n hx hb dX1_takeValues_43 rfl (lv_at hl 2 rfl) ?_
      refine lv_iload_n hx hb dX1_takeValues_44 rfl (lv_at hl 0 rfl) ?_
      obtain ⟨q5, h⟩ := t_gd h
      obtain ⟨m7, e6, h⟩ := t_lt h
      refine r_iast hx hb hK hcv hw hS (v_tx (by decide)) gs_atc (fun _ => E_tv) q5 (gs_up e6) dX1_takeValues_45 (fun H locs hw hS => ?_)
      refine lv_aload_n hx hb dX1_takeValues_46 rfl (lv_at hl 1 rfl) ?_
      refine lv_dup hx hb dX1_takeValues_47 rfl ?_
      refine r_get hx hb hts hown hK hw (v_tx (by decide)) gs_atc E_tx inX1 rfl 7 (by decide) k_38 rfl rfl dX1_takeValues_48 ?_
      refine lv_iconst (v := nI 1) hx hb dX1_takeValues_51 (by decide) ?_
      refine lv_iadd hx hb dX1_takeValues_52 ?_
      obtain ⟨m9, e8, h⟩ := t_lt h
      refine r_put hx hb hts hown hK hcv hw hS (v_tx (by decide)) gs_atc E_tx inX1 rfl tyX1 tyX1_ok nmX1 7 (by decide) k_38 rfl rfl rfl rfl (Nat.le_of_ble_eq_true rfl) E_tx (gs_up e8) dX1_takeValues_53 (fun H locs hw hS => ?_)
      refine lv_aload_n hx hb dX1_takeValues_56 rfl (lv_at hl 1 rfl) ?_
      refine r_get hx hb hts hown hK hw (v_tx (by decide)) gs_atc E_tx inX1 rfl 3 (by decide) k_30 rfl rfl dX1_takeValues_57 ?_
      refine lv_aload_n hx hb dX1_takeValues_60 rfl (lv_at hl 1 rfl) ?_
      refine r_get hx hb hts hown hK hw (v_tx (by decide)) gs_atc E_tx inX1 rfl 2 (by decide) k_27 rfl rfl dX1_takeValues_61 ?_
      refine lv_icmp_lt (tgt := 69) hx hb dX1_takeValues_64 (by decide) (fun q10 => ?_) (fun q10 => ?_)
      · replace h := t_pos h q10
        refine lv_iinc (v := (x1 + (nI 1))) (lv' := [(1, .int (x1 + (nI 1))), (2, .int r2), (0, .ref (ad 7 0))]) hx hb dX1_takeValues_69 hl (k := 2) rfl rfl (by decide) rfl (fun ls hl => ?_)
        refine lv_goto (tgt := 7) hx hb dX1_takeValues_72 (by decide) ?_
        exact hk7 m9 (x1 + (nI 1)) h H locs hw hS ls (lv_sub hl [2, 0] rfl)
      · replace h := t_neg h q10
        refine lv_iconst (v := nI 1) hx hb dX1_takeValues_67 (by decide) ?_
        have e1 := (t_ret h).1
        have e2 := (t_ret h).2
        exact e_z hx hb hr hlk (Or.inr rfl) hw hS e1 (by rw [e2]) dX1_takeValues_68
    · replace h := t_neg h q4
      refine lv_iconst (v := nI 0) hx hb dX1_takeValues_37 (by decide) ?_
      have e1 := (t_ret h).1
      have e2 := (t_ret h).2
      exact e_z hx hb hr hlk (Or.inl rfl) hw hS e1 (by rw [e2]) dX1_takeValues_38
  have L7 : ∀ (n : Nat), ∀ (m : SM) (x1 : Int32), f_X1_takeValues_L7 n m x1 = some (r, x) → JL p l e ({ frames := 2, cells := 0, slots := 0, locals := 46 } : Room) s md args below meth c D cy ad (MQ below (QI D cy ad r (gs M0 7 x)) args s 0 0 (AD ad)) (gs M0 7 m) 3 [(0, .ref (ad 7 0)), (1, .int x1)] 7 [] := by
    intro n
    induction n with
    | zero =>
      intro m x1 h
      cases h
    | succ n ih =>
      intro m x1 h H locs hw hS ls hl
      rw [f_X1_takeValues_L7.eq_2] at h
      refine lv_iload_n hx hb dX1_takeValues_7 rfl (lv_at hl 1 rfl) ?_
      refine lv_bipush (v := nI 16) hx hb dX1_takeValues_8 (by decide) ?_
      refine lv_icmp_ge (tgt := 75) hx hb dX1_takeValues_10 (by decide) (fun q1 => ?_) (fun q1 => ?_)
      · replace h := t_pos h q1
        refine lv_iconst (v := nI 0) hx hb dX1_takeValues_75 (by decide) ?_
        have e1 := (t_ret h).1
        have e2 := (t_ret h).2
        exact e_z hx hb hr hlk (Or.inl rfl) hw hS e1 (by rw [e2]) dX1_takeValues_76
      · replace h := t_neg h q1
        refine lv_iload_n hx hb dX1_takeValues_13 rfl (lv_at hl 1 rfl) ?_
        refine lv_if_le (tgt := 28) hx hb dX1_takeValues_14 (by decide) (fun q2 => ?_) (fun q2 => ?_)
        · replace h := t_pos h q2
          exact L28 (f_X1_takeValues_L7 n) ih m x1 h H locs hw hS ls (lv_sub hl [0, 1] rfl)
        · replace h := t_neg h q2
          refine lv_aload_n hx hb dX1_takeValues_17 rfl (lv_at hl 0 rfl) ?_
          refine lv_bipush (v := nI 44) hx hb dX1_takeValues_18 (by decide) ?_
          obtain ⟨r4, m5, y3, h⟩ := t_bd h
          refine c_vi hx hb hml hown hts hK hw hS (fun _ h => h) (As := [.int (nI 44)]) (rest := []) (c_X1_takeSign hcv (M0 := gs M0 7 m) (m := m) (hm := gs_at) y3) cf_X1_takeSign k_237 rfl rfl ⟨Nat.le_of_ble_eq_true rfl, Nat.le_of_ble_eq_true rfl⟩ (r_recv hK hw (v_tx (by decide)) E_tx rfl) rfl hl.1 rfl (Nat.le_of_ble_eq_true rfl) ⟨Nat.le_refl _, Nat.le_refl _⟩ dX1_takeValues_20 (fun H locs hw hS => ?_)
          rw [gs_gs] at hw
          refine lv_if_ne (tgt := 28) hx hb dX1_takeValues_23 (by decide) (fun q6 => ?_) (fun q6 => ?_)
          · replace h := t_neg h q6
            exact L28 (f_X1_takeValues_L7 n) ih m5 x1 h H locs hw hS ls (lv_sub hl [0, 1] rfl)
          · replace h := t_pos h q6
            refine lv_iconst (v := nI 0) hx hb dX1_takeValues_26 (by decide) ?_
            have e1 := (t_ret h).1
            have e2 := (t_ret h).2
            exact e_z hx hb hr hlk (Or.inl rfl) hw hS e1 (by rw [e2]) dX1_takeValues_27
  unfold f_X1_takeValues at h
  have main : JL p l e ({ frames := 2, cells := 0, slots := 0, locals := 46 } : Room) s md args below meth c D cy ad (MQ below (QI D cy ad r (gs M0 7 x)) args s 0 0 (AD ad)) (gs M0 7 m) 3 [(0, .ref (ad 7 0))] 0 [] := by
    intro H locs hw hS ls hl
    refine lv_aload_n hx hb dX1_takeValues_0 rfl (lv_at hl 0 rfl) ?_
    refine lv_iconst (v := nI 0) hx hb dX1_takeValues_1 (by decide) ?_
    obtain ⟨m2, e1, h⟩ := t_lt h
    refine r_put hx hb hts hown hK hcv hw hS (v_tx (by decide)) gs_atc E_tx inX1 rfl tyX1 tyX1_ok nmX1 7 (by decide) k_38 rfl rfl rfl rfl (Nat.le_of_ble_eq_true rfl) E_tx (gs_up e1) dX1_takeValues_2 (fun H locs hw hS => ?_)
    refine lv_iconst (v := nI 0) hx hb dX1_takeValues_5 (by decide) ?_
    refine lv_istore_n (lv' := [(1, .int (nI 0)), (0, .ref (ad 7 0))]) hx hb dX1_takeValues_6 rfl hl (by decide) rfl (fun ls hl => ?_)
    exact L7 FU m2 (nI 0) h H locs hw hS ls (lv_sub hl [1, 0] rfl)
  exact main _ _ hw hS ls hl

theorem cf_X1_parse : cfV RX1 yX1_parse cX1_parse 1 (some .boolean) 0 := ⟨⟨k_230, k_231, k_2, k_232⟩, by decide +kernel⟩
def f_X1_parse (m : SM) : Option (Int32 × SM) :=
  lt1 (up m 0 3 (nI 0)) fun m2 => bd (f_X1_takeDigit m2 (nI 48) (nI 51)) fun r4 m5 => lt1 (up m5 0 4 r4) fun m7 => (if (m7 0 4) < (nI 0) then some ((nI 0), m7) else bd (f_X1_takeSign m7 (nI 58)) fun r10 m11 => (if r10 = (nI 0) then some ((nI 0), m11) else bd (f_X1_takeNumber m11) fun r14 m15 => lt1 (up m15 0 5 r14) fun m17 => (if (m17 0 5) < (nI 0) then some ((nI 0), m17) else bd (f_X1_takeSign m17 (nI 45)) fun r20 m21 => (if r20 = (nI 0) then some ((nI 0), m21) else bd (f_X1_takeNumber m21) fun r24 m25 => lt1 (up m25 0 6 r24) fun m27 => (if (m27 0 6) < (nI 0) then some ((nI 0), m27) else bd (f_X1_takeSign m27 (nI 61)) fun r30 m31 => (if r30 = (nI 0) then some ((nI 0), m31) else bd (f_X1_takeValues m31) fun r34 m35 => gz r34 (some (r34, m35))))))))
set_option maxHeartbeats 4000000 in
set_option maxRecDepth 100000 in
theorem c_X1_parse {l : Launch} {D : va_G} {cy : Nat → ClassId} {ad : Nat → Nat → Nat} (hcv : CV ad) {M0 : MM} {m : SM} (hm : M0 7 = m) {r : Int32} {x : SM} (h : f_X1_parse m = some (r, x)) : Met l yX1_parse (.code yX1_parse cX1_parse 1 (some .boolean) :: TB) ({ frames := 3, cells := 0, slots := 0, locals := 68 } : Room) (PW D cy ad M0 [.ref (ad 7 0)]) (QI D cy ad r (gs M0 7 x)) 0 0 (AD ad) := by
  refine m_in (by decide +kernel) (Nat.le_of_ble_eq_true rfl) ?_
  intro p e s md args below meth c hC hw hS ls hl
  obtain ⟨hx, hb, hr, hml, hown, hts, hK, hlk⟩ := hC
  have hl : lv_has ls 1 [(0, .ref (ad 7 0))] := hl
  rw [← gs_same hm] at hw
  unfold f_X1_parse at h
  have main : JL p l e ({ frames := 3, cells := 0, slots := 0, locals := 68 } : Room) s md args below meth c D cy ad (MQ below (QI D cy ad r (gs M0 7 x)) args s 0 0 (AD ad)) (gs M0 7 m) 1 [(0, .ref (ad 7 0))] 0 [] := by
    intro H locs hw hS ls hl
    refine lv_aload_n hx hb dX1_parse_0 rfl (lv_at hl 0 rfl) ?_
    refine lv_iconst (v := nI 0) hx hb dX1_parse_1 (by decide) ?_
    obtain ⟨m2, e1, h⟩ := t_lt h
    refine r_put hx hb hts hown hK hcv hw hS (v_tx (by decide)) gs_atc E_tx inX1 rfl tyX1 tyX1_ok nmX1 3 (by decide) k_30 rfl rfl rfl rfl (Nat.le_of_ble_eq_true rfl) E_tx (gs_up e1) dX1_parse_2 (fun H locs hw hS => ?_)
    refine lv_aload_n hx hb dX1_parse_5 rfl (lv_at hl 0 rfl) ?_
    refine lv_aload_n hx hb dX1_parse_6 rfl (lv_at hl 0 rfl) ?_
    refine lv_bipush (v := nI 48) hx hb dX1_parse_7 (by decide) ?_
    refine lv_bipush (v := nI 51) hx hb dX1_parse_9 (by decide) ?_
    obtain ⟨r4, m5, y3, h⟩ := t_bd h
    refine c_vi hx hb hml hown hts hK hw hS (fun _ h => h) (As := [.int (nI 48), .int (nI 51)]) (rest := [.ref (ad 7 0)]) (c_X1_takeDigit hcv (M0 := gs M0 7 m2) (m := m2) (hm := gs_at) y3) cf_X1_takeDigit k_233 rfl rfl ⟨Nat.le_of_ble_eq_true rfl, Nat.le_of_ble_eq_true rfl⟩ (r_recv hK hw (v_tx (by decide)) E_tx rfl) rfl hl.1 rfl (Nat.le_of_ble_eq_true rfl) ⟨Nat.le_refl _, Nat.le_refl _⟩ dX1_parse_11 (fun H locs hw hS => ?_)
    rw [gs_gs] at hw
    obtain ⟨m7, e6, h⟩ := t_lt h
    refine r_put hx hb hts hown hK hcv hw hS (v_tx (by decide)) gs_atc E_tx inX1 rfl tyX1 tyX1_ok nmX1 4 (by decide) k_31 rfl rfl rfl rfl (Nat.le_of_ble_eq_true rfl) E_tx (gs_up e6) dX1_parse_14 (fun H locs hw hS => ?_)
    refine lv_aload_n hx hb dX1_parse_17 rfl (lv_at hl 0 rfl) ?_
    refine r_get hx hb hts hown hK hw (v_tx (by decide)) gs_atc E_tx inX1 rfl 4 (by decide) k_31 rfl rfl dX1_parse_18 ?_
    refine lv_if_lt (tgt := 33) hx hb dX1_parse_21 (by decide) (fun q8 => ?_) (fun q8 => ?_)
    · replace h := t_pos h q8
      refine lv_iconst (v := nI 0) hx hb dX1_parse_33 (by decide) ?_
      have e1 := (t_ret h).1
      have e2 := (t_ret h).2
      exact e_z hx hb hr hlk (Or.inl rfl) hw hS e1 (by rw [e2]) dX1_parse_34
    · replace h := t_neg h q8
      refine lv_aload_n hx hb dX1_parse_24 rfl (lv_at hl 0 rfl) ?_
      refine lv_bipush (v := nI 58) hx hb dX1_parse_25 (by decide) ?_
      obtain ⟨r10, m11, y9, h⟩ := t_bd h
      refine c_vi hx hb hml hown hts hK hw hS (fun _ h => h) (As := [.int (nI 58)]) (rest := []) (c_X1_takeSign hcv (M0 := gs M0 7 m7) (m := m7) (hm := gs_at) y9) cf_X1_takeSign k_237 rfl rfl ⟨Nat.le_of_ble_eq_true rfl, Nat.le_of_ble_eq_true rfl⟩ (r_recv hK hw (v_tx (by decide)) E_tx rfl) rfl hl.1 rfl (Nat.le_of_ble_eq_true rfl) ⟨Nat.le_refl _, Nat.le_refl _⟩ dX1_parse_27 (fun H locs hw hS => ?_)
      rw [gs_gs] at hw
      refine lv_if_ne (tgt := 35) hx hb dX1_parse_30 (by decide) (fun q12 => ?_) (fun q12 => ?_)
      · replace h := t_neg h q12
        refine lv_aload_n hx hb dX1_parse_35 rfl (lv_at hl 0 rfl) ?_
        refine lv_aload_n hx hb dX1_parse_36 rfl (lv_at hl 0 rfl) ?_
        obtain ⟨r14, m15, y13, h⟩ := t_bd h
        refine c_vi hx hb hml hown hts hK hw hS (fun _ h => h) (As := []) (rest := [.ref (ad 7 0)]) (c_X1_takeNumber hcv (M0 := gs M0 7 m11) (m := m11) (hm := gs_at) y13) cf_X1_takeNumber k_241 rfl rfl ⟨Nat.le_of_ble_eq_true rfl, Nat.le_of_ble_eq_true rfl⟩ (r_recv hK hw (v_tx (by decide)) E_tx rfl) rfl hl.1 rfl (Nat.le_of_ble_eq_true rfl) ⟨Nat.le_refl _, Nat.le_refl _⟩ dX1_parse_37 (fun H locs hw hS => ?_)
        rw [gs_gs] at hw
        obtain ⟨m17, e16, h⟩ := t_lt h
        refine r_put hx hb hts hown hK hcv hw hS (v_tx (by decide)) gs_atc E_tx inX1 rfl tyX1 tyX1_ok nmX1 5 (by decide) k_34 rfl rfl rfl rfl (Nat.le_of_ble_eq_true rfl) E_tx (gs_up e16) dX1_parse_40 (fun H locs hw hS => ?_)
        refine lv_aload_n hx hb dX1_parse_43 rfl (lv_at hl 0 rfl) ?_
        refine r_get hx hb hts hown hK hw (v_tx (by decide)) gs_atc E_tx inX1 rfl 5 (by decide) k_34 rfl rfl dX1_parse_44 ?_
        refine lv_if_lt (tgt := 59) hx hb dX1_parse_47 (by decide) (fun q18 => ?_) (fun q18 => ?_)
        · replace h := t_pos h q18
          refine lv_iconst (v := nI 0) hx hb dX1_parse_59 (by decide) ?_
          have e1 := (t_ret h).1
          have e2 := (t_ret h).2
          exact e_z hx hb hr hlk (Or.inl rfl) hw hS e1 (by rw [e2]) dX1_parse_60
        · replace h := t_neg h q18
          refine lv_aload_n hx hb dX1_parse_50 rfl (lv_at hl 0 rfl) ?_
          refine lv_bipush (v := nI 45) hx hb dX1_parse_51 (by decide) ?_
          obtain ⟨r20, m21, y19, h⟩ := t_bd h
          refine c_vi hx hb hml hown hts hK hw hS (fun _ h => h) (As := [.int (nI 45)]) (rest := []) (c_X1_takeSign hcv (M0 := gs M0 7 m17) (m := m17) (hm := gs_at) y19) cf_X1_takeSign k_237 rfl rfl ⟨Nat.le_of_ble_eq_true rfl, Nat.le_of_ble_eq_true rfl⟩ (r_recv hK hw (v_tx (by decide)) E_tx rfl) rfl hl.1 rfl (Nat.le_of_ble_eq_true rfl) ⟨Nat.le_refl _, Nat.le_refl _⟩ dX1_parse_53 (fun H locs hw hS => ?_)
          rw [gs_gs] at hw
          refine lv_if_ne (tgt := 61) hx hb dX1_parse_56 (by decide) (fun q22 => ?_) (fun q22 => ?_)
          · replace h := t_neg h q22
            refine lv_aload_n hx hb dX1_parse_61 rfl (lv_at hl 0 rfl) ?_
            refine lv_aload_n hx hb dX1_parse_62 rfl (lv_at hl 0 rfl) ?_
            obtain ⟨r24, m25, y23, h⟩ := t_bd h
            refine c_vi hx hb hml hown hts hK hw hS (fun _ h => h) (As := []) (rest := [.ref (ad 7 0)]) (c_X1_takeNumber hcv (M0 := gs M0 7 m21) (m := m21) (hm := gs_at) y23) cf_X1_takeNumber k_241 rfl rfl ⟨Nat.le_of_ble_eq_true rfl, Nat.le_of_ble_eq_true rfl⟩ (r_recv hK hw (v_tx (by decide)) E_tx rfl) rfl hl.1 rfl (Nat.le_of_ble_eq_true rfl) ⟨Nat.le_refl _, Nat.le_refl _⟩ dX1_parse_63 (fun H locs hw hS => ?_)
            rw [gs_gs] at hw
            obtain ⟨m27, e26, h⟩ := t_lt h
            refine r_put hx hb hts hown hK hcv hw hS (v_tx (by decide)) gs_atc E_tx inX1 rfl tyX1 tyX1_ok nmX1 6 (by decide) k_36 rfl rfl rfl rfl (Nat.le_of_ble_eq_true rfl) E_tx (gs_up e26) dX1_parse_66 (fun H locs hw hS => ?_)
            refine lv_aload_n hx hb dX1_parse_69 rfl (lv_at hl 0 rfl) ?_
            refine r_get hx hb hts hown hK hw (v_tx (by decide)) gs_atc E_tx inX1 rfl 6 (by decide) k_36 rfl rfl dX1_parse_70 ?_
            refine lv_if_lt (tgt := 85) hx hb dX1_parse_73 (by decide) (fun q28 => ?_) (fun q28 => ?_)
            · replace h := t_pos h q28
              refine lv_iconst (v := nI 0) hx hb dX1_parse_85 (by decide) ?_
              have e1 := (t_ret h).1
              have e2 := (t_ret h).2
              exact e_z hx hb hr hlk (Or.inl rfl) hw hS e1 (by rw [e2]) dX1_parse_86
            · replace h := t_neg h q28
              refine lv_aload_n hx hb dX1_parse_76 rfl (lv_at hl 0 rfl) ?_
              refine lv_bipush (v := nI 61) hx hb dX1_parse_77 (by decide) ?_
              obtain ⟨r30, m31, y29, h⟩ := t_bd h
              refine c_vi hx hb hml hown hts hK hw hS (fun _ h => h) (As := [.int (nI 61)]) (rest := []) (c_X1_takeSign hcv (M0 := gs M0 7 m27) (m := m27) (hm := gs_at) y29) cf_X1_takeSign k_237 rfl rfl ⟨Nat.le_of_ble_eq_true rfl, Nat.le_of_ble_eq_true rfl⟩ (r_recv hK hw (v_tx (by decide)) E_tx rfl) rfl hl.1 rfl (Nat.le_of_ble_eq_true rfl) ⟨Nat.le_refl _, Nat.le_refl _⟩ dX1_parse_79 (fun H locs hw hS => ?_)
              rw [gs_gs] at hw
              refine lv_if_ne (tgt := 87) hx hb dX1_parse_82 (by decide) (fun q32 => ?_) (fun q32 => ?_)
              · replace h := t_neg h q32
                refine lv_aload_n hx hb dX1_parse_87 rfl (lv_at hl 0 rfl) ?_
                obtain ⟨r34, m35, y33, h⟩ := t_bd h
                refine c_vi hx hb hml hown hts hK hw hS (fun _ h => h) (As := []) (rest := []) (c_X1_takeValues hcv (M0 := gs M0 7 m31) (m := m31) (hm := gs_at) y33) cf_X1_takeValues k_245 rfl rfl ⟨Nat.le_of_ble_eq_true rfl, Nat.le_of_ble_eq_true rfl⟩ (r_recv hK hw (v_tx (by decide)) E_tx rfl) rfl hl.1 rfl (Nat.le_of_ble_eq_true rfl) ⟨Nat.le_refl _, Nat.le_refl _⟩ dX1_parse_88 (fun H locs hw hS => ?_)
                rw [gs_gs] at hw
                obtain ⟨q36, h⟩ := t_gz h
                have e1 := (t_ret h).1
                have e2 := (t_ret h).2
                exact e_z hx hb hr hlk q36 hw hS e1 (by rw [e2]) dX1_parse_91
              · replace h := t_pos h q32
                refine lv_iconst (v := nI 0) hx hb dX1_parse_85 (by decide) ?_
                have e1 := (t_ret h).1
                have e2 := (t_ret h).2
                exact e_z hx hb hr hlk (Or.inl rfl) hw hS e1 (by rw [e2]) dX1_parse_86
          · replace h := t_pos h q22
            refine lv_iconst (v := nI 0) hx hb dX1_parse_59 (by decide) ?_
            have e1 := (t_ret h).1
            have e2 := (t_ret h).2
            exact e_z hx hb hr hlk (Or.inl rfl) hw hS e1 (by rw [e2]) dX1_parse_60
      · replace h := t_pos h q12
        refine lv_iconst (v := nI 0) hx hb dX1_parse_33 (by decide) ?_
        have e1 := (t_ret h).1
        have e2 := (t_ret h).2
        exact e_z hx hb hr hlk (Or.inl rfl) hw hS e1 (by rw [e2]) dX1_parse_34
  exact main _ _ hw hS ls hl

theorem cf_X1_isInRange : cfV RX1 yX1_isInRange cX1_isInRange 2 (some .boolean) 0 := ⟨⟨k_250, k_251, k_2, k_252⟩, by decide +kernel⟩
def f_X1_isInRange_L15 (m : SM) : Nat → Int32 → Option (Int32)
  | 0, _ => none
  | n + 1, x1 => (if (m 0 7) ≤ x1 then some (nI 1) else gd x1 16 (b1 (f_X5_isFromTo (m 2 x1.toNatClampNeg) (m 0 5) (m 0 6)) fun r4 => (if r4 = (nI 0) then some (nI 0) else f_X1_isInRange_L15 m n (x1 + (nI 1)))))
def f_X1_isInRange (m : SM) : Option (Int32) :=
  (if (m 0 5) ≤ (m 0 6) then f_X1_isInRange_L15 m FU (nI 0) else some (nI 0))
set_option maxHeartbeats 4000000 in
set_option maxRecDepth 100000 in
theorem c_X1_isInRange {l : Launch} {D : va_G} {cy : Nat → ClassId} {ad : Nat → Nat → Nat} (hcv : CV ad) {M0 : MM} {m : SM} (hm : M0 7 = m) {r : Int32} (h : f_X1_isInRange m = some r) : Met l yX1_isInRange (.code yX1_isInRange cX1_isInRange 2 (some .boolean) :: TB) ({ frames := 1, cells := 0, slots := 0, locals := 22 } : Room) (PW D cy ad M0 [.ref (ad 7 0)]) (QI D cy ad r M0) 0 0 (AD ad) := by
  refine m_in (by decide +kernel) (Nat.le_of_ble_eq_true rfl) ?_
  intro p e s md args below meth c hC hw hS ls hl
  obtain ⟨hx, hb, hr, hml, hown, hts, hK, hlk⟩ := hC
  have hl : lv_has ls 2 [(0, .ref (ad 7 0))] := hl
  rw [← gs_same hm] at hw
  have L15 : ∀ (n : Nat), ∀ (x1 : Int32), f_X1_isInRange_L15 m n x1 = some r → JL p l e ({ frames := 1, cells := 0, slots := 0, locals := 22 } : Room) s md args below meth c D cy ad (MQ below (QI D cy ad r M0) args s 0 0 (AD ad)) (gs M0 7 m) 2 [(0, .ref (ad 7 0)), (1, .int x1)] 15 [] := by
    intro n
    induction n with
    | zero =>
      intro x1 h
      cases h
    | succ n ih =>
      intro x1 h H locs hw hS ls hl
      rw [f_X1_isInRange_L15.eq_2] at h
      refine lv_iload_n hx hb dX1_isInRange_15 rfl (lv_at hl 1 rfl) ?_
      refine lv_aload_n hx hb dX1_isInRange_16 rfl (lv_at hl 0 rfl) ?_
      refine r_get hx hb hts hown hK hw (v_tx (by decide)) gs_atc E_tx inX1 rfl 7 (by decide) k_38 rfl rfl dX1_isInRange_17 ?_
      refine lv_icmp_ge (tgt := 51) hx hb dX1_isInRange_20 (by decide) (fun q1 => ?_) (fun q1 => ?_)
      · replace h := t_pos h q1
        refine lv_iconst (v := nI 1) hx hb dX1_isInRange_51 (by decide) ?_
        have e1 := Option.some.inj h
        exact e_z hx hb hr hlk (Or.inr rfl) hw hS e1 (gs_same hm) dX1_isInRange_52
      · replace h := t_neg h q1
        refine lv_aload_n hx hb dX1_isInRange_23 rfl (lv_at hl 0 rfl) ?_
        refine r_get hx hb hts hown hK hw (v_tx (by decide)) gs_atc E_tx inX1 rfl 1 (by decide) k_25 rfl rfl dX1_isInRange_24 ?_
        refine lv_iload_n hx hb dX1_isInRange_27 rfl (lv_at hl 1 rfl) ?_
        obtain ⟨q2, h⟩ := t_gd h
        refine r_iald hx hb hK hw (v_tx (by decide)) gs_atc E_tv q2 dX1_isInRange_28 ?_
        refine lv_aload_n hx hb dX1_isInRange_29 rfl (lv_at hl 0 rfl) ?_
        refine r_get hx hb hts hown hK hw (v_tx (by decide)) gs_atc E_tx inX1 rfl 5 (by decide) k_34 rfl rfl dX1_isInRange_30 ?_
        refine lv_aload_n hx hb dX1_isInRange_33 rfl (lv_at hl 0 rfl) ?_
        refine r_get hx hb hts hown hK hw (v_tx (by decide)) gs_atc E_tx inX1 rfl 6 (by decide) k_36 rfl rfl dX1_isInRange_34 ?_
        obtain ⟨r4, y3, h⟩ := t_b1 h
        refine c_sn hx hb hml hown hts hK hw hS (fun _ h => h) (As := [.int (m 2 x1.toNatClampNeg), .int (m 0 5), .int (m 0 6)]) (rest := []) (c_X5_isFromTo hcv (M0 := gs M0 7 m) y3) cf_X5_isFromTo k_253n rfl rfl ⟨Nat.le_of_ble_eq_true rfl, Nat.le_of_ble_eq_true rfl⟩ rfl hl.1 rfl (Nat.le_of_ble_eq_true rfl) ⟨Nat.le_refl _, Nat.le_refl _⟩ dX1_isInRange_37 (fun H locs hw hS => ?_)
        refine lv_if_ne (tgt := 45) hx hb dX1_isInRange_40 (by decide) (fun q5 => ?_) (fun q5 => ?_)
        · replace h := t_neg h q5
          refine lv_iinc (v := (x1 + (nI 1))) (lv' := [(1, .int (x1 + (nI 1))), (0, .ref (ad 7 0))]) hx hb dX1_isInRange_45 hl (k := 1) rfl rfl (by decide) rfl (fun ls hl => ?_)
          refine lv_goto (tgt := 15) hx hb dX1_isInRange_48 (by decide) ?_
          exact ih (x1 + (nI 1)) h H locs hw hS ls (lv_sub hl [1, 0] rfl)
        · replace h := t_pos h q5
          refine lv_iconst (v := nI 0) hx hb dX1_isInRange_43 (by decide) ?_
          have e1 := Option.some.inj h
          exact e_z hx hb hr hlk (Or.inl rfl) hw hS e1 (gs_same hm) dX1_isInRange_44
  unfold f_X1_isInRange at h
  have main : JL p l e ({ frames := 1, cells := 0, slots := 0, locals := 22 } : Room) s md args below meth c D cy ad (MQ below (QI D cy ad r M0) args s 0 0 (AD ad)) (gs M0 7 m) 2 [(0, .ref (ad 7 0))] 0 [] := by
    intro H locs hw hS ls hl
    refine lv_aload_n hx hb dX1_isInRange_0 rfl (lv_at hl 0 rfl) ?_
    refine r_get hx hb hts hown hK hw (v_tx (by decide)) gs_atc E_tx inX1 rfl 5 (by decide) k_34 rfl rfl dX1_isInRange_1 ?_
    refine lv_aload_n hx hb dX1_isInRange_4 rfl (lv_at hl 0 rfl) ?_
    refine r_get hx hb hts hown hK hw (v_tx (by decide)) gs_atc E_tx inX1 rfl 6 (by decide) k_36 rfl rfl dX1_isInRange_5 ?_
    refine lv_icmp_le (tgt := 13) hx hb dX1_isInRange_8 (by decide) (fun q1 => ?_) (fun q1 => ?_)
    · replace h := t_pos h q1
      refine lv_iconst (v := nI 0) hx hb dX1_isInRange_13 (by decide) ?_
      refine lv_istore_n (lv' := [(1, .int (nI 0)), (0, .ref (ad 7 0))]) hx hb dX1_isInRange_14 rfl hl (by decide) rfl (fun ls hl => ?_)
      exact L15 FU (nI 0) h H locs hw hS ls (lv_sub hl [1, 0] rfl)
    · replace h := t_neg h q1
      refine lv_iconst (v := nI 0) hx hb dX1_isInRange_11 (by decide) ?_
      have e1 := Option.some.inj h
      exact e_z hx hb hr hlk (Or.inl rfl) hw hS e1 (gs_same hm) dX1_isInRange_12
  exact main _ _ hw hS ls hl

def f_X3_copyFromS (m : SM) (i : Nat) (i2 : Nat) : Option (Int32 × SM) :=
  lt1 (up m (19 + i) 0 (m (19 + i2) 0)) fun m2 => lt1 (up m2 (19 + i) 1 (m2 (19 + i2) 1)) fun m4 => lt1 (up m4 (19 + i) 2 (m4 (19 + i2) 2)) fun m6 => lt1 (up m6 (19 + i) 3 (m6 (19 + i2) 3)) fun m8 => gz (m8 (19 + i2) 4) (lt1 (up m8 (19 + i) 4 (m8 (19 + i2) 4)) fun m11 => lt1 (up m11 (19 + i) 5 (m11 (19 + i2) 5)) fun m13 => lt1 (up m13 (19 + i) 6 (m13 (19 + i2) 6)) fun m15 => lt1 (up m15 (19 + i) 7 (m15 (19 + i2) 7)) fun m17 => some (0, m17))
set_option maxHeartbeats 4000000 in
set_option maxRecDepth 100000 in
theorem c_X3_copyFromS {l : Launch} {D : va_G} {cy : Nat → ClassId} {ad : Nat → Nat → Nat} (hcv : CV ad) {g : Nat} (hg : g < 7) {i : Nat} (hi : i < 6) {i2 : Nat} (hi2 : i2 < 6) {M0 : MM} {m : SM} (hm : M0 g = m) {r : Int32} {x : SM} (h : f_X3_copyFromS m i i2 = some (r, x)) : Met l yX3_copyFrom (.code yX3_copyFrom cX3_copyFrom 2 none :: TB) ({ frames := 0, cells := 0, slots := 0, locals := 0 } : Room) (PW D cy ad M0 [.ref (ad g (19 + i)), .ref (ad g (19 + i2))]) (QV D cy ad (gs M0 g x)) 0 0 (AD ad) := by
  refine m_in (by decide +kernel) (Nat.le_of_ble_eq_true rfl) ?_
  intro p e s md args below meth c hC hw hS ls hl
  obtain ⟨hx, hb, hr, hml, hown, hts, hK, hlk⟩ := hC
  have hl : lv_has ls 2 [(0, .ref (ad g (19 + i))), (1, .ref (ad g (19 + i2)))] := hl
  rw [← gs_same hm] at hw
  unfold f_X3_copyFromS at h
  have main : JL p l e ({ frames := 0, cells := 0, slots := 0, locals := 0 } : Room) s md args below meth c D cy ad (MQ below (QV D cy ad (gs M0 g x)) args s 0 0 (AD ad)) (gs M0 g m) 2 [(0, .ref (ad g (19 + i))), (1, .ref (ad g (19 + i2)))] 0 [] := by
    intro H locs hw hS ls hl
    refine lv_aload_n hx hb dX3_copyFrom_0 rfl (lv_at hl 0 rfl) ?_
    refine lv_aload_n hx hb dX3_copyFrom_1 rfl (lv_at hl 1 rfl) ?_
    refine r_get hx hb hts hown hK hw (v_qu hg hi2) gs_atc (E_qu hg) inX3 rfl 0 (by decide) k_121 rfl rfl dX3_copyFrom_2 ?_
    obtain ⟨m2, e1, h⟩ := t_lt h
    refine r_put hx hb hts hown hK hcv hw hS (v_qu hg hi) gs_atc (E_qu hg) inX3 rfl tyX3 tyX3_ok nmX3 0 (by decide) k_121 rfl rfl rfl rfl (Nat.le_of_ble_eq_true rfl) (E_qu hg) (gs_up e1) dX3_copyFrom_5 (fun H locs hw hS => ?_)
    refine lv_aload_n hx hb dX3_copyFrom_8 rfl (lv_at hl 0 rfl) ?_
    refine lv_aload_n hx hb dX3_copyFrom_9 rfl (lv_at hl 1 rfl) ?_
    refine r_get hx hb hts hown hK hw (v_qu hg hi2) gs_atc (E_qu hg) inX3 rfl 1 (by decide) k_124 rfl rfl dX3_copyFrom_10 ?_
    obtain ⟨m4, e3, h⟩ := t_lt h
    refine r_put hx hb hts hown hK hcv hw hS (v_qu hg hi) gs_atc (E_qu hg) inX3 rfl tyX3 tyX3_ok nmX3 1 (by decide) k_124 rfl rfl rfl rfl (Nat.le_of_ble_eq_true rfl) (E_qu hg) (gs_up e3) dX3_copyFrom_13 (fun H locs hw hS => ?_)
    refine lv_aload_n hx hb dX3_copyFrom_16 rfl (lv_at hl 0 rfl) ?_
    refine lv_aload_n hx hb dX3_copyFrom_17 rfl (lv_at hl 1 rfl) ?_
    refine r_get hx hb hts hown hK hw (v_qu hg hi2) gs_atc (E_qu hg) inX3 rfl 2 (by decide) k_127 rfl rfl dX3_copyFrom_18 ?_
    obtain ⟨m6, e5, h⟩ := t_lt h
    refine r_put hx hb hts hown hK hcv hw hS (v_qu hg hi) gs_atc (E_qu hg) inX3 rfl tyX3 tyX3_ok nmX3 2 (by decide) k_127 rfl rfl rfl rfl (Nat.le_of_ble_eq_true rfl) (E_qu hg) (gs_up e5) dX3_copyFrom_21 (fun H locs hw hS => ?_)
    refine lv_aload_n hx hb dX3_copyFrom_24 rfl (lv_at hl 0 rfl) ?_
    refine lv_aload_n hx hb dX3_copyFrom_25 rfl (lv_at hl 1 rfl) ?_
    refine r_get hx hb hts hown hK hw (v_qu hg hi2) gs_atc (E_qu hg) inX3 rfl 3 (by decide) k_130 rfl rfl dX3_copyFrom_26 ?_
    obtain ⟨m8, e7, h⟩ := t_lt h
    refine r_put hx hb hts hown hK hcv hw hS (v_qu hg hi) gs_atc (E_qu hg) inX3 rfl tyX3 tyX3_ok nmX3 3 (by decide) k_130 rfl rfl rfl rfl (Nat.le_of_ble_eq_true rfl) (E_qu hg) (gs_up e7) dX3_copyFrom_29 (fun H locs hw hS => ?_)
    refine lv_aload_n hx hb dX3_copyFrom_32 rfl (lv_at hl 0 rfl) ?_
    refine lv_aload_n hx hb dX3_copyFrom_33 rfl (lv_at hl 1 rfl) ?_
    refine r_get hx hb hts hown hK hw (v_qu hg hi2) gs_atc (E_qu hg) inX3 rfl 4 (by decide) k_133 rfl rfl dX3_copyFrom_34 ?_
    obtain ⟨q9, h⟩ := t_gz h
    obtain ⟨m11, e10, h⟩ := t_lt h
    refine r_put hx hb hts hown hK hcv hw hS (v_qu hg hi) gs_atc (E_qu hg) inX3 rfl tyX3 tyX3_ok nmX3 4 (by decide) k_133 rfl rfl (nar_z q9) (fit_z q9) (Nat.le_of_ble_eq_true rfl) (E_qu hg) (gs_up e10) dX3_copyFrom_37 (fun H locs hw hS => ?_)
    refine lv_aload_n hx hb dX3_copyFrom_40 rfl (lv_at hl 0 rfl) ?_
    refine lv_aload_n hx hb dX3_copyFrom_41 rfl (lv_at hl 1 rfl) ?_
    refine r_get hx hb hts hown hK hw (v_qu hg hi2) gs_atc (E_qu hg) inX3 rfl 5 (by decide) k_136 rfl rfl dX3_copyFrom_42 ?_
    obtain ⟨m13, e12, h⟩ := t_lt h
    refine r_put hx hb hts hown hK hcv hw hS (v_qu hg hi) gs_atc (E_qu hg) inX3 rfl tyX3 tyX3_ok nmX3 5 (by decide) k_136 rfl rfl rfl rfl (Nat.le_of_ble_eq_true rfl) (E_qu hg) (gs_up e12) dX3_copyFrom_45 (fun H locs hw hS => ?_)
    refine lv_aload_n hx hb dX3_copyFrom_48 rfl (lv_at hl 0 rfl) ?_
    refine lv_aload_n hx hb dX3_copyFrom_49 rfl (lv_at hl 1 rfl) ?_
    refine r_get hx hb hts hown hK hw (v_qu hg hi2) gs_atc (E_qu hg) inX3 rfl 6 (by decide) k_139 rfl rfl dX3_copyFrom_50 ?_
    obtain ⟨m15, e14, h⟩ := t_lt h
    refine r_put hx hb hts hown hK hcv hw hS (v_qu hg hi) gs_atc (E_qu hg) inX3 rfl tyX3 tyX3_ok nmX3 6 (by decide) k_139 rfl rfl rfl rfl (Nat.le_of_ble_eq_true rfl) (E_qu hg) (gs_up e14) dX3_copyFrom_53 (fun H locs hw hS => ?_)
    refine lv_aload_n hx hb dX3_copyFrom_56 rfl (lv_at hl 0 rfl) ?_
    refine lv_aload_n hx hb dX3_copyFrom_57 rfl (lv_at hl 1 rfl) ?_
    refine r_get hx hb hts hown hK hw (v_qu hg hi2) gs_atc (E_qu hg) inX3 rfl 7 (by decide) k_142 rfl rfl dX3_copyFrom_58 ?_
    obtain ⟨m17, e16, h⟩ := t_lt h
    refine r_put hx hb hts hown hK hcv hw hS (v_qu hg hi) gs_atc (E_qu hg) inX3 rfl tyX3 tyX3_ok nmX3 7 (by decide) k_142 rfl rfl rfl rfl (Nat.le_of_ble_eq_true rfl) (E_qu hg) (gs_up e16) dX3_copyFrom_61 (fun H locs hw hS => ?_)
    have e1 := (t_ret h).1
    have e2 := (t_ret h).2
    exact e_v hx hb hr hlk hw hS (by rw [e2]) dX3_copyFrom_64
  exact main _ _ hw hS ls hl

theorem cf_X3_copyFrom : cfV RX3 yX3_copyFrom cX3_copyFrom 2 none 1 := ⟨⟨k_272, k_273, k_5, k_274⟩, by decide +kernel⟩
def f_X3_copyFrom (m : SM) (mz : SM) (i : Nat) (i2 : Nat) : Option (Int32 × SM) :=
  lt1 (up m (19 + i) 0 (mz (19 + i2) 0)) fun m2 => lt1 (up m2 (19 + i) 1 (mz (19 + i2) 1)) fun m4 => lt1 (up m4 (19 + i) 2 (mz (19 + i2) 2)) fun m6 => lt1 (up m6 (19 + i) 3 (mz (19 + i2) 3)) fun m8 => gz (mz (19 + i2) 4) (lt1 (up m8 (19 + i) 4 (mz (19 + i2) 4)) fun m11 => lt1 (up m11 (19 + i) 5 (mz (19 + i2) 5)) fun m13 => lt1 (up m13 (19 + i) 6 (mz (19 + i2) 6)) fun m15 => lt1 (up m15 (19 + i) 7 (mz (19 + i2) 7)) fun m17 => some (0, m17))
set_option maxHeartbeats 4000000 in
set_option maxRecDepth 100000 in
theorem c_X3_copyFrom {l : Launch} {D : va_G} {cy : Nat → ClassId} {ad : Nat → Nat → Nat} (hcv : CV ad) {g : Nat} (hg : g < 7) {g2 : Nat} (hg2 : g2 < 7) {i : Nat} (hi : i < 6) {i2 : Nat} (hi2 : i2 < 6) {M0 : MM} {m : SM} (hm : M0 g = m) (hne : g2 ≠ g) {mz : SM} (hm2 : M0 g2 = mz) {r : Int32} {x : SM} (h : f_X3_copyFrom m mz i i2 = some (r, x)) : Met l yX3_copyFrom (.code yX3_copyFrom cX3_copyFrom 2 none :: TB) ({ frames := 0, cells := 0, slots := 0, locals := 0 } : Room) (PW D cy ad M0 [.ref (ad g (19 + i)), .ref (ad g2 (19 + i2))]) (QV D cy ad (gs M0 g x)) 0 0 (AD ad) := by
  refine m_in (by decide +kernel) (Nat.le_of_ble_eq_true rfl) ?_
  intro p e s md args below meth c hC hw hS ls hl
  obtain ⟨hx, hb, hr, hml, hown, hts, hK, hlk⟩ := hC
  have hl : lv_has ls 2 [(0, .ref (ad g (19 + i))), (1, .ref (ad g2 (19 + i2)))] := hl
  rw [← gs_same hm] at hw
  unfold f_X3_copyFrom at h
  have main : JL p l e ({ frames := 0, cells := 0, slots := 0, locals := 0 } : Room) s md args below meth c D cy ad (MQ below (QV D cy ad (gs M0 g x)) args s 0 0 (AD ad)) (gs M0 g m) 2 [(0, .ref (ad g (19 + i))), (1, .ref (ad g2 (19 + i2)))] 0 [] := by
    intro H locs hw hS ls hl
    refine lv_aload_n hx hb dX3_copyFrom_0 rfl (lv_at hl 0 rfl) ?_
    refine lv_aload_n hx hb dX3_copyFrom_1 rfl (lv_at hl 1 rfl) ?_
    refine r_get hx hb hts hown hK hw (v_qu hg2 hi2) (gs_nec hne hm2) (E_qu hg2) inX3 rfl 0 (by decide) k_121 rfl rfl dX3_copyFrom_2 ?_
    obtain ⟨m2, e1, h⟩ := t_lt h
    refine r_put hx hb hts hown hK hcv hw hS (v_qu hg hi) gs_atc (E_qu hg) inX3 rfl tyX3 tyX3_ok nmX3 0 (by decide) k_121 rfl rfl rfl rfl (Nat.le_of_ble_eq_true rfl) (E_qu hg) (gs_up e1) dX3_copyFrom_5 (fun H locs hw hS => ?_)
    refine lv_aload_n hx hb dX3_copyFrom_8 rfl (lv_at hl 0 rfl) ?_
    refine lv_aload_n hx hb dX3_copyFrom_9 rfl (lv_at hl 1 rfl) ?_
    refine r_get hx hb hts hown hK hw (v_qu hg2 hi2) (gs_nec hne hm2) (E_qu hg2) inX3 rfl 1 (by decide) k_124 rfl rfl dX3_copyFrom_10 ?_
    obtain ⟨m4, e3, h⟩ := t_lt h
    refine r_put hx hb hts hown hK hcv hw hS (v_qu hg hi) gs_atc (E_qu hg) inX3 rfl tyX3 tyX3_ok nmX3 1 (by decide) k_124 rfl rfl rfl rfl (Nat.le_of_ble_eq_true rfl) (E_qu hg) (gs_up e3) dX3_copyFrom_13 (fun H locs hw hS => ?_)
    refine lv_aload_n hx hb dX3_copyFrom_16 rfl (lv_at hl 0 rfl) ?_
    refine lv_aload_n hx hb dX3_copyFrom_17 rfl (lv_at hl 1 rfl) ?_
    refine r_get hx hb hts hown hK hw (v_qu hg2 hi2) (gs_nec hne hm2) (E_qu hg2) inX3 rfl 2 (by decide) k_127 rfl rfl dX3_copyFrom_18 ?_
    obtain ⟨m6, e5, h⟩ := t_lt h
    refine r_put hx hb hts hown hK hcv hw hS (v_qu hg hi) gs_atc (E_qu hg) inX3 rfl tyX3 tyX3_ok nmX3 2 (by decide) k_127 rfl rfl rfl rfl (Nat.le_of_ble_eq_true rfl) (E_qu hg) (gs_up e5) dX3_copyFrom_21 (fun H locs hw hS => ?_)
    refine lv_aload_n hx hb dX3_copyFrom_24 rfl (lv_at hl 0 rfl) ?_
    refine lv_aload_n hx hb dX3_copyFrom_25 rfl (lv_at hl 1 rfl) ?_
    refine r_get hx hb hts hown hK hw (v_qu hg2 hi2) (gs_nec hne hm2) (E_qu hg2) inX3 rfl 3 (by decide) k_130 rfl rfl dX3_copyFrom_26 ?_
    obtain ⟨m8, e7, h⟩ := t_lt h
    refine r_put hx hb hts hown hK hcv hw hS (v_qu hg hi) gs_atc (E_qu hg) inX3 rfl tyX3 tyX3_ok nmX3 3 (by decide) k_130 rfl rfl rfl rfl (Nat.le_of_ble_eq_true rfl) (E_qu hg) (gs_up e7) dX3_copyFrom_29 (fun H locs hw hS => ?_)
    refine lv_aload_n hx hb dX3_copyFrom_32 rfl (lv_at hl 0 rfl) ?_
    refine lv_aload_n hx hb dX3_copyFrom_33 rfl (lv_at hl 1 rfl) ?_
    refine r_get hx hb hts hown hK hw (v_qu hg2 hi2) (gs_nec hne hm2) (E_qu hg2) inX3 rfl 4 (by decide) k_133 rfl rfl dX3_copyFrom_34 ?_
    obtain ⟨q9, h⟩ := t_gz h
    obtain ⟨m11, e10, h⟩ := t_lt h
    refine r_put hx hb hts hown hK hcv hw hS (v_qu hg hi) gs_atc (E_qu hg) inX3 rfl tyX3 tyX3_ok nmX3 4 (by decide) k_133 rfl rfl (nar_z q9) (fit_z q9) (Nat.le_of_ble_eq_true rfl) (E_qu hg) (gs_up e10) dX3_copyFrom_37 (fun H locs hw hS => ?_)
    refine lv_aload_n hx hb dX3_copyFrom_40 rfl (lv_at hl 0 rfl) ?_
    refine lv_aload_n hx hb dX3_copyFrom_41 rfl (lv_at hl 1 rfl) ?_
    refine r_get hx hb hts hown hK hw (v_qu hg2 hi2) (gs_nec hne hm2) (E_qu hg2) inX3 rfl 5 (by decide) k_136 rfl rfl dX3_copyFrom_42 ?_
    obtain ⟨m13, e12, h⟩ := t_lt h
    refine r_put hx hb hts hown hK hcv hw hS (v_qu hg hi) gs_atc (E_qu hg) inX3 rfl tyX3 tyX3_ok nmX3 5 (by decide) k_136 rfl rfl rfl rfl (Nat.le_of_ble_eq_true rfl) (E_qu hg) (gs_up e12) dX3_copyFrom_45 (fun H locs hw hS => ?_)
    refine lv_aload_n hx hb dX3_copyFrom_48 rfl (lv_at hl 0 rfl) ?_
    refine lv_aload_n hx hb dX3_copyFrom_49 rfl (lv_at hl 1 rfl) ?_
    refine r_get hx hb hts hown hK hw (v_qu hg2 hi2) (gs_nec hne hm2) (E_qu hg2) inX3 rfl 6 (by decide) k_139 rfl rfl dX3_copyFrom_50 ?_
    obtain ⟨m15, e14, h⟩ := t_lt h
    refine r_put hx hb hts hown hK hcv hw hS (v_qu hg hi) gs_atc (E_qu hg) inX3 rfl tyX3 tyX3_ok nmX3 6 (by decide) k_139 rfl rfl rfl rfl (Nat.le_of_ble_eq_true rfl) (E_qu hg) (gs_up e14) dX3_copyFrom_53 (fun H locs hw hS => ?_)
    refine lv_aload_n hx hb dX3_copyFrom_56 rfl (lv_at hl 0 rfl) ?_
    refine lv_aload_n hx hb dX3_copyFrom_57 rfl (lv_at hl 1 rfl) ?_
    refine r_get hx hb hts hown hK hw (v_qu hg2 hi2) (gs_nec hne hm2) (E_qu hg2) inX3 rfl 7 (by decide) k_142 rfl rfl dX3_copyFrom_58 ?_
    obtain ⟨m17, e16, h⟩ := t_lt h
    refine r_put hx hb hts hown hK hcv hw hS (v_qu hg hi) gs_atc (E_qu hg) inX3 rfl tyX3 tyX3_ok nmX3 7 (by decide) k_142 rfl rfl rfl rfl (Nat.le_of_ble_eq_true rfl) (E_qu hg) (gs_up e16) dX3_copyFrom_61 (fun H locs hw hS => ?_)
    have e1 := (t_ret h).1
    have e2 := (t_ret h).2
    exact e_v hx hb hr hlk hw hS (by rw [e2]) dX3_copyFrom_64
  exact main _ _ hw hS ls hl

theorem cf_X4_copyFrom : cfV RX4 yX4_copyFrom cX4_copyFrom 3 none 1 := ⟨⟨k_261, k_262, k_3, k_263⟩, by decide +kernel⟩
def f_X4_copyFrom_L62 (mz : SM) (m : SM) : Option (Int32 × SM) :=
  lt1 (up m 0 2 (mz 0 2)) fun m2 => lt1 (up m2 0 3 (mz 0 3)) fun m4 => lt1 (up m4 0 4 (mz 0 4)) fun m6 => lt1 (up m6 0 5 (mz 0 5)) fun m8 => some (0, m8)
def f_X4_copyFrom_L33 (mz : SM) : Nat → SM → Int32 → Option (Int32 × SM)
  | 0, _, _ => none
  | n + 1, m, x2 => (if (mz 0 3) ≤ x2 then f_X4_copyFrom_L62 mz m else gd x2 6 (gd x2 6 (bd (f_X3_copyFrom m mz x2.toNatClampNeg x2.toNatClampNeg) fun r5 m6 => f_X4_copyFrom_L33 mz n m6 (x2 + (nI 1)))))
def f_X4_copyFrom_L31 (mz : SM) (m : SM) : Option (Int32 × SM) :=
  f_X4_copyFrom_L33 mz FU m (nI 0)
def f_X4_copyFrom_L2 (mz : SM) : Nat → SM → Int32 → Option (Int32 × SM)
  | 0, _, _ => none
  | n + 1, m, x2 => (if (mz 0 2) ≤ x2 then f_X4_copyFrom_L31 mz m else gd x2 8 (gd x2 8 (bd (f_X0_copyFrom m mz x2.toNatClampNeg x2.toNatClampNeg) fun r5 m6 => f_X4_copyFrom_L2 mz n m6 (x2 + (nI 1)))))
def f_X4_copyFrom (m : SM) (mz : SM) : Option (Int32 × SM) :=
  f_X4_copyFrom_L2 mz FU m (nI 0)
set_option maxHeartbeats 4000000 in
set_option maxRecDepth 100000 in
theorem c_X4_copyFrom {l : Launch} {D : va_G} {cy : Nat → ClassId} {ad : Nat → Nat → Nat} (hcv : CV ad) {g : Nat} (hg : g < 7) {g2 : Nat} (hg2 : g2 < 7) {M0 : MM} {m : SM} (hm : M0 g = m) (hne : g2 ≠ g) {mz : SM} (hm2 : M0 g2 = mz) {r : Int32} {x : SM} (h : f_X4_copyFrom m mz = some (r, x)) : Met l yX4_copyFrom (.code yX4_copyFrom cX4_copyFrom 3 none :: TB) ({ frames := 2, cells := 0, slots := 0, locals := 81 } : Room) (PW D cy ad M0 [.ref (ad g 0), .ref (ad g2 0)]) (QV D cy ad (gs M0 g x)) 0 0 (AD ad) := by
  refine m_in (by decide +kernel) (Nat.le_of_ble_eq_true rfl) ?_
  intro p e s md args below meth c hC hw hS ls hl
  obtain ⟨hx, hb, hr, hml, hown, hts, hK, hlk⟩ := hC
  have hl : lv_has ls 3 [(0, .ref (ad g 0)), (1, .ref (ad g2 0))] := hl
  rw [← gs_same hm] at hw
  have L62 : ∀ (m : SM), f_X4_copyFrom_L62 mz m = some (r, x) → JL p l e ({ frames := 2, cells := 0, slots := 0, locals := 81 } : Room) s md args below meth c D cy ad (MQ below (QV D cy ad (gs M0 g x)) args s 0 0 (AD ad)) (gs M0 g m) 3 [(0, .ref (ad g 0)), (1, .ref (ad g2 0))] 62 [] := by
    intro m h H locs hw hS ls hl
    unfold f_X4_copyFrom_L62 at h
    refine lv_aload_n hx hb dX4_copyFrom_62 rfl (lv_at hl 0 rfl) ?_
    refine lv_aload_n hx hb dX4_copyFrom_63 rfl (lv_at hl 1 rfl) ?_
    refine r_get hx hb hts hown hK hw (v_st hg2 (by decide)) (gs_nec hne hm2) (E_st hg2) inX4 rfl 2 (by decide) k_165 rfl rfl dX4_copyFrom_64 ?_
    obtain ⟨m2, e1, h⟩ := t_lt h
    refine r_put hx hb hts hown hK hcv hw hS (v_st hg (by decide)) gs_atc (E_st hg) inX4 rfl tyX4 tyX4_ok nmX4 2 (by decide) k_165 rfl rfl rfl rfl (Nat.le_of_ble_eq_true rfl) (E_st hg) (gs_up e1) dX4_copyFrom_67 (fun H locs hw hS => ?_)
    refine lv_aload_n hx hb dX4_copyFrom_70 rfl (lv_at hl 0 rfl) ?_
    refine lv_aload_n hx hb dX4_copyFrom_71 rfl (lv_at hl 1 rfl) ?_
    refine r_get hx hb hts hown hK hw (v_st hg2 (by decide)) (gs_nec hne hm2) (E_st hg2) inX4 rfl 3 (by decide) k_167 rfl rfl dX4_copyFrom_72 ?_
    obtain ⟨m4, e3, h⟩ := t_lt h
    refine r_put hx hb hts hown hK hcv hw hS (v_st hg (by decide)) gs_atc (E_st hg) inX4 rfl tyX4 tyX4_ok nmX4 3 (by decide) k_167 rfl rfl rfl rfl (Nat.le_of_ble_eq_true rfl) (E_st hg) (gs_up e3) dX4_copyFrom_75 (fun H locs hw hS => ?_)
    refine lv_aload_n hx hb dX4_copyFrom_78 rfl (lv_at hl 0 rfl) ?_
    refine lv_aload_n hx hb dX4_copyFrom_79 rfl (lv_at hl 1 rfl) ?_
    refine r_get hx hb hts hown hK hw (v_st hg2 (by decide)) (gs_nec hne hm2) (E_st hg2) inX4 rfl 4 (by decide) k_169 rfl rfl dX4_copyFrom_80 ?_
    obtain ⟨m6, e5, h⟩ := t_lt h
    refine r_put hx hb hts hown hK hcv hw hS (v_st hg (by decide)) gs_atc (E_st hg) inX4 rfl tyX4 tyX4_ok nmX4 4 (by decide) k_169 rfl rfl rfl rfl (Nat.le_of_ble_eq_true rfl) (E_st hg) (gs_up e5) dX4_copyFrom_83 (fun H locs hw hS => ?_)
    refine lv_aload_n hx hb dX4_copyFrom_86 rfl (lv_at hl 0 rfl) ?_
    refine lv_aload_n hx hb dX4_copyFrom_87 rfl (lv_at hl 1 rfl) ?_
    refine r_get hx hb hts hown hK hw (v_st hg2 (by decide)) (gs_nec hne hm2) (E_st hg2) inX4 rfl 5 (by decide) k_171 rfl rfl dX4_copyFrom_88 ?_
    obtain ⟨m8, e7, h⟩ := t_lt h
    refine r_put hx hb hts hown hK hcv hw hS (v_st hg (by decide)) gs_atc (E_st hg) inX4 rfl tyX4 tyX4_ok nmX4 5 (by decide) k_171 rfl rfl rfl rfl (Nat.le_of_ble_eq_true rfl) (E_st hg) (gs_up e7) dX4_copyFrom_91 (fun H locs hw hS => ?_)
    have e1 := (t_ret h).1
    have e2 := (t_ret h).2
    exact e_v hx hb hr hlk hw hS (by rw [e2]) dX4_copyFrom_94
  have L33 : ∀ (n : Nat), ∀ (m : SM) (x2 : Int32), f_X4_copyFrom_L33 mz n m x2 = some (r, x) → JL p l e ({ frames := 2, cells := 0, slots := 0, locals := 81 } : Room) s md args below meth c D cy ad (MQ below (QV D cy ad (gs M0 g x)) args s 0 0 (AD ad)) (gs M0 g m) 3 [(0, .ref (ad g 0)), (1, .ref (ad g2 0)), (2, .int x2)] 33 [] := by
    intro n
    induction n with
    | zero =>
      intro m x2 h
      cases h
    | succ n ih =>
      intro m x2 h H locs hw hS ls hl
      rw [f_X4_copyFrom_L33.eq_2] at h
      refine lv_iload_n hx hb dX4_copyFrom_33 rfl (lv_at hl 2 rfl) ?_
      refine lv_aload_n hx hb dX4_copyFrom_34 rfl (lv_at hl 1 rfl) ?_
      refine r_get hx hb hts hown hK hw (v_st hg2 (by decide)) (gs_nec hne hm2) (E_st hg2) inX4 rfl 3 (by decide) k_167 rfl rfl dX4_copyFrom_35 ?_
      refine lv_icmp_ge (tgt := 62) hx hb dX4_copyFrom_38 (by decide) (fun q1 => ?_) (fun q1 => ?_)
      · replace h := t_pos h q1
        exact L62 m h H locs hw hS ls (lv_sub hl [0, 1] rfl)
      · replace h := t_neg h q1
        refine lv_aload_n hx hb dX4_copyFrom_41 rfl (lv_at hl 0 rfl) ?_
        refine r_get hx hb hts hown hK hw (v_st hg (by decide)) gs_atc (E_st hg) inX4 rfl 1 (by decide) k_163 rfl rfl dX4_copyFrom_42 ?_
        refine lv_iload_n hx hb dX4_copyFrom_45 rfl (lv_at hl 2 rfl) ?_
        obtain ⟨q2, h⟩ := t_gd h
        refine r_aald hx hb hK hw (v_st hg (by decide)) (t0 := 3) rfl (E_qa hg) (v := .ref (ad g (19 + x2.toNatClampNeg))) rfl q2 dX4_copyFrom_46 ?_
        refine lv_aload_n hx hb dX4_copyFrom_47 rfl (lv_at hl 1 rfl) ?_
        refine r_get hx hb hts hown hK hw (v_st hg2 (by decide)) (gs_nec hne hm2) (E_st hg2) inX4 rfl 1 (by decide) k_163 rfl rfl dX4_copyFrom_48 ?_
        refine lv_iload_n hx hb dX4_copyFrom_51 rfl (lv_at hl 2 rfl) ?_
        obtain ⟨q3, h⟩ := t_gd h
        refine r_aald hx hb hK hw (v_st hg2 (by decide)) (t0 := 3) rfl (E_qa hg2) (v := .ref (ad g2 (19 + x2.toNatClampNeg))) rfl q3 dX4_copyFrom_52 ?_
        obtain ⟨r5, m6, y4, h⟩ := t_bd h
        refine c_vv hx hb hml hown hts hK hw hS (fun _ h => h) (As := [.ref (ad g2 (19 + x2.toNatClampNeg))]) (rest := []) (c_X3_copyFrom hcv (g := g) (hg := hg) (i := x2.toNatClampNeg) (hi := (vin q2)) (g2 := g2) (hg2 := hg2) (i2 := x2.toNatClampNeg) (hi2 := (vin q3)) (M0 := gs M0 g m) (m := m) (hm := gs_at) (mz := mz) (hne := hne) (hm2 := gs_nem hne hm2) y4) cf_X3_copyFrom k_271 rfl rfl ⟨Nat.le_of_ble_eq_true rfl, Nat.le_of_ble_eq_true rfl⟩ (r_recv hK hw (v_qu hg (vin q2)) (E_qu hg) rfl) rfl hl.1 rfl (Nat.le_of_ble_eq_true rfl) ⟨Nat.le_refl _, Nat.le_refl _⟩ dX4_copyFrom_53 (fun H locs hw hS => ?_)
        rw [gs_gs] at hw
        refine lv_iinc (v := (x2 + (nI 1))) (lv' := [(2, .int (x2 + (nI 1))), (0, .ref (ad g 0)), (1, .ref (ad g2 0))]) hx hb dX4_copyFrom_56 hl (k := 2) rfl rfl (by decide) rfl (fun ls hl => ?_)
        refine lv_goto (tgt := 33) hx hb dX4_copyFrom_59 (by decide) ?_
        exact ih m6 (x2 + (nI 1)) h H locs hw hS ls (lv_sub hl [1, 2, 0] rfl)
  have L31 : ∀ (m : SM), f_X4_copyFrom_L31 mz m = some (r, x) → JL p l e ({ frames := 2, cells := 0, slots := 0, locals := 81 } : Room) s md args below meth c D cy ad (MQ below (QV D cy ad (gs M0 g x)) args s 0 0 (AD ad)) (gs M0 g m) 3 [(0, .ref (ad g 0)), (1, .ref (ad g2 0))] 31 [] := by
    intro m h H locs hw hS ls hl
    unfold f_X4_copyFrom_L31 at h
    refine lv_iconst (v := nI 0) hx hb dX4_copyFrom_31 (by decide) ?_
    refine lv_istore_n (lv' := [(2, .int (nI 0)), (0, .ref (ad g 0)), (1, .ref (ad g2 0))]) hx hb dX4_copyFrom_32 rfl hl (by decide) rfl (fun ls hl => ?_)
    exact L33 FU m (nI 0) h H locs hw hS ls (lv_sub hl [1, 2, 0] rfl)
  have L2 : ∀ (n : Nat), ∀ (m : SM) (x2 : Int32), f_X4_copyFrom_L2 mz n m x2 = some (r, x) → JL p l e ({ frames := 2, cells := 0, slots := 0, locals := 81 } : Room) s md args below meth c D cy ad (MQ below (QV D cy ad (gs M0 g x)) args s 0 0 (AD ad)) (gs M0 g m) 3 [(0, .ref (ad g 0)), (1, .ref (ad g2 0)), (2, .int x2)] 2 [] := by
    intro n
    induction n with
    | zero =>
      intro m x2 h
      cases h
    | succ n ih =>
      intro m x2 h H locs hw hS ls hl
      rw [f_X4_copyFrom_L2.eq_2] at h
      refine lv_iload_n hx hb dX4_copyFrom_2 rfl (lv_at hl 2 rfl) ?_
      refine lv_aload_n hx hb dX4_copyFrom_3 rfl (lv_at hl 1 rfl) ?_
      refine r_get hx hb hts hown hK hw (v_st hg2 (by decide)) (gs_nec hne hm2) (E_st hg2) inX4 rfl 2 (by decide) k_165 rfl rfl dX4_copyFrom_4 ?_
      refine lv_icmp_ge (tgt := 31) hx hb dX4_copyFrom_7 (by decide) (fun q1 => ?_) (fun q1 => ?_)
      · replace h := t_pos h q1
        exact L31 m h H locs hw hS ls (lv_sub hl [0, 1] rfl)
      · replace h := t_neg h q1
        refine lv_aload_n hx hb dX4_copyFrom_10 rfl (lv_at hl 0 rfl) ?_
        refine r_get hx hb hts hown hK hw (v_st hg (by decide)) gs_atc (E_st hg) inX4 rfl 0 (by decide) k_161 rfl rfl dX4_copyFrom_11 ?_
        refine lv_iload_n hx hb dX4_copyFrom_14 rfl (lv_at hl 2 rfl) ?_
        obtain ⟨q2, h⟩ := t_gd h
        refine r_aald hx hb hK hw (v_st hg (by decide)) (t0 := 2) rfl (E_ba hg) (v := .ref (ad g (3 + x2.toNatClampNeg))) rfl q2 dX4_copyFrom_15 ?_
        refine lv_aload_n hx hb dX4_copyFrom_16 rfl (lv_at hl 1 rfl) ?_
        refine r_get hx hb hts hown hK hw (v_st hg2 (by decide)) (gs_nec hne hm2) (E_st hg2) inX4 rfl 0 (by decide) k_161 rfl rfl dX4_copyFrom_17 ?_
        refine lv_iload_n hx hb dX4_copyFrom_20 rfl (lv_at hl 2 rfl) ?_
        obtain ⟨q3, h⟩ := t_gd h
        refine r_aald hx hb hK hw (v_st hg2 (by decide)) (t0 := 2) rfl (E_ba hg2) (v := .ref (ad g2 (3 + x2.toNatClampNeg))) rfl q3 dX4_copyFrom_21 ?_
        obtain ⟨r5, m6, y4, h⟩ := t_bd h
        refine c_vv hx hb hml hown hts hK hw hS (fun _ h => h) (As := [.ref (ad g2 (3 + x2.toNatClampNeg))]) (rest := []) (c_X0_copyFrom hcv (g := g) (hg := hg) (i := x2.toNatClampNeg) (hi := (vin q2)) (g2 := g2) (hg2 := hg2) (i2 := x2.toNatClampNeg) (hi2 := (vin q3)) (M0 := gs M0 g m) (m := m) (hm := gs_at) (mz := mz) (hne := hne) (hm2 := gs_nem hne hm2) y4) cf_X0_copyFrom k_264 rfl rfl ⟨Nat.le_of_ble_eq_true rfl, Nat.le_of_ble_eq_true rfl⟩ (r_recv hK hw (v_bk hg (vin q2)) (E_bk hg (vin q2)) rfl) rfl hl.1 rfl (Nat.le_of_ble_eq_true rfl) ⟨Nat.le_refl _, Nat.le_refl _⟩ dX4_copyFrom_22 (fun H locs hw hS => ?_)
        rw [gs_gs] at hw
        refine lv_iinc (v := (x2 + (nI 1))) (lv' := [(2, .int (x2 + (nI 1))), (0, .ref (ad g 0)), (1, .ref (ad g2 0))]) hx hb dX4_copyFrom_25 hl (k := 2) rfl rfl (by decide) rfl (fun ls hl => ?_)
        refine lv_goto (tgt := 2) hx hb dX4_copyFrom_28 (by decide) ?_
        exact ih m6 (x2 + (nI 1)) h H locs hw hS ls (lv_sub hl [1, 2, 0] rfl)
  unfold f_X4_copyFrom at h
  have main : JL p l e ({ frames := 2, cells := 0, slots := 0, locals := 81 } : Room) s md args below meth c D cy ad (MQ below (QV D cy ad (gs M0 g x)) args s 0 0 (AD ad)) (gs M0 g m) 3 [(0, .ref (ad g 0)), (1, .ref (ad g2 0))] 0 [] := by
    intro H locs hw hS ls hl
    refine lv_iconst (v := nI 0) hx hb dX4_copyFrom_0 (by decide) ?_
    refine lv_istore_n (lv' := [(2, .int (nI 0)), (0, .ref (ad g 0)), (1, .ref (ad g2 0))]) hx hb dX4_copyFrom_1 rfl hl (by decide) rfl (fun ls hl => ?_)
    exact L2 FU m (nI 0) h H locs hw hS ls (lv_sub hl [1, 2, 0] rfl)
  exact main _ _ hw hS ls hl

theorem cf_X2_record : cfV RX2 yX2_record cX2_record 2 none 1 := ⟨⟨k_257, k_258, k_6, k_259⟩, by decide +kernel⟩
def f_X2_record (M : MM) : Option (Int32 × MM) :=
  gn (nI 4) (gd (((M 8 1 1) + (M 8 1 2)) - ((M 8 1 1) + (M 8 1 2)) / (nI 4) * (nI 4)) 4 (bd (f_X4_copyFrom (M (3 + (((M 8 1 1) + (M 8 1 2)) - ((M 8 1 1) + (M 8 1 2)) / (nI 4) * (nI 4)).toNatClampNeg)) (M 0)) fun r5 m6 => lt1 (gs M (3 + (((M 8 1 1) + (M 8 1 2)) - ((M 8 1 1) + (M 8 1 2)) / (nI 4) * (nI 4)).toNatClampNeg) m6) fun M7 => (if (nI 4) ≤ (M7 8 1 2) then gn (nI 4) (lt1 (gs M7 8 (up (M7 8) 1 1 (((M7 8 1 1) + (nI 1)) - ((M7 8 1 1) + (nI 1)) / (nI 4) * (nI 4)))) fun M12 => some (0, M12)) else lt1 (gs M7 8 (up (M7 8) 1 2 ((M7 8 1 2) + (nI 1)))) fun M14 => some (0, M14))))
set_option maxHeartbeats 4000000 in
set_option maxRecDepth 100000 in
theorem c_X2_record {l : Launch} {D : va_G} {cy : Nat → ClassId} {ad : Nat → Nat → Nat} (hcv : CV ad) {M : MM} {r : Int32} {x : MM} (h : f_X2_record M = some (r, x)) : Met l yX2_record (.code yX2_record cX2_record 2 none :: TB) ({ frames := 3, cells := 0, slots := 0, locals := 103 } : Room) (PW D cy ad M [.ref (ad 8 1), .ref (ad 0 0)]) (QV D cy ad x) 0 0 (AD ad) := by
  refine m_in (by decide +kernel) (Nat.le_of_ble_eq_true rfl) ?_
  intro p e s md args below meth c hC hw hS ls hl
  obtain ⟨hx, hb, hr, hml, hown, hts, hK, hlk⟩ := hC
  have hl : lv_has ls 2 [(0, .ref (ad 8 1)), (1, .ref (ad 0 0))] := hl
  unfold f_X2_record at h
  have main : JL p l e ({ frames := 3, cells := 0, slots := 0, locals := 103 } : Room) s md args below meth c D cy ad (MQ below (QV D cy ad x) args s 0 0 (AD ad)) (M) 2 [(0, .ref (ad 8 1)), (1, .ref (ad 0 0))] 0 [] := by
    intro H locs hw hS ls hl
    refine lv_aload_n hx hb dX2_record_0 rfl (lv_at hl 0 rfl) ?_
    refine r_get hx hb hts hown hK hw (v_mn (by decide)) rfl E_hi inX2 rfl 0 (by decide) k_195 rfl rfl dX2_record_1 ?_
    refine lv_aload_n hx hb dX2_record_4 rfl (lv_at hl 0 rfl) ?_
    refine r_get hx hb hts hown hK hw (v_mn (by decide)) rfl E_hi inX2 rfl 1 (by decide) k_196 rfl rfl dX2_record_5 ?_
    refine lv_aload_n hx hb dX2_record_8 rfl (lv_at hl 0 rfl) ?_
    refine r_get hx hb hts hown hK hw (v_mn (by decide)) rfl E_hi inX2 rfl 2 (by decide) k_197 rfl rfl dX2_record_9 ?_
    refine lv_iadd hx hb dX2_record_12 ?_
    refine lv_iconst (v := nI 4) hx hb dX2_record_13 (by decide) ?_
    obtain ⟨q1, h⟩ := t_gn h
    refine lv_irem hx hb dX2_record_14 q1 ?_
    obtain ⟨q2, h⟩ := t_gd h
    have q3 : 3 + (((M 8 1 1) + (M 8 1 2)) - ((M 8 1 1) + (M 8 1 2)) / (nI 4) * (nI 4)).toNatClampNeg < 7 := by have := vin q2; omega
    refine r_aald hx hb hK hw (v_mn (by decide)) (t0 := 4) rfl E_sa (v := .ref (ad (3 + (((M 8 1 1) + (M 8 1 2)) - ((M 8 1 1) + (M 8 1 2)) / (nI 4) * (nI 4)).toNatClampNeg) 0)) rfl q2 dX2_record_15 ?_
    refine lv_aload_n hx hb dX2_record_16 rfl (lv_at hl 1 rfl) ?_
    obtain ⟨r5, m6, y4, h⟩ := t_bd h
    obtain ⟨M7, e8, h⟩ := t_lt h
    refine c_vv hx hb hml hown hts hK hw hS (fun _ h => h) (As := [.ref (ad 0 0)]) (rest := []) (c_X4_copyFrom hcv (g := (3 + (((M 8 1 1) + (M 8 1 2)) - ((M 8 1 1) + (M 8 1 2)) / (nI 4) * (nI 4)).toNatClampNeg)) (hg := q3) (g2 := 0) (hg2 := (by decide)) (M0 := M) (m := M (3 + (((M 8 1 1) + (M 8 1 2)) - ((M 8 1 1) + (M 8 1 2)) / (nI 4) * (nI 4)).toNatClampNeg)) (hm := rfl) (mz := M 0) (hne := by omega) (hm2 := rfl) y4) cf_X4_copyFrom k_260 rfl rfl ⟨Nat.le_of_ble_eq_true rfl, Nat.le_of_ble_eq_true rfl⟩ (r_recv hK hw (v_st q3 (by decide)) (E_st q3) rfl) rfl hl.1 rfl (Nat.le_of_ble_eq_true rfl) ⟨Nat.le_refl _, Nat.le_refl _⟩ dX2_record_17 (fun H locs hw hS => ?_)
    rw [← e8] at hw
    refine lv_aload_n hx hb dX2_record_20 rfl (lv_at hl 0 rfl) ?_
    refine r_get hx hb hts hown hK hw (v_mn (by decide)) rfl E_hi inX2 rfl 2 (by decide) k_197 rfl rfl dX2_record_21 ?_
    refine lv_iconst (v := nI 4) hx hb dX2_record_24 (by decide) ?_
    refine lv_icmp_ge (tgt := 41) hx hb dX2_record_25 (by decide) (fun q9 => ?_) (fun q9 => ?_)
    · replace h := t_pos h q9
      refine lv_aload_n hx hb dX2_record_41 rfl (lv_at hl 0 rfl) ?_
      refine lv_aload_n hx hb dX2_record_42 rfl (lv_at hl 0 rfl) ?_
      refine r_get hx hb hts hown hK hw (v_mn (by decide)) rfl E_hi inX2 rfl 1 (by decide) k_196 rfl rfl dX2_record_43 ?_
      refine lv_iconst (v := nI 1) hx hb dX2_record_46 (by decide) ?_
      refine lv_iadd hx hb dX2_record_47 ?_
      refine lv_iconst (v := nI 4) hx hb dX2_record_48 (by decide) ?_
      obtain ⟨q10, h⟩ := t_gn h
      refine lv_irem hx hb dX2_record_49 q10 ?_
      obtain ⟨M12, e11, h⟩ := t_lt h
      refine r_put hx hb hts hown hK hcv hw hS (v_mn (by decide)) rfl E_hi inX2 rfl tyX2 tyX2_ok nmX2 1 (by decide) k_196 rfl rfl rfl rfl (Nat.le_of_ble_eq_true rfl) E_hi e11.symm dX2_record_50 (fun H locs hw hS => ?_)
      have e1 := (t_ret h).1
      have e2 := (t_ret h).2
      exact e_v hx hb hr hlk hw hS e2 dX2_record_53
    · replace h := t_neg h q9
      refine lv_aload_n hx hb dX2_record_28 rfl (lv_at hl 0 rfl) ?_
      refine lv_dup hx hb dX2_record_29 rfl ?_
      refine r_get hx hb hts hown hK hw (v_mn (by decide)) rfl E_hi inX2 rfl 2 (by decide) k_197 rfl rfl dX2_record_30 ?_
      refine lv_iconst (v := nI 1) hx hb dX2_record_33 (by decide) ?_
      refine lv_iadd hx hb dX2_record_34 ?_
      obtain ⟨M14, e13, h⟩ := t_lt h
      refine r_put hx hb hts hown hK hcv hw hS (v_mn (by decide)) rfl E_hi inX2 rfl tyX2 tyX2_ok nmX2 2 (by decide) k_197 rfl rfl rfl rfl (Nat.le_of_ble_eq_true rfl) E_hi e13.symm dX2_record_35 (fun H locs hw hS => ?_)
      refine lv_goto (tgt := 53) hx hb dX2_record_38 (by decide) ?_
      have e1 := (t_ret h).1
      have e2 := (t_ret h).2
      exact e_v hx hb hr hlk hw hS e2 dX2_record_53
  exact main _ _ hw hS ls hl

theorem cf_X2_takeLatest : cfV RX2 yX2_takeLatest cX2_takeLatest 2 none 1 := ⟨⟨k_497, k_498, k_6, k_499⟩, by decide +kernel⟩
def f_X2_takeLatest (M : MM) : Option (Int32 × MM) :=
  (if (M 8 1 2) ≤ (nI 0) then some (0, M) else lt1 (gs M 8 (up (M 8) 1 2 ((M 8 1 2) - (nI 1)))) fun M3 => gn (nI 4) (gd (((M3 8 1 1) + (M3 8 1 2)) - ((M3 8 1 1) + (M3 8 1 2)) / (nI 4) * (nI 4)) 4 (bd (f_X4_copyFrom (M3 0) (M3 (3 + (((M3 8 1 1) + (M3 8 1 2)) - ((M3 8 1 1) + (M3 8 1 2)) / (nI 4) * (nI 4)).toNatClampNeg))) fun r8 m9 => lt1 (gs M3 0 m9) fun M10 => some (0, M10))))
set_option maxHeartbeats 4000000 in
set_option maxRecDepth 100000 in
theorem c_X2_takeLatest {l : Launch} {D : va_G} {cy : Nat → ClassId} {ad : Nat → Nat → Nat} (hcv : CV ad) {M : MM} {r : Int32} {x : MM} (h : f_X2_takeLatest M = some (r, x)) : Met l yX2_takeLatest (.code yX2_takeLatest cX2_takeLatest 2 none :: TB) ({ frames := 3, cells := 0, slots := 0, locals := 103 } : Room) (PW D cy ad M [.ref (ad 8 1), .ref (ad 0 0)]) (QV D cy ad x) 0 0 (AD ad) := by
  refine m_in (by decide +kernel) (Nat.le_of_ble_eq_true rfl) ?_
  intro p e s md args below meth c hC hw hS ls hl
  obtain ⟨hx, hb, hr, hml, hown, hts, hK, hlk⟩ := hC
  have hl : lv_has ls 2 [(0, .ref (ad 8 1)), (1, .ref (ad 0 0))] := hl
  unfold f_X2_takeLatest at h
  have main : JL p l e ({ frames := 3, cells := 0, slots := 0, locals := 103 } : Room) s md args below meth c D cy ad (MQ below (QV D cy ad x) args s 0 0 (AD ad)) (M) 2 [(0, .ref (ad 8 1)), (1, .ref (ad 0 0))] 0 [] := by
    intro H locs hw hS ls hl
    refine lv_aload_n hx hb dX2_takeLatest_0 rfl (lv_at hl 0 rfl) ?_
    refine r_get hx hb hts hown hK hw (v_mn (by decide)) rfl E_hi inX2 rfl 2 (by decide) k_197 rfl rfl dX2_takeLatest_1 ?_
    refine lv_if_le (tgt := 37) hx hb dX2_takeLatest_4 (by decide) (fun q1 => ?_) (fun q1 => ?_)
    · replace h := t_pos h q1
      have e1 := (t_ret h).1
      have e2 := (t_ret h).2
      exact e_v hx hb hr hlk hw hS e2 dX2_takeLatest_37
    · replace h := t_neg h q1
      refine lv_aload_n hx hb dX2_takeLatest_7 rfl (lv_at hl 0 rfl) ?_
      refine lv_dup hx hb dX2_takeLatest_8 rfl ?_
      refine r_get hx hb hts hown hK hw (v_mn (by decide)) rfl E_hi inX2 rfl 2 (by decide) k_197 rfl rfl dX2_takeLatest_9 ?_
      refine lv_iconst (v := nI 1) hx hb dX2_takeLatest_12 (by decide) ?_
      refine lv_isub hx hb dX2_takeLatest_13 ?_
      obtain ⟨M3, e2, h⟩ := t_lt h
      refine r_put hx hb hts hown hK hcv hw hS (v_mn (by decide)) rfl E_hi inX2 rfl tyX2 tyX2_ok nmX2 2 (by decide) k_197 rfl rfl rfl rfl (Nat.le_of_ble_eq_true rfl) E_hi e2.symm dX2_takeLatest_14 (fun H locs hw hS => ?_)
      refine lv_aload_n hx hb dX2_takeLatest_17 rfl (lv_at hl 1 rfl) ?_
      refine lv_aload_n hx hb dX2_takeLatest_18 rfl (lv_at hl 0 rfl) ?_
      refine r_get hx hb hts hown hK hw (v_mn (by decide)) rfl E_hi inX2 rfl 0 (by decide) k_195 rfl rfl dX2_takeLatest_19 ?_
      refine lv_aload_n hx hb dX2_takeLatest_22 rfl (lv_at hl 0 rfl) ?_
      refine r_get hx hb hts hown hK hw (v_mn (by decide)) rfl E_hi inX2 rfl 1 (by decide) k_196 rfl rfl dX2_takeLatest_23 ?_
      refine lv_aload_n hx hb dX2_takeLatest_26 rfl (lv_at hl 0 rfl) ?_
      refine r_get hx hb hts hown hK hw (v_mn (by decide)) rfl E_hi inX2 rfl 2 (by decide) k_197 rfl rfl dX2_takeLatest_27 ?_
      refine lv_iadd hx hb dX2_takeLatest_30 ?_
      refine lv_iconst (v := nI 4) hx hb dX2_takeLatest_31 (by decide) ?_
      obtain ⟨q4, h⟩ := t_gn h
      refine lv_irem hx hb dX2_takeLatest_32 q4 ?_
      obtain ⟨q5, h⟩ := t_gd h
      have q6 : 3 + (((M3 8 1 1) + (M3 8 1 2)) - ((M3 8 1 1) + (M3 8 1 2)) / (nI 4) * (nI 4)).toNatClampNeg < 7 := by have := vin q5; omega
      refine r_aald hx hb hK hw (v_mn (by decide)) (t0 := 4) rfl E_sa (v := .ref (ad (3 + (((M3 8 1 1) + (M3 8 1 2)) - ((M3 8 1 1) + (M3 8 1 2)) / (nI 4) * (nI 4)).toNatClampNeg) 0)) rfl q5 dX2_takeLatest_33 ?_
      obtain ⟨r8, m9, y7, h⟩ := t_bd h
      obtain ⟨M10, e11, h⟩ := t_lt h
      refine c_vv hx hb hml hown hts hK hw hS (fun _ h => h) (As := [.ref (ad (3 + (((M3 8 1 1) + (M3 8 1 2)) - ((M3 8 1 1) + (M3 8 1 2)) / (nI 4) * (nI 4)).toNatClampNeg) 0)]) (rest := []) (c_X4_copyFrom hcv (g := 0) (hg := (by decide)) (g2 := (3 + (((M3 8 1 1) + (M3 8 1 2)) - ((M3 8 1 1) + (M3 8 1 2)) / (nI 4) * (nI 4)).toNatClampNeg)) (hg2 := q6) (M0 := M3) (m := M3 0) (hm := rfl) (mz := M3 (3 + (((M3 8 1 1) + (M3 8 1 2)) - ((M3 8 1 1) + (M3 8 1 2)) / (nI 4) * (nI 4)).toNatClampNeg)) (hne := by omega) (hm2 := rfl) y7) cf_X4_copyFrom k_260 rfl rfl ⟨Nat.le_of_ble_eq_true rfl, Nat.le_of_ble_eq_true rfl⟩ (r_recv hK hw (v_st (by decide) (by decide)) (E_st (by decide)) rfl) rfl hl.1 rfl (Nat.le_of_ble_eq_true rfl) ⟨Nat.le_refl _, Nat.le_refl _⟩ dX2_takeLatest_34 (fun H locs hw hS => ?_)
      rw [← e11] at hw
      have e1 := (t_ret h).1
      have e2 := (t_ret h).2
      exact e_v hx hb hr hlk hw hS e2 dX2_takeLatest_37
  exact main _ _ hw hS ls hl

theorem cf_X3_finish : cfV RX3 yX3_finish cX3_finish 2 none 1 := ⟨⟨k_331, k_332, k_5, k_333⟩, by decide +kernel⟩
def f_X3_finish (m : SM) (i : Nat) (p0 : Int32) : Option (Int32 × SM) :=
  lt1 (up m (19 + i) 7 p0) fun m2 => lt1 (up m2 (19 + i) 4 (nI 1)) fun m4 => some (0, m4)
set_option maxHeartbeats 4000000 in
set_option maxRecDepth 100000 in
theorem c_X3_finish {l : Launch} {D : va_G} {cy : Nat → ClassId} {ad : Nat → Nat → Nat} (hcv : CV ad) {g : Nat} (hg : g < 7) {i : Nat} (hi : i < 6) {M0 : MM} {m : SM} (hm : M0 g = m) {p0 : Int32} {r : Int32} {x : SM} (h : f_X3_finish m i p0 = some (r, x)) : Met l yX3_finish (.code yX3_finish cX3_finish 2 none :: TB) ({ frames := 0, cells := 0, slots := 0, locals := 0 } : Room) (PW D cy ad M0 [.ref (ad g (19 + i)), .int p0]) (QV D cy ad (gs M0 g x)) 0 0 (AD ad) := by
  refine m_in (by decide +kernel) (Nat.le_of_ble_eq_true rfl) ?_
  intro p e s md args below meth c hC hw hS ls hl
  obtain ⟨hx, hb, hr, hml, hown, hts, hK, hlk⟩ := hC
  have hl : lv_has ls 2 [(0, .ref (ad g (19 + i))), (1, .int p0)] := hl
  rw [← gs_same hm] at hw
  unfold f_X3_finish at h
  have main : JL p l e ({ frames := 0, cells := 0, slots := 0, locals := 0 } : Room) s md args below meth c D cy ad (MQ below (QV D cy ad (gs M0 g x)) args s 0 0 (AD ad)) (gs M0 g m) 2 [(0, .ref (ad g (19 + i))), (1, .int p0)] 0 [] := by
    intro H locs hw hS ls hl
    refine lv_aload_n hx hb dX3_finish_0 rfl (lv_at hl 0 rfl) ?_
    refine lv_iload_n hx hb dX3_finish_1 rfl (lv_at hl 1 rfl) ?_
    obtain ⟨m2, e1, h⟩ := t_lt h
    refine r_put hx hb hts hown hK hcv hw hS (v_qu hg hi) gs_atc (E_qu hg) inX3 rfl tyX3 tyX3_ok nmX3 7 (by decide) k_142 rfl rfl rfl rfl (Nat.le_of_ble_eq_true rfl) (E_qu hg) (gs_up e1) dX3_finish_2 (fun H locs hw hS => ?_)
    refine lv_aload_n hx hb dX3_finish_5 rfl (lv_at hl 0 rfl) ?_
    refine lv_iconst (v := nI 1) hx hb dX3_finish_6 (by decide) ?_
    obtain ⟨m4, e3, h⟩ := t_lt h
    refine r_put hx hb hts hown hK hcv hw hS (v_qu hg hi) gs_atc (E_qu hg) inX3 rfl tyX3 tyX3_ok nmX3 4 (by decide) k_133 rfl rfl rfl rfl (Nat.le_of_ble_eq_true rfl) (E_qu hg) (gs_up e3) dX3_finish_7 (fun H locs hw hS => ?_)
    have e1 := (t_ret h).1
    have e2 := (t_ret h).2
    exact e_v hx hb hr hlk hw hS (by rw [e2]) dX3_finish_10
  exact main _ _ hw hS ls hl

theorem cf_X3_urgency : cfV RX3 yX3_urgency cX3_urgency 2 (some .int) 1 := ⟨⟨k_450, k_451, k_5, k_452⟩, by decide +kernel⟩
def f_X3_urgency (m : SM) (i : Nat) (i2 : Nat) : Option (Int32) :=
  (if (m (19 + i) 0) = (nI 1) then (if (m (19 + i) 2) ≤ (m (3 + i2) 2) then some (nI 0) else (if (m (3 + i2) 3) < (m (19 + i) 2) then some (nI 0) else some (nI 100))) else (if (m (19 + i) 0) = (nI 2) then (if (m (19 + i) 6) ≤ (m (3 + i2) 2) then some (nI 0) else some (nI 100)) else (if (m (19 + i) 0) = (nI 3) then (if (m (3 + i2) 3) ≤ (m (19 + i) 5) then some (nI 0) else some (nI 100)) else (some ((m (3 + i2) 3) - (m (3 + i2) 2))))))
set_option maxHeartbeats 4000000 in
set_option maxRecDepth 100000 in
theorem c_X3_urgency {l : Launch} {D : va_G} {cy : Nat → ClassId} {ad : Nat → Nat → Nat} (hcv : CV ad) {g : Nat} (hg : g < 7) {i : Nat} (hi : i < 6) {i2 : Nat} (hi2 : i2 < 8) {M0 : MM} {m : SM} (hm : M0 g = m) {r : Int32} (h : f_X3_urgency m i i2 = some r) : Met l yX3_urgency (.code yX3_urgency cX3_urgency 2 (some .int) :: TB) ({ frames := 0, cells := 0, slots := 0, locals := 0 } : Room) (PW D cy ad M0 [.ref (ad g (19 + i)), .ref (ad g (3 + i2))]) (QI D cy ad r M0) 0 0 (AD ad) := by
  refine m_in (by decide +kernel) (Nat.le_of_ble_eq_true rfl) ?_
  intro p e s md args below meth c hC hw hS ls hl
  obtain ⟨hx, hb, hr, hml, hown, hts, hK, hlk⟩ := hC
  have hl : lv_has ls 2 [(0, .ref (ad g (19 + i))), (1, .ref (ad g (3 + i2)))] := hl
  rw [← gs_same hm] at hw
  unfold f_X3_urgency at h
  have main : JL p l e ({ frames := 0, cells := 0, slots := 0, locals := 0 } : Room) s md args below meth c D cy ad (MQ below (QI D cy ad r M0) args s 0 0 (AD ad)) (gs M0 g m) 2 [(0, .ref (ad g (19 + i))), (1, .ref (ad g (3 + i2)))] 0 [] := by
    intro H locs hw hS ls hl
    refine lv_aload_n hx hb dX3_urgency_0 rfl (lv_at hl 0 rfl) ?_
    refine r_get hx hb hts hown hK hw (v_qu hg hi) gs_atc (E_qu hg) inX3 rfl 0 (by decide) k_121 rfl rfl dX3_urgency_1 ?_
    by_cases q1 : (m (19 + i) 0) = (nI 1)
    · replace h := t_pos h q1
      refine lv_tableIn (off := 28) (tgt := 32) hx hb dX3_urgency_4 (by rw [q1]; decide) (by rw [q1]; decide) (by rw [q1]; rfl) (by decide) ?_
      refine lv_aload_n hx hb dX3_urgency_32 rfl (lv_at hl 1 rfl) ?_
      refine r_get hx hb hts hown hK hw (v_bk hg hi2) gs_atc (E_bk hg hi2) inX0 rfl 2 (by decide) k_79 rfl rfl dX3_urgency_33 ?_
      refine lv_aload_n hx hb dX3_urgency_36 rfl (lv_at hl 0 rfl) ?_
      refine r_get hx hb hts hown hK hw (v_qu hg hi) gs_atc (E_qu hg) inX3 rfl 2 (by decide) k_127 rfl rfl dX3_urgency_37 ?_
      refine lv_icmp_ge (tgt := 59) hx hb dX3_urgency_40 (by decide) (fun q6 => ?_) (fun q6 => ?_)
      · replace h := t_pos h q6
        refine lv_iconst (v := nI 0) hx hb dX3_urgency_59 (by decide) ?_
        have e1 := Option.some.inj h
        exact e_i hx hb hr hlk hw hS e1 (gs_same hm) dX3_urgency_60
      · replace h := t_neg h q6
        refine lv_aload_n hx hb dX3_urgency_43 rfl (lv_at hl 1 rfl) ?_
        refine r_get hx hb hts hown hK hw (v_bk hg hi2) gs_atc (E_bk hg hi2) inX0 rfl 3 (by decide) k_83 rfl rfl dX3_urgency_44 ?_
        refine lv_aload_n hx hb dX3_urgency_47 rfl (lv_at hl 0 rfl) ?_
        refine r_get hx hb hts hown hK hw (v_qu hg hi) gs_atc (E_qu hg) inX3 rfl 2 (by decide) k_127 rfl rfl dX3_urgency_48 ?_
        refine lv_icmp_lt (tgt := 59) hx hb dX3_urgency_51 (by decide) (fun q7 => ?_) (fun q7 => ?_)
        · replace h := t_pos h q7
          refine lv_iconst (v := nI 0) hx hb dX3_urgency_59 (by decide) ?_
          have e1 := Option.some.inj h
          exact e_i hx hb hr hlk hw hS e1 (gs_same hm) dX3_urgency_60
        · replace h := t_neg h q7
          refine lv_bipush (v := nI 100) hx hb dX3_urgency_54 (by decide) ?_
          refine lv_goto (tgt := 60) hx hb dX3_urgency_56 (by decide) ?_
          have e1 := Option.some.inj h
          exact e_i hx hb hr hlk hw hS e1 (gs_same hm) dX3_urgency_60
    · replace h := t_neg h q1
      by_cases q2 : (m (19 + i) 0) = (nI 2)
      · replace h := t_pos h q2
        refine lv_tableIn (off := 57) (tgt := 61) hx hb dX3_urgency_4 (by rw [q2]; decide) (by rw [q2]; decide) (by rw [q2]; rfl) (by decide) ?_
        refine lv_aload_n hx hb dX3_urgency_61 rfl (lv_at hl 1 rfl) ?_
        refine r_get hx hb hts hown hK hw (v_bk hg hi2) gs_atc (E_bk hg hi2) inX0 rfl 2 (by decide) k_79 rfl rfl dX3_urgency_62 ?_
        refine lv_aload_n hx hb dX3_urgency_65 rfl (lv_at hl 0 rfl) ?_
        refine r_get hx hb hts hown hK hw (v_qu hg hi) gs_atc (E_qu hg) inX3 rfl 6 (by decide) k_139 rfl rfl dX3_urgency_66 ?_
        refine lv_icmp_ge (tgt := 77) hx hb dX3_urgency_69 (by decide) (fun q5 => ?_) (fun q5 => ?_)
        · replace h := t_pos h q5
          refine lv_iconst (v := nI 0) hx hb dX3_urgency_77 (by decide) ?_
          have e1 := Option.some.inj h
          exact e_i hx hb hr hlk hw hS e1 (gs_same hm) dX3_urgency_78
        · replace h := t_neg h q5
          refine lv_bipush (v := nI 100) hx hb dX3_urgency_72 (by decide) ?_
          refine lv_goto (tgt := 78) hx hb dX3_urgency_74 (by decide) ?_
          have e1 := Option.some.inj h
          exact e_i hx hb hr hlk hw hS e1 (gs_same hm) dX3_urgency_78
      · replace h := t_neg h q2
        by_cases q3 : (m (19 + i) 0) = (nI 3)
        · replace h := t_pos h q3
          refine lv_tableIn (off := 75) (tgt := 79) hx hb dX3_urgency_4 (by rw [q3]; decide) (by rw [q3]; decide) (by rw [q3]; rfl) (by decide) ?_
          refine lv_aload_n hx hb dX3_urgency_79 rfl (lv_at hl 1 rfl) ?_
          refine r_get hx hb hts hown hK hw (v_bk hg hi2) gs_atc (E_bk hg hi2) inX0 rfl 3 (by decide) k_83 rfl rfl dX3_urgency_80 ?_
          refine lv_aload_n hx hb dX3_urgency_83 rfl (lv_at hl 0 rfl) ?_
          refine r_get hx hb hts hown hK hw (v_qu hg hi) gs_atc (E_qu hg) inX3 rfl 5 (by decide) k_136 rfl rfl dX3_urgency_84 ?_
          refine lv_icmp_le (tgt := 95) hx hb dX3_urgency_87 (by decide) (fun q4 => ?_) (fun q4 => ?_)
          · replace h := t_pos h q4
            refine lv_iconst (v := nI 0) hx hb dX3_urgency_95 (by decide) ?_
            have e1 := Option.some.inj h
            exact e_i hx hb hr hlk hw hS e1 (gs_same hm) dX3_urgency_96
          · replace h := t_neg h q4
            refine lv_bipush (v := nI 100) hx hb dX3_urgency_90 (by decide) ?_
            refine lv_goto (tgt := 96) hx hb dX3_urgency_92 (by decide) ?_
            have e1 := Option.some.inj h
            exact e_i hx hb hr hlk hw hS e1 (gs_same hm) dX3_urgency_96
        · replace h := t_neg h q3
          refine lv_tableOut (tgt := 97) hx hb dX3_urgency_4 (tab_out (lo := 1) (n := 3) (by decide) (lt_s (lt_s (lt_s lt_0 q1) q2) q3)) (by decide) ?_
          refine lv_aload_n hx hb dX3_urgency_97 rfl (lv_at hl 1 rfl) ?_
          refine r_get hx hb hts hown hK hw (v_bk hg hi2) gs_atc (E_bk hg hi2) inX0 rfl 3 (by decide) k_83 rfl rfl dX3_urgency_98 ?_
          refine lv_aload_n hx hb dX3_urgency_101 rfl (lv_at hl 1 rfl) ?_
          refine r_get hx hb hts hown hK hw (v_bk hg hi2) gs_atc (E_bk hg hi2) inX0 rfl 2 (by decide) k_79 rfl rfl dX3_urgency_102 ?_
          refine lv_isub hx hb dX3_urgency_105 ?_
          have e1 := Option.some.inj h
          exact e_i hx hb hr hlk hw hS e1 (gs_same hm) dX3_urgency_106
  exact main _ _ hw hS ls hl

theorem cf_X4_hasBlock : cfV RX4 yX4_hasBlock cX4_hasBlock 2 (some .boolean) 1 := ⟨⟨k_339, k_340, k_3, k_341⟩, by decide +kernel⟩
def f_X4_hasBlock (m : SM) (p0 : Int32) : Option (Int32) :=
  b1 (f_X5_isFromTo p0 (nI 0) ((m 0 2) - (nI 1))) fun r2 => gz r2 (some r2)
set_option maxHeartbeats 4000000 in
set_option maxRecDepth 100000 in
theorem c_X4_hasBlock {l : Launch} {D : va_G} {cy : Nat → ClassId} {ad : Nat → Nat → Nat} (hcv : CV ad) {g : Nat} (hg : g < 7) {M0 : MM} {m : SM} (hm : M0 g = m) {p0 : Int32} {r : Int32} (h : f_X4_hasBlock m p0 = some r) : Met l yX4_hasBlock (.code yX4_hasBlock cX4_hasBlock 2 (some .boolean) :: TB) ({ frames := 1, cells := 0, slots := 0, locals := 22 } : Room) (PW D cy ad M0 [.ref (ad g 0), .int p0]) (QI D cy ad r M0) 0 0 (AD ad) := by
  refine m_in (by decide +kernel) (Nat.le_of_ble_eq_true rfl) ?_
  intro p e s md args below meth c hC hw hS ls hl
  obtain ⟨hx, hb, hr, hml, hown, hts, hK, hlk⟩ := hC
  have hl : lv_has ls 2 [(0, .ref (ad g 0)), (1, .int p0)] := hl
  rw [← gs_same hm] at hw
  unfold f_X4_hasBlock at h
  have main : JL p l e ({ frames := 1, cells := 0, slots := 0, locals := 22 } : Room) s md args below meth c D cy ad (MQ below (QI D cy ad r M0) args s 0 0 (AD ad)) (gs M0 g m) 2 [(0, .ref (ad g 0)), (1, .int p0)] 0 [] := by
    intro H locs hw hS ls hl
    refine lv_iload_n hx hb dX4_hasBlock_0 rfl (lv_at hl 1 rfl) ?_
    refine lv_iconst (v := nI 0) hx hb dX4_hasBlock_1 (by decide) ?_
    refine lv_aload_n hx hb dX4_hasBlock_2 rfl (lv_at hl 0 rfl) ?_
    refine r_get hx hb hts hown hK hw (v_st hg (by decide)) gs_atc (E_st hg) inX4 rfl 2 (by decide) k_165 rfl rfl dX4_hasBlock_3 ?_
    refine lv_iconst (v := nI 1) hx hb dX4_hasBlock_6 (by decide) ?_
    refine lv_isub hx hb dX4_hasBlock_7 ?_
    obtain ⟨r2, y1, h⟩ := t_b1 h
    refine c_sn hx hb hml hown hts hK hw hS (fun _ h => h) (As := [.int p0, .int (nI 0), .int ((m 0 2) - (nI 1))]) (rest := []) (c_X5_isFromTo hcv (M0 := gs M0 g m) y1) cf_X5_isFromTo k_342n rfl rfl ⟨Nat.le_of_ble_eq_true rfl, Nat.le_of_ble_eq_true rfl⟩ rfl hl.1 rfl (Nat.le_of_ble_eq_true rfl) ⟨Nat.le_refl _, Nat.le_refl _⟩ dX4_hasBlock_8 (fun H locs hw hS => ?_)
    obtain ⟨q3, h⟩ := t_gz h
    have e1 := Option.some.inj h
    exact e_z hx hb hr hlk q3 hw hS e1 (gs_same hm) dX4_hasBlock_11
  exact main _ _ hw hS ls hl

theorem cf_X4_hasRow : cfV RX4 yX4_hasRow cX4_hasRow 3 (some .boolean) 2 := ⟨⟨k_357, k_358, k_3, k_359⟩, by decide +kernel⟩
def f_X4_hasRow (m : SM) (p0 : Int32) (p1 : Int32) : Option (Int32) :=
  b1 (f_X4_hasBlock m p0) fun r2 => (if r2 = (nI 0) then some (nI 0) else gd p0 8 (b1 (f_X5_isFromTo p1 (nI 0) ((m (3 + p0.toNatClampNeg) 4) - (nI 1))) fun r6 => (if r6 = (nI 0) then some (nI 0) else some (nI 1))))
set_option maxHeartbeats 4000000 in
set_option maxRecDepth 100000 in
theorem c_X4_hasRow {l : Launch} {D : va_G} {cy : Nat → ClassId} {ad : Nat → Nat → Nat} (hcv : CV ad) {g : Nat} (hg : g < 7) {M0 : MM} {m : SM} (hm : M0 g = m) {p0 p1 : Int32} {r : Int32} (h : f_X4_hasRow m p0 p1 = some r) : Met l yX4_hasRow (.code yX4_hasRow cX4_hasRow 3 (some .boolean) :: TB) ({ frames := 2, cells := 0, slots := 0, locals := 43 } : Room) (PW D cy ad M0 [.ref (ad g 0), .int p0, .int p1]) (QI D cy ad r M0) 0 0 (AD ad) := by
  refine m_in (by decide +kernel) (Nat.le_of_ble_eq_true rfl) ?_
  intro p e s md args below meth c hC hw hS ls hl
  obtain ⟨hx, hb, hr, hml, hown, hts, hK, hlk⟩ := hC
  have hl : lv_has ls 3 [(0, .ref (ad g 0)), (1, .int p0), (2, .int p1)] := hl
  rw [← gs_same hm] at hw
  unfold f_X4_hasRow at h
  have main : JL p l e ({ frames := 2, cells := 0, slots := 0, locals := 43 } : Room) s md args below meth c D cy ad (MQ below (QI D cy ad r M0) args s 0 0 (AD ad)) (gs M0 g m) 3 [(0, .ref (ad g 0)), (1, .int p0), (2, .int p1)] 0 [] := by
    intro H locs hw hS ls hl
    refine lv_aload_n hx hb dX4_hasRow_0 rfl (lv_at hl 0 rfl) ?_
    refine lv_iload_n hx hb dX4_hasRow_1 rfl (lv_at hl 1 rfl) ?_
    obtain ⟨r2, y1, h⟩ := t_b1 h
    refine c_vi hx hb hml hown hts hK hw hS (fun _ h => h) (As := [.int p0]) (rest := []) (c_X4_hasBlock hcv (g := g) (hg := hg) (M0 := gs M0 g m) (m := m) (hm := gs_at) y1) cf_X4_hasBlock k_360 rfl rfl ⟨Nat.le_of_ble_eq_true rfl, Nat.le_of_ble_eq_true rfl⟩ (r_recv hK hw (v_st hg (by decide)) (E_st hg) rfl) rfl hl.1 rfl (Nat.le_of_ble_eq_true rfl) ⟨Nat.le_refl _, Nat.le_refl _⟩ dX4_hasRow_2 (fun H locs hw hS => ?_)
    refine lv_if_eq (tgt := 31) hx hb dX4_hasRow_5 (by decide) (fun q3 => ?_) (fun q3 => ?_)
    · replace h := t_pos h q3
      refine lv_iconst (v := nI 0) hx hb dX4_hasRow_31 (by decide) ?_
      have e1 := Option.some.inj h
      exact e_z hx hb hr hlk (Or.inl rfl) hw hS e1 (gs_same hm) dX4_hasRow_32
    · replace h := t_neg h q3
      refine lv_iload_n hx hb dX4_hasRow_8 rfl (lv_at hl 2 rfl) ?_
      refine lv_iconst (v := nI 0) hx hb dX4_hasRow_9 (by decide) ?_
      refine lv_aload_n hx hb dX4_hasRow_10 rfl (lv_at hl 0 rfl) ?_
      refine r_get hx hb hts hown hK hw (v_st hg (by decide)) gs_atc (E_st hg) inX4 rfl 0 (by decide) k_161 rfl rfl dX4_hasRow_11 ?_
      refine lv_iload_n hx hb dX4_hasRow_14 rfl (lv_at hl 1 rfl) ?_
      obtain ⟨q4, h⟩ := t_gd h
      refine r_aald hx hb hK hw (v_st hg (by decide)) (t0 := 2) rfl (E_ba hg) (v := .ref (ad g (3 + p0.toNatClampNeg))) rfl q4 dX4_hasRow_15 ?_
      refine r_get hx hb hts hown hK hw (v_bk hg (vin q4)) gs_atc (E_bk hg (vin q4)) inX0 rfl 4 (by decide) k_88 rfl rfl dX4_hasRow_16 ?_
      refine lv_iconst (v := nI 1) hx hb dX4_hasRow_19 (by decide) ?_
      refine lv_isub hx hb dX4_hasRow_20 ?_
      obtain ⟨r6, y5, h⟩ := t_b1 h
      refine c_sn hx hb hml hown hts hK hw hS (fun _ h => h) (As := [.int p1, .int (nI 0), .int ((m (3 + p0.toNatClampNeg) 4) - (nI 1))]) (rest := []) (c_X5_isFromTo hcv (M0 := gs M0 g m) y5) cf_X5_isFromTo k_342n rfl rfl ⟨Nat.le_of_ble_eq_true rfl, Nat.le_of_ble_eq_true rfl⟩ rfl hl.1 rfl (Nat.le_of_ble_eq_true rfl) ⟨Nat.le_refl _, Nat.le_refl _⟩ dX4_hasRow_21 (fun H locs hw hS => ?_)
      refine lv_if_eq (tgt := 31) hx hb dX4_hasRow_24 (by decide) (fun q7 => ?_) (fun q7 => ?_)
      · replace h := t_pos h q7
        refine lv_iconst (v := nI 0) hx hb dX4_hasRow_31 (by decide) ?_
        have e1 := Option.some.inj h
        exact e_z hx hb hr hlk (Or.inl rfl) hw hS e1 (gs_same hm) dX4_hasRow_32
      · replace h := t_neg h q7
        refine lv_iconst (v := nI 1) hx hb dX4_hasRow_27 (by decide) ?_
        refine lv_goto (tgt := 32) hx hb dX4_hasRow_28 (by decide) ?_
        have e1 := Option.some.inj h
        exact e_z hx hb hr hlk (Or.inr rfl) hw hS e1 (gs_same hm) dX4_hasRow_32
  exact main _ _ hw hS ls hl

theorem cf_X4_hasQuestion : cfV RX4 yX4_hasQuestion cX4_hasQuestion 2 (some .boolean) 1 := ⟨⟨k_405, k_406, k_3, k_407⟩, by decide +kernel⟩
def f_X4_hasQuestion (m : SM) (p0 : Int32) : Option (Int32) :=
  b1 (f_X5_isFromTo p0 (nI 0) ((m 0 3) - (nI 1))) fun r2 => gz r2 (some r2)
set_option maxHeartbeats 4000000 in
set_option maxRecDepth 100000 in
theorem c_X4_hasQuestion {l : Launch} {D : va_G} {cy : Nat → ClassId} {ad : Nat → Nat → Nat} (hcv : CV ad) {g : Nat} (hg : g < 7) {M0 : MM} {m : SM} (hm : M0 g = m) {p0 : Int32} {r : Int32} (h : f_X4_hasQuestion m p0 = some r) : Met l yX4_hasQuestion (.code yX4_hasQuestion cX4_hasQuestion 2 (some .boolean) :: TB) ({ frames := 1, cells := 0, slots := 0, locals := 22 } : Room) (PW D cy ad M0 [.ref (ad g 0), .int p0]) (QI D cy ad r M0) 0 0 (AD ad) := by
  refine m_in (by decide +kernel) (Nat.le_of_ble_eq_true rfl) ?_
  intro p e s md args below meth c hC hw hS ls hl
  obtain ⟨hx, hb, hr, hml, hown, hts, hK, hlk⟩ := hC
  have hl : lv_has ls 2 [(0, .ref (ad g 0)), (1, .int p0)] := hl
  rw [← gs_same hm] at hw
  unfold f_X4_hasQuestion at h
  have main : JL p l e ({ frames := 1, cells := 0, slots := 0, locals := 22 } : Room) s md args below meth c D cy ad (MQ below (QI D cy ad r M0) args s 0 0 (AD ad)) (gs M0 g m) 2 [(0, .ref (ad g 0)), (1, .int p0)] 0 [] := by
    intro H locs hw hS ls hl
    refine lv_iload_n hx hb dX4_hasQuestion_0 rfl (lv_at hl 1 rfl) ?_
    refine lv_iconst (v := nI 0) hx hb dX4_hasQuestion_1 (by decide) ?_
    refine lv_aload_n hx hb dX4_hasQuestion_2 rfl (lv_at hl 0 rfl) ?_
    refine r_get hx hb hts hown hK hw (v_st hg (by decide)) gs_atc (E_st hg) inX4 rfl 3 (by decide) k_167 rfl rfl dX4_hasQuestion_3 ?_
    refine lv_iconst (v := nI 1) hx hb dX4_hasQuestion_6 (by decide) ?_
    refine lv_isub hx hb dX4_hasQuestion_7 ?_
    obtain ⟨r2, y1, h⟩ := t_b1 h
    refine c_sn hx hb hml hown hts hK hw hS (fun _ h => h) (As := [.int p0, .int (nI 0), .int ((m 0 3) - (nI 1))]) (rest := []) (c_X5_isFromTo hcv (M0 := gs M0 g m) y1) cf_X5_isFromTo k_342n rfl rfl ⟨Nat.le_of_ble_eq_true rfl, Nat.le_of_ble_eq_true rfl⟩ rfl hl.1 rfl (Nat.le_of_ble_eq_true rfl) ⟨Nat.le_refl _, Nat.le_refl _⟩ dX4_hasQuestion_8 (fun H locs hw hS => ?_)
    obtain ⟨q3, h⟩ := t_gz h
    have e1 := Option.some.inj h
    exact e_z hx hb hr hlk q3 hw hS e1 (gs_same hm) dX4_hasQuestion_11
  exact main _ _ hw hS ls hl

theorem cf_X4_appendBlock : cfV RX4 yX4_appendBlock cX4_appendBlock 2 (some .int) 1 := ⟨⟨k_276, k_277, k_3, k_278⟩, by decide +kernel⟩
def f_X4_appendBlock (m : SM) (mz : SM) : Option (Int32 × SM) :=
  (if (m 0 2) < (nI 8) then gd (m 0 2) 8 (bd (f_X0_copyFromText m mz ((m 0 2).toNatClampNeg)) fun r4 m5 => lt1 (up m5 0 2 ((m5 0 2) + (nI 1))) fun m7 => some (((m7 0 2) - (nI 1)), m7)) else some ((-3 : Int32), m))
set_option maxHeartbeats 4000000 in
set_option maxRecDepth 100000 in
theorem c_X4_appendBlock {l : Launch} {D : va_G} {cy : Nat → ClassId} {ad : Nat → Nat → Nat} (hcv : CV ad) {g : Nat} (hg : g < 7) {M0 : MM} {m : SM} (hm : M0 g = m) (hne : 7 ≠ g) {mz : SM} (hm2 : M0 7 = mz) {r : Int32} {x : SM} (h : f_X4_appendBlock m mz = some (r, x)) : Met l yX4_appendBlock (.code yX4_appendBlock cX4_appendBlock 2 (some .int) :: TB) ({ frames := 4, cells := 0, slots := 0, locals := 85 } : Room) (PW D cy ad M0 [.ref (ad g 0), .ref (ad 7 0)]) (QI D cy ad r (gs M0 g x)) 0 0 (AD ad) := by
  refine m_in (by decide +kernel) (Nat.le_of_ble_eq_true rfl) ?_
  intro p e s md args below meth c hC hw hS ls hl
  obtain ⟨hx, hb, hr, hml, hown, hts, hK, hlk⟩ := hC
  have hl : lv_has ls 2 [(0, .ref (ad g 0)), (1, .ref (ad 7 0))] := hl
  rw [← gs_same hm] at hw
  unfold f_X4_appendBlock at h
  have main : JL p l e ({ frames := 4, cells := 0, slots := 0, locals := 85 } : Room) s md args below meth c D cy ad (MQ below (QI D cy ad r (gs M0 g x)) args s 0 0 (AD ad)) (gs M0 g m) 2 [(0, .ref (ad g 0)), (1, .ref (ad 7 0))] 0 [] := by
    intro H locs hw hS ls hl
    refine lv_aload_n hx hb dX4_appendBlock_0 rfl (lv_at hl 0 rfl) ?_
    refine r_get hx hb hts hown hK hw (v_st hg (by decide)) gs_atc (E_st hg) inX4 rfl 2 (by decide) k_165 rfl rfl dX4_appendBlock_1 ?_
    refine lv_bipush (v := nI 8) hx hb dX4_appendBlock_4 (by decide) ?_
    refine lv_icmp_lt (tgt := 12) hx hb dX4_appendBlock_6 (by decide) (fun q1 => ?_) (fun q1 => ?_)
    · replace h := t_pos h q1
      refine lv_aload_n hx hb dX4_appendBlock_12 rfl (lv_at hl 0 rfl) ?_
      refine r_get hx hb hts hown hK hw (v_st hg (by decide)) gs_atc (E_st hg) inX4 rfl 0 (by decide) k_161 rfl rfl dX4_appendBlock_13 ?_
      refine lv_aload_n hx hb dX4_appendBlock_16 rfl (lv_at hl 0 rfl) ?_
      refine r_get hx hb hts hown hK hw (v_st hg (by decide)) gs_atc (E_st hg) inX4 rfl 2 (by decide) k_165 rfl rfl dX4_appendBlock_17 ?_
      obtain ⟨q2, h⟩ := t_gd h
      refine r_aald hx hb hK hw (v_st hg (by decide)) (t0 := 2) rfl (E_ba hg) (v := .ref (ad g (3 + (m 0 2).toNatClampNeg))) rfl q2 dX4_appendBlock_20 ?_
      refine lv_aload_n hx hb dX4_appendBlock_21 rfl (lv_at hl 1 rfl) ?_
      obtain ⟨r4, m5, y3, h⟩ := t_bd h
      refine c_vv hx hb hml hown hts hK hw hS (fun _ h => h) (As := [.ref (ad 7 0)]) (rest := []) (c_X0_copyFromText hcv (g := g) (hg := hg) (i := (m 0 2).toNatClampNeg) (hi := (vin q2)) (M0 := gs M0 g m) (m := m) (hm := gs_at) (mz := mz) (hne := hne) (hm2 := gs_nem hne hm2) y3) cf_X0_copyFromText k_279 rfl rfl ⟨Nat.le_of_ble_eq_true rfl, Nat.le_of_ble_eq_true rfl⟩ (r_recv hK hw (v_bk hg (vin q2)) (E_bk hg (vin q2)) rfl) rfl hl.1 rfl (Nat.le_of_ble_eq_true rfl) ⟨Nat.le_refl _, Nat.le_refl _⟩ dX4_appendBlock_22 (fun H locs hw hS => ?_)
      rw [gs_gs] at hw
      refine lv_aload_n hx hb dX4_appendBlock_25 rfl (lv_at hl 0 rfl) ?_
      refine lv_dup hx hb dX4_appendBlock_26 rfl ?_
      refine r_get hx hb hts hown hK hw (v_st hg (by decide)) gs_atc (E_st hg) inX4 rfl 2 (by decide) k_165 rfl rfl dX4_appendBlock_27 ?_
      refine lv_iconst (v := nI 1) hx hb dX4_appendBlock_30 (by decide) ?_
      refine lv_iadd hx hb dX4_appendBlock_31 ?_
      obtain ⟨m7, e6, h⟩ := t_lt h
      refine r_put hx hb hts hown hK hcv hw hS (v_st hg (by decide)) gs_atc (E_st hg) inX4 rfl tyX4 tyX4_ok nmX4 2 (by decide) k_165 rfl rfl rfl rfl (Nat.le_of_ble_eq_true rfl) (E_st hg) (gs_up e6) dX4_appendBlock_32 (fun H locs hw hS => ?_)
      refine lv_aload_n hx hb dX4_appendBlock_35 rfl (lv_at hl 0 rfl) ?_
      refine r_get hx hb hts hown hK hw (v_st hg (by decide)) gs_atc (E_st hg) inX4 rfl 2 (by decide) k_165 rfl rfl dX4_appendBlock_36 ?_
      refine lv_iconst (v := nI 1) hx hb dX4_appendBlock_39 (by decide) ?_
      refine lv_isub hx hb dX4_appendBlock_40 ?_
      have e1 := (t_ret h).1
      have e2 := (t_ret h).2
      exact e_i hx hb hr hlk hw hS e1 (by rw [e2]) dX4_appendBlock_41
    · replace h := t_neg h q1
      refine lv_bipush (v := -3) hx hb dX4_appendBlock_9 (by decide) ?_
      have e1 := (t_ret h).1
      have e2 := (t_ret h).2
      exact e_i hx hb hr hlk hw hS e1 (by rw [e2]) dX4_appendBlock_11
  exact main _ _ hw hS ls hl

theorem cf_X4_appendQuestion : cfV RX4 yX4_appendQuestion cX4_appendQuestion 6 (some .int) 4 := ⟨⟨k_397, k_398, k_3, k_399⟩, by decide +kernel⟩
def f_X4_appendQuestion (m : SM) (p0 : Int32) (p1 : Int32) (p2 : Int32) (p3 : Int32) : Option (Int32 × SM) :=
  (if (m 0 3) < (nI 6) then gd (m 0 3) 6 (lt1 (up m (19 + (m 0 3).toNatClampNeg) 0 p0) fun m4 => lt1 (up m4 (19 + (m 0 3).toNatClampNeg) 1 p1) fun m6 => lt1 (up m6 (19 + (m 0 3).toNatClampNeg) 2 p2) fun m8 => lt1 (up m8 (19 + (m 0 3).toNatClampNeg) 3 p3) fun m10 => lt1 (up m10 (19 + (m 0 3).toNatClampNeg) 4 (nI 0)) fun m12 => lt1 (up m12 0 3 ((m12 0 3) + (nI 1))) fun m14 => some (((m14 0 3) - (nI 1)), m14)) else some ((-3 : Int32), m))
set_option maxHeartbeats 4000000 in
set_option maxRecDepth 100000 in
theorem c_X4_appendQuestion {l : Launch} {D : va_G} {cy : Nat → ClassId} {ad : Nat → Nat → Nat} (hcv : CV ad) {g : Nat} (hg : g < 7) {M0 : MM} {m : SM} (hm : M0 g = m) {p0 p1 p2 p3 : Int32} {r : Int32} {x : SM} (h : f_X4_appendQuestion m p0 p1 p2 p3 = some (r, x)) : Met l yX4_appendQuestion (.code yX4_appendQuestion cX4_appendQuestion 6 (some .int) :: TB) ({ frames := 0, cells := 0, slots := 0, locals := 0 } : Room) (PW D cy ad M0 [.ref (ad g 0), .int p0, .int p1, .int p2, .int p3]) (QI D cy ad r (gs M0 g x)) 0 0 (AD ad) := by
  refine m_in (by decide +kernel) (Nat.le_of_ble_eq_true rfl) ?_
  intro p e s md args below meth c hC hw hS ls hl
  obtain ⟨hx, hb, hr, hml, hown, hts, hK, hlk⟩ := hC
  have hl : lv_has ls 6 [(0, .ref (ad g 0)), (1, .int p0), (2, .int p1), (3, .int p2), (4, .int p3)] := hl
  rw [← gs_same hm] at hw
  unfold f_X4_appendQuestion at h
  have main : JL p l e ({ frames := 0, cells := 0, slots := 0, locals := 0 } : Room) s md args below meth c D cy ad (MQ below (QI D cy ad r (gs M0 g x)) args s 0 0 (AD ad)) (gs M0 g m) 6 [(0, .ref (ad g 0)), (1, .int p0), (2, .int p1), (3, .int p2), (4, .int p3)] 0 [] := by
    intro H locs hw hS ls hl
    refine lv_aload_n hx hb dX4_appendQuestion_0 rfl (lv_at hl 0 rfl) ?_
    refine r_get hx hb hts hown hK hw (v_st hg (by decide)) gs_atc (E_st hg) inX4 rfl 3 (by decide) k_167 rfl rfl dX4_appendQuestion_1 ?_
    refine lv_bipush (v := nI 6) hx hb dX4_appendQuestion_4 (by decide) ?_
    refine lv_icmp_lt (tgt := 12) hx hb dX4_appendQuestion_6 (by decide) (fun q1 => ?_) (fun q1 => ?_)
    · replace h := t_pos h q1
      refine lv_aload_n hx hb dX4_appendQuestion_12 rfl (lv_at hl 0 rfl) ?_
      refine r_get hx hb hts hown hK hw (v_st hg (by decide)) gs_atc (E_st hg) inX4 rfl 1 (by decide) k_163 rfl rfl dX4_appendQuestion_13 ?_
      refine lv_aload_n hx hb dX4_appendQuestion_16 rfl (lv_at hl 0 rfl) ?_
      refine r_get hx hb hts hown hK hw (v_st hg (by decide)) gs_atc (E_st hg) inX4 rfl 3 (by decide) k_167 rfl rfl dX4_appendQuestion_17 ?_
      obtain ⟨q2, h⟩ := t_gd h
      refine r_aald hx hb hK hw (v_st hg (by decide)) (t0 := 3) rfl (E_qa hg) (v := .ref (ad g (19 + (m 0 3).toNatClampNeg))) rfl q2 dX4_appendQuestion_20 ?_
      refine lv_astore (lv' := [(5, .ref (ad g (19 + (m 0 3).toNatClampNeg))), (0, .ref (ad g 0)), (1, .int p0), (2, .int p1), (3, .int p2), (4, .int p3)]) hx hb dX4_appendQuestion_21 hl (by decide) rfl (fun ls hl => ?_)
      refine lv_aload hx hb dX4_appendQuestion_23 (lv_at hl 0 rfl) ?_
      refine lv_iload_n hx hb dX4_appendQuestion_25 rfl (lv_at hl 2 rfl) ?_
      obtain ⟨m4, e3, h⟩ := t_lt h
      refine r_put hx hb hts hown hK hcv hw hS (v_qu hg (vin q2)) gs_atc (E_qu hg) inX3 rfl tyX3 tyX3_ok nmX3 0 (by decide) k_122 rfl rfl rfl rfl (Nat.le_of_ble_eq_true rfl) (E_qu hg) (gs_up e3) dX4_appendQuestion_26 (fun H locs hw hS => ?_)
      refine lv_aload hx hb dX4_appendQuestion_29 (lv_at hl 0 rfl) ?_
      refine lv_iload_n hx hb dX4_appendQuestion_31 rfl (lv_at hl 3 rfl) ?_
      obtain ⟨m6, e5, h⟩ := t_lt h
      refine r_put hx hb hts hown hK hcv hw hS (v_qu hg (vin q2)) gs_atc (E_qu hg) inX3 rfl tyX3 tyX3_ok nmX3 1 (by decide) k_125 rfl rfl rfl rfl (Nat.le_of_ble_eq_true rfl) (E_qu hg) (gs_up e5) dX4_appendQuestion_32 (fun H locs hw hS => ?_)
      refine lv_aload hx hb dX4_appendQuestion_35 (lv_at hl 0 rfl) ?_
      refine lv_iload_n hx hb dX4_appendQuestion_37 rfl (lv_at hl 4 rfl) ?_
      obtain ⟨m8, e7, h⟩ := t_lt h
      refine r_put hx hb hts hown hK hcv hw hS (v_qu hg (vin q2)) gs_atc (E_qu hg) inX3 rfl tyX3 tyX3_ok nmX3 2 (by decide) k_128 rfl rfl rfl rfl (Nat.le_of_ble_eq_true rfl) (E_qu hg) (gs_up e7) dX4_appendQuestion_38 (fun H locs hw hS => ?_)
      refine lv_aload hx hb dX4_appendQuestion_41 (lv_at hl 0 rfl) ?_
      refine lv_iload hx hb dX4_appendQuestion_43 (lv_at hl 5 rfl) ?_
      obtain ⟨m10, e9, h⟩ := t_lt h
      refine r_put hx hb hts hown hK hcv hw hS (v_qu hg (vin q2)) gs_atc (E_qu hg) inX3 rfl tyX3 tyX3_ok nmX3 3 (by decide) k_131 rfl rfl rfl rfl (Nat.le_of_ble_eq_true rfl) (E_qu hg) (gs_up e9) dX4_appendQuestion_45 (fun H locs hw hS => ?_)
      refine lv_aload hx hb dX4_appendQuestion_48 (lv_at hl 0 rfl) ?_
      refine lv_iconst (v := nI 0) hx hb dX4_appendQuestion_50 (by decide) ?_
      obtain ⟨m12, e11, h⟩ := t_lt h
      refine r_put hx hb hts hown hK hcv hw hS (v_qu hg (vin q2)) gs_atc (E_qu hg) inX3 rfl tyX3 tyX3_ok nmX3 4 (by decide) k_134 rfl rfl rfl rfl (Nat.le_of_ble_eq_true rfl) (E_qu hg) (gs_up e11) dX4_appendQuestion_51 (fun H locs hw hS => ?_)
      refine lv_aload_n hx hb dX4_appendQuestion_54 rfl (lv_at hl 1 rfl) ?_
      refine lv_dup hx hb dX4_appendQuestion_55 rfl ?_
      refine r_get hx hb hts hown hK hw (v_st hg (by decide)) gs_atc (E_st hg) inX4 rfl 3 (by decide) k_167 rfl rfl dX4_appendQuestion_56 ?_
      refine lv_iconst (v := nI 1) hx hb dX4_appendQuestion_59 (by decide) ?_
      refine lv_iadd hx hb dX4_appendQuestion_60 ?_
      obtain ⟨m14, e13, h⟩ := t_lt h
      refine r_put hx hb hts hown hK hcv hw hS (v_st hg (by decide)) gs_atc (E_st hg) inX4 rfl tyX4 tyX4_ok nmX4 3 (by decide) k_167 rfl rfl rfl rfl (Nat.le_of_ble_eq_true rfl) (E_st hg) (gs_up e13) dX4_appendQuestion_61 (fun H locs hw hS => ?_)
      refine lv_aload_n hx hb dX4_appendQuestion_64 rfl (lv_at hl 1 rfl) ?_
      refine r_get hx hb hts hown hK hw (v_st hg (by decide)) gs_atc (E_st hg) inX4 rfl 3 (by decide) k_167 rfl rfl dX4_appendQuestion_65 ?_
      refine lv_iconst (v := nI 1) hx hb dX4_appendQuestion_68 (by decide) ?_
      refine lv_isub hx hb dX4_appendQuestion_69 ?_
      have e1 := (t_ret h).1
      have e2 := (t_ret h).2
      exact e_i hx hb hr hlk hw hS e1 (by rw [e2]) dX4_appendQuestion_70
    · replace h := t_neg h q1
      refine lv_bipush (v := -3) hx hb dX4_appendQuestion_9 (by decide) ?_
      have e1 := (t_ret h).1
      have e2 := (t_ret h).2
      exact e_i hx hb hr hlk hw hS e1 (by rw [e2]) dX4_appendQuestion_11
  exact main _ _ hw hS ls hl

theorem cf_X4_removeQuestion : cfV RX4 yX4_removeQuestion cX4_removeQuestion 3 none 1 := ⟨⟨k_420, k_421, k_3, k_422⟩, by decide +kernel⟩
def f_X4_removeQuestion_L11 (p0 : Int32) : Nat → SM → Int32 → Option (Int32 × SM)
  | 0, _, _ => none
  | n + 1, m, x2 => (if ((m 0 3) - (nI 1)) ≤ x2 then lt1 (up m 0 3 ((m 0 3) - (nI 1))) fun m3 => some (0, m3) else gd x2 6 (gd (x2 + (nI 1)) 6 (bd (f_X3_copyFromS m x2.toNatClampNeg ((x2 + (nI 1)).toNatClampNeg)) fun r7 m8 => f_X4_removeQuestion_L11 p0 n m8 (x2 + (nI 1)))))
def f_X4_removeQuestion (m : SM) (p0 : Int32) : Option (Int32 × SM) :=
  b1 (f_X4_hasQuestion m p0) fun r2 => (if r2 = (nI 0) then some (0, m) else f_X4_removeQuestion_L11 p0 FU m p0)
set_option maxHeartbeats 4000000 in
set_option maxRecDepth 100000 in
theorem c_X4_removeQuestion {l : Launch} {D : va_G} {cy : Nat → ClassId} {ad : Nat → Nat → Nat} (hcv : CV ad) {g : Nat} (hg : g < 7) {M0 : MM} {m : SM} (hm : M0 g = m) {p0 : Int32} {r : Int32} {x : SM} (h : f_X4_removeQuestion m p0 = some (r, x)) : Met l yX4_removeQuestion (.code yX4_removeQuestion cX4_removeQuestion 3 none :: TB) ({ frames := 2, cells := 0, slots := 0, locals := 43 } : Room) (PW D cy ad M0 [.ref (ad g 0), .int p0]) (QV D cy ad (gs M0 g x)) 0 0 (AD ad) := by
  refine m_in (by decide +kernel) (Nat.le_of_ble_eq_true rfl) ?_
  intro p e s md args below meth c hC hw hS ls hl
  obtain ⟨hx, hb, hr, hml, hown, hts, hK, hlk⟩ := hC
  have hl : lv_has ls 3 [(0, .ref (ad g 0)), (1, .int p0)] := hl
  rw [← gs_same hm] at hw
  have L11 : ∀ (n : Nat), ∀ (m : SM) (x2 : Int32), f_X4_removeQuestion_L11 p0 n m x2 = some (r, x) → JL p l e ({ frames := 2, cells := 0, slots := 0, locals := 43 } : Room) s md args below meth c D cy ad (MQ below (QV D cy ad (gs M0 g x)) args s 0 0 (AD ad)) (gs M0 g m) 3 [(0, .ref (ad g 0)), (2, .int x2)] 11 [] := by
    intro n
    induction n with
    | zero =>
      intro m x2 h
      cases h
    | succ n ih =>
      intro m x2 h H locs hw hS ls hl
      rw [f_X4_removeQuestion_L11.eq_2] at h
      refine lv_iload_n hx hb dX4_removeQuestion_11 rfl (lv_at hl 1 rfl) ?_
      refine lv_aload_n hx hb dX4_removeQuestion_12 rfl (lv_at hl 0 rfl) ?_
      refine r_get hx hb hts hown hK hw (v_st hg (by decide)) gs_atc (E_st hg) inX4 rfl 3 (by decide) k_167 rfl rfl dX4_removeQuestion_13 ?_
      refine lv_iconst (v := nI 1) hx hb dX4_removeQuestion_16 (by decide) ?_
      refine lv_isub hx hb dX4_removeQuestion_17 ?_
      refine lv_icmp_ge (tgt := 44) hx hb dX4_removeQuestion_18 (by decide) (fun q1 => ?_) (fun q1 => ?_)
      · replace h := t_pos h q1
        refine lv_aload_n hx hb dX4_removeQuestion_44 rfl (lv_at hl 0 rfl) ?_
        refine lv_dup hx hb dX4_removeQuestion_45 rfl ?_
        refine r_get hx hb hts hown hK hw (v_st hg (by decide)) gs_atc (E_st hg) inX4 rfl 3 (by decide) k_167 rfl rfl dX4_removeQuestion_46 ?_
        refine lv_iconst (v := nI 1) hx hb dX4_removeQuestion_49 (by decide) ?_
        refine lv_isub hx hb dX4_removeQuestion_50 ?_
        obtain ⟨m3, e2, h⟩ := t_lt h
        refine r_put hx hb hts hown hK hcv hw hS (v_st hg (by decide)) gs_atc (E_st hg) inX4 rfl tyX4 tyX4_ok nmX4 3 (by decide) k_167 rfl rfl rfl rfl (Nat.le_of_ble_eq_true rfl) (E_st hg) (gs_up e2) dX4_removeQuestion_51 (fun H locs hw hS => ?_)
        have e1 := (t_ret h).1
        have e2 := (t_ret h).2
        exact e_v hx hb hr hlk hw hS (by rw [e2]) dX4_removeQuestion_54
      · replace h := t_neg h q1
        refine lv_aload_n hx hb dX4_removeQuestion_21 rfl (lv_at hl 0 rfl) ?_
        refine r_get hx hb hts hown hK hw (v_st hg (by decide)) gs_atc (E_st hg) inX4 rfl 1 (by decide) k_163 rfl rfl dX4_removeQuestion_22 ?_
        refine lv_iload_n hx hb dX4_removeQuestion_25 rfl (lv_at hl 1 rfl) ?_
        obtain ⟨q4, h⟩ := t_gd h
        refine r_aald hx hb hK hw (v_st hg (by decide)) (t0 := 3) rfl (E_qa hg) (v := .ref (ad g (19 + x2.toNatClampNeg))) rfl q4 dX4_removeQuestion_26 ?_
        refine lv_aload_n hx hb dX4_removeQuestion_27 rfl (lv_at hl 0 rfl) ?_
        refine r_get hx hb hts hown hK hw (v_st hg (by decide)) gs_atc (E_st hg) inX4 rfl 1 (by decide) k_163 rfl rfl dX4_removeQuestion_28 ?_
        refine lv_iload_n hx hb dX4_removeQuestion_31 rfl (lv_at hl 1 rfl) ?_
        refine lv_iconst (v := nI 1) hx hb dX4_removeQuestion_32 (by decide) ?_
        refine lv_iadd hx hb dX4_removeQuestion_33 ?_
        obtain ⟨q5, h⟩ := t_gd h
        refine r_aald hx hb hK hw (v_st hg (by decide)) (t0 := 3) rfl (E_qa hg) (v := .ref (ad g (19 + (x2 + (nI 1)).toNatClampNeg))) rfl q5 dX4_removeQuestion_34 ?_
        obtain ⟨r7, m8, y6, h⟩ := t_bd h
        refine c_vv hx hb hml hown hts hK hw hS (fun _ h => h) (As := [.ref (ad g (19 + (x2 + (nI 1)).toNatClampNeg))]) (rest := []) (c_X3_copyFromS hcv (g := g) (hg := hg) (i := x2.toNatClampNeg) (hi := (vin q4)) (i2 := (x2 + (nI 1)).toNatClampNeg) (hi2 := (vin q5)) (M0 := gs M0 g m) (m := m) (hm := gs_at) y6) cf_X3_copyFrom k_271 rfl rfl ⟨Nat.le_of_ble_eq_true rfl, Nat.le_of_ble_eq_true rfl⟩ (r_recv hK hw (v_qu hg (vin q4)) (E_qu hg) rfl) rfl hl.1 rfl (Nat.le_of_ble_eq_true rfl) ⟨Nat.le_refl _, Nat.le_refl _⟩ dX4_removeQuestion_35 (fun H locs hw hS => ?_)
        rw [gs_gs] at hw
        refine lv_iinc (v := (x2 + (nI 1))) (lv' := [(2, .int (x2 + (nI 1))), (0, .ref (ad g 0))]) hx hb dX4_removeQuestion_38 hl (k := 1) rfl rfl (by decide) rfl (fun ls hl => ?_)
        refine lv_goto (tgt := 11) hx hb dX4_removeQuestion_41 (by decide) ?_
        exact ih m8 (x2 + (nI 1)) h H locs hw hS ls (lv_sub hl [1, 0] rfl)
  unfold f_X4_removeQuestion at h
  have main : JL p l e ({ frames := 2, cells := 0, slots := 0, locals := 43 } : Room) s md args below meth c D cy ad (MQ below (QV D cy ad (gs M0 g x)) args s 0 0 (AD ad)) (gs M0 g m) 3 [(0, .ref (ad g 0)), (1, .int p0)] 0 [] := by
    intro H locs hw hS ls hl
    refine lv_aload_n hx hb dX4_removeQuestion_0 rfl (lv_at hl 0 rfl) ?_
    refine lv_iload_n hx hb dX4_removeQuestion_1 rfl (lv_at hl 1 rfl) ?_
    obtain ⟨r2, y1, h⟩ := t_b1 h
    refine c_vi hx hb hml hown hts hK hw hS (fun _ h => h) (As := [.int p0]) (rest := []) (c_X4_hasQuestion hcv (g := g) (hg := hg) (M0 := gs M0 g m) (m := m) (hm := gs_at) y1) cf_X4_hasQuestion k_423 rfl rfl ⟨Nat.le_of_ble_eq_true rfl, Nat.le_of_ble_eq_true rfl⟩ (r_recv hK hw (v_st hg (by decide)) (E_st hg) rfl) rfl hl.1 rfl (Nat.le_of_ble_eq_true rfl) ⟨Nat.le_refl _, Nat.le_refl _⟩ dX4_removeQuestion_2 (fun H locs hw hS => ?_)
    refine lv_if_ne (tgt := 9) hx hb dX4_removeQuestion_5 (by decide) (fun q3 => ?_) (fun q3 => ?_)
    · replace h := t_neg h q3
      refine lv_iload_n hx hb dX4_removeQuestion_9 rfl (lv_at hl 1 rfl) ?_
      refine lv_istore_n (lv' := [(2, .int p0), (0, .ref (ad g 0)), (1, .int p0)]) hx hb dX4_removeQuestion_10 rfl hl (by decide) rfl (fun ls hl => ?_)
      exact L11 FU m p0 h H locs hw hS ls (lv_sub hl [1, 0] rfl)
    · replace h := t_pos h q3
      have e1 := (t_ret h).1
      have e2 := (t_ret h).2
      exact e_v hx hb hr hlk hw hS (by rw [e2]) dX4_removeQuestion_8
  exact main _ _ hw hS ls hl

theorem cf_X4_forgetRows : cfV RX4 yX4_forgetRows cX4_forgetRows 2 none 0 := ⟨⟨k_386, k_387, k_3, k_388⟩, by decide +kernel⟩
def f_X4_forgetRows_L2 : Nat → SM → Int32 → Option (Int32 × SM)
  | 0, _, _ => none
  | n + 1, m, x1 => (if (m 0 2) ≤ x1 then some (0, m) else gd x1 8 (bd (f_X0_readFirst m x1.toNatClampNeg (nI 0)) fun r4 m5 => f_X4_forgetRows_L2 n m5 (x1 + (nI 1))))
def f_X4_forgetRows (m : SM) : Option (Int32 × SM) :=
  f_X4_forgetRows_L2 FU m (nI 0)
set_option maxHeartbeats 4000000 in
set_option maxRecDepth 100000 in
theorem c_X4_forgetRows {l : Launch} {D : va_G} {cy : Nat → ClassId} {ad : Nat → Nat → Nat} (hcv : CV ad) {g : Nat} (hg : g < 7) {M0 : MM} {m : SM} (hm : M0 g = m) {r : Int32} {x : SM} (h : f_X4_forgetRows m = some (r, x)) : Met l yX4_forgetRows (.code yX4_forgetRows cX4_forgetRows 2 none :: TB) ({ frames := 3, cells := 0, slots := 0, locals := 64 } : Room) (PW D cy ad M0 [.ref (ad g 0)]) (QV D cy ad (gs M0 g x)) 0 0 (AD ad) := by
  refine m_in (by decide +kernel) (Nat.le_of_ble_eq_true rfl) ?_
  intro p e s md args below meth c hC hw hS ls hl
  obtain ⟨hx, hb, hr, hml, hown, hts, hK, hlk⟩ := hC
  have hl : lv_has ls 2 [(0, .ref (ad g 0))] := hl
  rw [← gs_same hm] at hw
  have L2 : ∀ (n : Nat), ∀ (m : SM) (x1 : Int32), f_X4_forgetRows_L2 n m x1 = some (r, x) → JL p l e ({ frames := 3, cells := 0, slots := 0, locals := 64 } : Room) s md args below meth c D cy ad (MQ below (QV D cy ad (gs M0 g x)) args s 0 0 (AD ad)) (gs M0 g m) 2 [(0, .ref (ad g 0)), (1, .int x1)] 2 [] := by
    intro n
    induction n with
    | zero =>
      intro m x1 h
      cases h
    | succ n ih =>
      intro m x1 h H locs hw hS ls hl
      rw [f_X4_forgetRows_L2.eq_2] at h
      refine lv_iload_n hx hb dX4_forgetRows_2 rfl (lv_at hl 1 rfl) ?_
      refine lv_aload_n hx hb dX4_forgetRows_3 rfl (lv_at hl 0 rfl) ?_
      refine r_get hx hb hts hown hK hw (v_st hg (by decide)) gs_atc (E_st hg) inX4 rfl 2 (by decide) k_165 rfl rfl dX4_forgetRows_4 ?_
      refine lv_icmp_ge (tgt := 26) hx hb dX4_forgetRows_7 (by decide) (fun q1 => ?_) (fun q1 => ?_)
      · replace h := t_pos h q1
        have e1 := (t_ret h).1
        have e2 := (t_ret h).2
        exact e_v hx hb hr hlk hw hS (by rw [e2]) dX4_forgetRows_26
      · replace h := t_neg h q1
        refine lv_aload_n hx hb dX4_forgetRows_10 rfl (lv_at hl 0 rfl) ?_
        refine r_get hx hb hts hown hK hw (v_st hg (by decide)) gs_atc (E_st hg) inX4 rfl 0 (by decide) k_161 rfl rfl dX4_forgetRows_11 ?_
        refine lv_iload_n hx hb dX4_forgetRows_14 rfl (lv_at hl 1 rfl) ?_
        obtain ⟨q2, h⟩ := t_gd h
        refine r_aald hx hb hK hw (v_st hg (by decide)) (t0 := 2) rfl (E_ba hg) (v := .ref (ad g (3 + x1.toNatClampNeg))) rfl q2 dX4_forgetRows_15 ?_
        refine lv_iconst (v := nI 0) hx hb dX4_forgetRows_16 (by decide) ?_
        obtain ⟨r4, m5, y3, h⟩ := t_bd h
        refine c_vv hx hb hml hown hts hK hw hS (fun _ h => h) (As := [.int (nI 0)]) (rest := []) (c_X0_readFirst hcv (g := g) (hg := hg) (i := x1.toNatClampNeg) (hi := (vin q2)) (M0 := gs M0 g m) (m := m) (hm := gs_at) y3) cf_X0_readFirst k_389 rfl rfl ⟨Nat.le_of_ble_eq_true rfl, Nat.le_of_ble_eq_true rfl⟩ (r_recv hK hw (v_bk hg (vin q2)) (E_bk hg (vin q2)) rfl) rfl hl.1 rfl (Nat.le_of_ble_eq_true rfl) ⟨Nat.le_refl _, Nat.le_refl _⟩ dX4_forgetRows_17 (fun H locs hw hS => ?_)
        rw [gs_gs] at hw
        refine lv_iinc (v := (x1 + (nI 1))) (lv' := [(1, .int (x1 + (nI 1))), (0, .ref (ad g 0))]) hx hb dX4_forgetRows_20 hl (k := 1) rfl rfl (by decide) rfl (fun ls hl => ?_)
        refine lv_goto (tgt := 2) hx hb dX4_forgetRows_23 (by decide) ?_
        exact ih m5 (x1 + (nI 1)) h H locs hw hS ls (lv_sub hl [1, 0] rfl)
  unfold f_X4_forgetRows at h
  have main : JL p l e ({ frames := 3, cells := 0, slots := 0, locals := 64 } : Room) s md args below meth c D cy ad (MQ below (QV D cy ad (gs M0 g x)) args s 0 0 (AD ad)) (gs M0 g m) 2 [(0, .ref (ad g 0))] 0 [] := by
    intro H locs hw hS ls hl
    refine lv_iconst (v := nI 0) hx hb dX4_forgetRows_0 (by decide) ?_
    refine lv_istore_n (lv' := [(1, .int (nI 0)), (0, .ref (ad g 0))]) hx hb dX4_forgetRows_1 rfl hl (by decide) rfl (fun ls hl => ?_)
    exact L2 FU m (nI 0) h H locs hw hS ls (lv_sub hl [1, 0] rfl)
  exact main _ _ hw hS ls hl

theorem cf_X5_covers : cfS RX5 yX5_covers cX5_covers 2 (some .boolean) 2 := ⟨⟨k_306, k_1, k_307⟩, by decide +kernel⟩
def f_X5_covers (p0 : Int32) (p1 : Int32) : Option (Int32) :=
  (if ((p0 >>> (p1 &&& 31)) &&& (nI 1)) = (nI 0) then some (nI 0) else some (nI 1))
set_option maxHeartbeats 4000000 in
set_option maxRecDepth 100000 in
theorem c_X5_covers {l : Launch} {D : va_G} {cy : Nat → ClassId} {ad : Nat → Nat → Nat} (hcv : CV ad) {M0 : MM} {p0 p1 : Int32} {r : Int32} (h : f_X5_covers p0 p1 = some r) : Met l yX5_covers (.code yX5_covers cX5_covers 2 (some .boolean) :: TB) ({ frames := 0, cells := 0, slots := 0, locals := 0 } : Room) (PW D cy ad M0 [.int p0, .int p1]) (QI D cy ad r M0) 0 0 (AD ad) := by
  refine m_in (by decide +kernel) (Nat.le_of_ble_eq_true rfl) ?_
  intro p e s md args below meth c hC hw hS ls hl
  obtain ⟨hx, hb, hr, hml, hown, hts, hK, hlk⟩ := hC
  have hl : lv_has ls 2 [(0, .int p0), (1, .int p1)] := hl
  unfold f_X5_covers at h
  have main : JL p l e ({ frames := 0, cells := 0, slots := 0, locals := 0 } : Room) s md args below meth c D cy ad (MQ below (QI D cy ad r M0) args s 0 0 (AD ad)) (M0) 2 [(0, .int p0), (1, .int p1)] 0 [] := by
    intro H locs hw hS ls hl
    refine lv_iload_n hx hb dX5_covers_0 rfl (lv_at hl 0 rfl) ?_
    refine lv_iload_n hx hb dX5_covers_1 rfl (lv_at hl 1 rfl) ?_
    refine lv_ishr hx hb dX5_covers_2 ?_
    refine lv_iconst (v := nI 1) hx hb dX5_covers_3 (by decide) ?_
    refine lv_iand hx hb dX5_covers_4 ?_
    refine lv_if_eq (tgt := 12) hx hb dX5_covers_5 (by decide) (fun q1 => ?_) (fun q1 => ?_)
    · replace h := t_pos h q1
      refine lv_iconst (v := nI 0) hx hb dX5_covers_12 (by decide) ?_
      have e1 := Option.some.inj h
      exact e_z hx hb hr hlk (Or.inl rfl) hw hS e1 rfl dX5_covers_13
    · replace h := t_neg h q1
      refine lv_iconst (v := nI 1) hx hb dX5_covers_8 (by decide) ?_
      refine lv_goto (tgt := 13) hx hb dX5_covers_9 (by decide) ?_
      have e1 := Option.some.inj h
      exact e_z hx hb hr hlk (Or.inr rfl) hw hS e1 rfl dX5_covers_13
  exact main _ _ hw hS ls hl

theorem cf_X4_rows : cfV RX4 yX4_rows cX4_rows 4 (some .int) 1 := ⟨⟨k_302, k_303, k_3, k_304⟩, by decide +kernel⟩
def f_X4_rows_L4 (m : SM) (p0 : Int32) : Nat → Int32 → Int32 → Option (Int32)
  | 0, _, _ => none
  | n + 1, x2, x3 => (if (m 0 2) ≤ x3 then some x2 else gd x3 8 (b1 (f_X5_covers p0 (m (3 + x3.toNatClampNeg) 1)) fun r4 => (if r4 = (nI 0) then f_X4_rows_L4 m p0 n x2 (x3 + (nI 1)) else gd x3 8 (f_X4_rows_L4 m p0 n (x2 + (m (3 + x3.toNatClampNeg) 4)) (x3 + (nI 1))))))
def f_X4_rows (m : SM) (p0 : Int32) : Option (Int32) :=
  f_X4_rows_L4 m p0 FU (nI 0) (nI 0)
set_option maxHeartbeats 4000000 in
set_option maxRecDepth 100000 in
theorem c_X4_rows {l : Launch} {D : va_G} {cy : Nat → ClassId} {ad : Nat → Nat → Nat} (hcv : CV ad) {g : Nat} (hg : g < 7) {M0 : MM} {m : SM} (hm : M0 g = m) {p0 : Int32} {r : Int32} (h : f_X4_rows m p0 = some r) : Met l yX4_rows (.code yX4_rows cX4_rows 4 (some .int) :: TB) ({ frames := 1, cells := 0, slots := 0, locals := 21 } : Room) (PW D cy ad M0 [.ref (ad g 0), .int p0]) (QI D cy ad r M0) 0 0 (AD ad) := by
  refine m_in (by decide +kernel) (Nat.le_of_ble_eq_true rfl) ?_
  intro p e s md args below meth c hC hw hS ls hl
  obtain ⟨hx, hb, hr, hml, hown, hts, hK, hlk⟩ := hC
  have hl : lv_has ls 4 [(0, .ref (ad g 0)), (1, .int p0)] := hl
  rw [← gs_same hm] at hw
  have L4 : ∀ (n : Nat), ∀ (x2 : Int32) (x3 : Int32), f_X4_rows_L4 m p0 n x2 x3 = some r → JL p l e ({ frames := 1, cells := 0, slots := 0, locals := 21 } : Room) s md args below meth c D cy ad (MQ below (QI D cy ad r M0) args s 0 0 (AD ad)) (gs M0 g m) 4 [(0, .ref (ad g 0)), (1, .int p0), (2, .int x2), (3, .int x3)] 4 [] := by
    intro n
    induction n with
    | zero =>
      intro x2 x3 h
      cases h
    | succ n ih =>
      intro x2 x3 h H locs hw hS ls hl
      rw [f_X4_rows_L4.eq_2] at h
      refine lv_iload_n hx hb dX4_rows_4 rfl (lv_at hl 3 rfl) ?_
      refine lv_aload_n hx hb dX4_rows_5 rfl (lv_at hl 0 rfl) ?_
      refine r_get hx hb hts hown hK hw (v_st hg (by decide)) gs_atc (E_st hg) inX4 rfl 2 (by decide) k_165 rfl rfl dX4_rows_6 ?_
      refine lv_icmp_ge (tgt := 46) hx hb dX4_rows_9 (by decide) (fun q1 => ?_) (fun q1 => ?_)
      · replace h := t_pos h q1
        refine lv_iload_n hx hb dX4_rows_46 rfl (lv_at hl 2 rfl) ?_
        have e1 := Option.some.inj h
        exact e_i hx hb hr hlk hw hS e1 (gs_same hm) dX4_rows_47
      · replace h := t_neg h q1
        refine lv_iload_n hx hb dX4_rows_12 rfl (lv_at hl 1 rfl) ?_
        refine lv_aload_n hx hb dX4_rows_13 rfl (lv_at hl 0 rfl) ?_
        refine r_get hx hb hts hown hK hw (v_st hg (by decide)) gs_atc (E_st hg) inX4 rfl 0 (by decide) k_161 rfl rfl dX4_rows_14 ?_
        refine lv_iload_n hx hb dX4_rows_17 rfl (lv_at hl 3 rfl) ?_
        obtain ⟨q2, h⟩ := t_gd h
        refine r_aald hx hb hK hw (v_st hg (by decide)) (t0 := 2) rfl (E_ba hg) (v := .ref (ad g (3 + x3.toNatClampNeg))) rfl q2 dX4_rows_18 ?_
        refine r_get hx hb hts hown hK hw (v_bk hg (vin q2)) gs_atc (E_bk hg (vin q2)) inX0 rfl 1 (by decide) k_76 rfl rfl dX4_rows_19 ?_
        obtain ⟨r4, y3, h⟩ := t_b1 h
        refine c_sn hx hb hml hown hts hK hw hS (fun _ h => h) (As := [.int p0, .int (m (3 + x3.toNatClampNeg) 1)]) (rest := []) (c_X5_covers hcv (M0 := gs M0 g m) y3) cf_X5_covers k_305n rfl rfl ⟨Nat.le_of_ble_eq_true rfl, Nat.le_of_ble_eq_true rfl⟩ rfl hl.1 rfl (Nat.le_of_ble_eq_true rfl) ⟨Nat.le_refl _, Nat.le_refl _⟩ dX4_rows_22 (fun H locs hw hS => ?_)
        refine lv_if_eq (tgt := 40) hx hb dX4_rows_25 (by decide) (fun q5 => ?_) (fun q5 => ?_)
        · replace h := t_pos h q5
          refine lv_iinc (v := (x3 + (nI 1))) (lv' := [(3, .int (x3 + (nI 1))), (0, .ref (ad g 0)), (1, .int p0), (2, .int x2)]) hx hb dX4_rows_40 hl (k := 3) rfl rfl (by decide) rfl (fun ls hl => ?_)
          refine lv_goto (tgt := 4) hx hb dX4_rows_43 (by decide) ?_
          exact ih x2 (x3 + (nI 1)) h H locs hw hS ls (lv_sub hl [1, 2, 3, 0] rfl)
        · replace h := t_neg h q5
          refine lv_iload_n hx hb dX4_rows_28 rfl (lv_at hl 2 rfl) ?_
          refine lv_aload_n hx hb dX4_rows_29 rfl (lv_at hl 0 rfl) ?_
          refine r_get hx hb hts hown hK hw (v_st hg (by decide)) gs_atc (E_st hg) inX4 rfl 0 (by decide) k_161 rfl rfl dX4_rows_30 ?_
          refine lv_iload_n hx hb dX4_rows_33 rfl (lv_at hl 3 rfl) ?_
          obtain ⟨q6, h⟩ := t_gd h
          refine r_aald hx hb hK hw (v_st hg (by decide)) (t0 := 2) rfl (E_ba hg) (v := .ref (ad g (3 + x3.toNatClampNeg))) rfl q6 dX4_rows_34 ?_
          refine r_get hx hb hts hown hK hw (v_bk hg (vin q6)) gs_atc (E_bk hg (vin q6)) inX0 rfl 4 (by decide) k_88 rfl rfl dX4_rows_35 ?_
          refine lv_iadd hx hb dX4_rows_38 ?_
          refine lv_istore_n (lv' := [(2, .int (x2 + (m (3 + x3.toNatClampNeg) 4))), (0, .ref (ad g 0)), (1, .int p0), (3, .int x3)]) hx hb dX4_rows_39 rfl hl (by decide) rfl (fun ls hl => ?_)
          refine lv_iinc (v := (x3 + (nI 1))) (lv' := [(3, .int (x3 + (nI 1))), (2, .int (x2 + (m (3 + x3.toNatClampNeg) 4))), (0, .ref (ad g 0)), (1, .int p0)]) hx hb dX4_rows_40 hl (k := 3) rfl rfl (by decide) rfl (fun ls hl => ?_)
          refine lv_goto (tgt := 4) hx hb dX4_rows_43 (by decide) ?_
          exact ih (x2 + (m (3 + x3.toNatClampNeg) 4)) (x3 + (nI 1)) h H locs hw hS ls (lv_sub hl [2, 3, 1, 0] rfl)
  unfold f_X4_rows at h
  have main : JL p l e ({ frames := 1, cells := 0, slots := 0, locals := 21 } : Room) s md args below meth c D cy ad (MQ below (QI D cy ad r M0) args s 0 0 (AD ad)) (gs M0 g m) 4 [(0, .ref (ad g 0)), (1, .int p0)] 0 [] := by
    intro H locs hw hS ls hl
    refine lv_iconst (v := nI 0) hx hb dX4_rows_0 (by decide) ?_
    refine lv_istore_n (lv' := [(2, .int (nI 0)), (0, .ref (ad g 0)), (1, .int p0)]) hx hb dX4_rows_1 rfl hl (by decide) rfl (fun ls hl => ?_)
    refine lv_iconst (v := nI 0) hx hb dX4_rows_2 (by decide) ?_
    refine lv_istore_n (lv' := [(3, .int (nI 0)), (2, .int (nI 0)), (0, .ref (ad g 0)), (1, .int p0)]) hx hb dX4_rows_3 rfl hl (by decide) rfl (fun ls hl => ?_)
    exact L4 FU (nI 0) (nI 0) h H locs hw hS ls (lv_sub hl [2, 3, 1, 0] rfl)
  exact main _ _ hw hS ls hl

theorem cf_X4_readRows : cfV RX4 yX4_readRows cX4_readRows 4 (some .int) 1 := ⟨⟨k_382, k_383, k_3, k_384⟩, by decide +kernel⟩
def f_X4_readRows_L4 (m : SM) (p0 : Int32) : Nat → Int32 → Int32 → Option (Int32)
  | 0, _, _ => none
  | n + 1, x2, x3 => (if (m 0 2) ≤ x3 then some x2 else gd x3 8 (b1 (f_X5_covers p0 (m (3 + x3.toNatClampNeg) 1)) fun r4 => (if r4 = (nI 0) then f_X4_readRows_L4 m p0 n x2 (x3 + (nI 1)) else gd x3 8 (f_X4_readRows_L4 m p0 n (x2 + (m (3 + x3.toNatClampNeg) 5)) (x3 + (nI 1))))))
def f_X4_readRows (m : SM) (p0 : Int32) : Option (Int32) :=
  f_X4_readRows_L4 m p0 FU (nI 0) (nI 0)
set_option maxHeartbeats 4000000 in
set_option maxRecDepth 100000 in
theorem c_X4_readRows {l : Launch} {D : va_G} {cy : Nat → ClassId} {ad : Nat → Nat → Nat} (hcv : CV ad) {g : Nat} (hg : g < 7) {M0 : MM} {m : SM} (hm : M0 g = m) {p0 : Int32} {r : Int32} (h : f_X4_readRows m p0 = some r) : Met l yX4_readRows (.code yX4_readRows cX4_readRows 4 (some .int) :: TB) ({ frames := 1, cells := 0, slots := 0, locals := 21 } : Room) (PW D cy ad M0 [.ref (ad g 0), .int p0]) (QI D cy ad r M0) 0 0 (AD ad) := by
  refine m_in (by decide +kernel) (Nat.le_of_ble_eq_true rfl) ?_
  intro p e s md args below meth c hC hw hS ls hl
  obtain ⟨hx, hb, hr, hml, hown, hts, hK, hlk⟩ := hC
  have hl : lv_has ls 4 [(0, .ref (ad g 0)), (1, .int p0)] := hl
  rw [← gs_same hm] at hw
  have L4 : ∀ (n : Nat), ∀ (x2 : Int32) (x3 : Int32), f_X4_readRows_L4 m p0 n x2 x3 = some r → JL p l e ({ frames := 1, cells := 0, slots := 0, locals := 21 } : Room) s md args below meth c D cy ad (MQ below (QI D cy ad r M0) args s 0 0 (AD ad)) (gs M0 g m) 4 [(0, .ref (ad g 0)), (1, .int p0), (2, .int x2), (3, .int x3)] 4 [] := by
    intro n
    induction n with
    | zero =>
      intro x2 x3 h
      cases h
    | succ n ih =>
      intro x2 x3 h H locs hw hS ls hl
      rw [f_X4_readRows_L4.eq_2] at h
      refine lv_iload_n hx hb dX4_readRows_4 rfl (lv_at hl 3 rfl) ?_
      refine lv_aload_n hx hb dX4_readRows_5 rfl (lv_at hl 0 rfl) ?_
      refine r_get hx hb hts hown hK hw (v_st hg (by decide)) gs_atc (E_st hg) inX4 rfl 2 (by decide) k_165 rfl rfl dX4_readRows_6 ?_
      refine lv_icmp_ge (tgt := 46) hx hb dX4_readRows_9 (by decide) (fun q1 => ?_) (fun q1 => ?_)
      · replace h := t_pos h q1
        refine lv_iload_n hx hb dX4_readRows_46 rfl (lv_at hl 2 rfl) ?_
        have e1 := Option.some.inj h
        exact e_i hx hb hr hlk hw hS e1 (gs_same hm) dX4_readRows_47
      · replace h := t_neg h q1
        refine lv_iload_n hx hb dX4_readRows_12 rfl (lv_at hl 1 rfl) ?_
        refine lv_aload_n hx hb dX4_readRows_13 rfl (lv_at hl 0 rfl) ?_
        refine r_get hx hb hts hown hK hw (v_st hg (by decide)) gs_atc (E_st hg) inX4 rfl 0 (by decide) k_161 rfl rfl dX4_readRows_14 ?_
        refine lv_iload_n hx hb dX4_readRows_17 rfl (lv_at hl 3 rfl) ?_
        obtain ⟨q2, h⟩ := t_gd h
        refine r_aald hx hb hK hw (v_st hg (by decide)) (t0 := 2) rfl (E_ba hg) (v := .ref (ad g (3 + x3.toNatClampNeg))) rfl q2 dX4_readRows_18 ?_
        refine r_get hx hb hts hown hK hw (v_bk hg (vin q2)) gs_atc (E_bk hg (vin q2)) inX0 rfl 1 (by decide) k_76 rfl rfl dX4_readRows_19 ?_
        obtain ⟨r4, y3, h⟩ := t_b1 h
        refine c_sn hx hb hml hown hts hK hw hS (fun _ h => h) (As := [.int p0, .int (m (3 + x3.toNatClampNeg) 1)]) (rest := []) (c_X5_covers hcv (M0 := gs M0 g m) y3) cf_X5_covers k_305n rfl rfl ⟨Nat.le_of_ble_eq_true rfl, Nat.le_of_ble_eq_true rfl⟩ rfl hl.1 rfl (Nat.le_of_ble_eq_true rfl) ⟨Nat.le_refl _, Nat.le_refl _⟩ dX4_readRows_22 (fun H locs hw hS => ?_)
        refine lv_if_eq (tgt := 40) hx hb dX4_readRows_25 (by decide) (fun q5 => ?_) (fun q5 => ?_)
        · replace h := t_pos h q5
          refine lv_iinc (v := (x3 + (nI 1))) (lv' := [(3, .int (x3 + (nI 1))), (0, .ref (ad g 0)), (1, .int p0), (2, .int x2)]) hx hb dX4_readRows_40 hl (k := 3) rfl rfl (by decide) rfl (fun ls hl => ?_)
          refine lv_goto (tgt := 4) hx hb dX4_readRows_43 (by decide) ?_
          exact ih x2 (x3 + (nI 1)) h H locs hw hS ls (lv_sub hl [1, 2, 3, 0] rfl)
        · replace h := t_neg h q5
          refine lv_iload_n hx hb dX4_readRows_28 rfl (lv_at hl 2 rfl) ?_
          refine lv_aload_n hx hb dX4_readRows_29 rfl (lv_at hl 0 rfl) ?_
          refine r_get hx hb hts hown hK hw (v_st hg (by decide)) gs_atc (E_st hg) inX4 rfl 0 (by decide) k_161 rfl rfl dX4_readRows_30 ?_
          refine lv_iload_n hx hb dX4_readRows_33 rfl (lv_at hl 3 rfl) ?_
          obtain ⟨q6, h⟩ := t_gd h
          refine r_aald hx hb hK hw (v_st hg (by decide)) (t0 := 2) rfl (E_ba hg) (v := .ref (ad g (3 + x3.toNatClampNeg))) rfl q6 dX4_readRows_34 ?_
          refine r_get hx hb hts hown hK hw (v_bk hg (vin q6)) gs_atc (E_bk hg (vin q6)) inX0 rfl 5 (by decide) k_91 rfl rfl dX4_readRows_35 ?_
          refine lv_iadd hx hb dX4_readRows_38 ?_
          refine lv_istore_n (lv' := [(2, .int (x2 + (m (3 + x3.toNatClampNeg) 5))), (0, .ref (ad g 0)), (1, .int p0), (3, .int x3)]) hx hb dX4_readRows_39 rfl hl (by decide) rfl (fun ls hl => ?_)
          refine lv_iinc (v := (x3 + (nI 1))) (lv' := [(3, .int (x3 + (nI 1))), (2, .int (x2 + (m (3 + x3.toNatClampNeg) 5))), (0, .ref (ad g 0)), (1, .int p0)]) hx hb dX4_readRows_40 hl (k := 3) rfl rfl (by decide) rfl (fun ls hl => ?_)
          refine lv_goto (tgt := 4) hx hb dX4_readRows_43 (by decide) ?_
          exact ih (x2 + (m (3 + x3.toNatClampNeg) 5)) (x3 + (nI 1)) h H locs hw hS ls (lv_sub hl [2, 3, 1, 0] rfl)
  unfold f_X4_readRows at h
  have main : JL p l e ({ frames := 1, cells := 0, slots := 0, locals := 21 } : Room) s md args below meth c D cy ad (MQ below (QI D cy ad r M0) args s 0 0 (AD ad)) (gs M0 g m) 4 [(0, .ref (ad g 0)), (1, .int p0)] 0 [] := by
    intro H locs hw hS ls hl
    refine lv_iconst (v := nI 0) hx hb dX4_readRows_0 (by decide) ?_
    refine lv_istore_n (lv' := [(2, .int (nI 0)), (0, .ref (ad g 0)), (1, .int p0)]) hx hb dX4_readRows_1 rfl hl (by decide) rfl (fun ls hl => ?_)
    refine lv_iconst (v := nI 0) hx hb dX4_readRows_2 (by decide) ?_
    refine lv_istore_n (lv' := [(3, .int (nI 0)), (2, .int (nI 0)), (0, .ref (ad g 0)), (1, .int p0)]) hx hb dX4_readRows_3 rfl hl (by decide) rfl (fun ls hl => ?_)
    exact L4 FU (nI 0) (nI 0) h H locs hw hS ls (lv_sub hl [2, 3, 1, 0] rfl)
  exact main _ _ hw hS ls hl

theorem cf_X4_openQuestions : cfV RX4 yX4_openQuestions cX4_openQuestions 3 (some .int) 0 := ⟨⟨k_465, k_466, k_3, k_467⟩, by decide +kernel⟩
def f_X4_openQuestions_L4 (m : SM) : Nat → Int32 → Int32 → Option (Int32)
  | 0, _, _ => none
  | n + 1, x1, x2 => (if (m 0 3) ≤ x2 then some x1 else gd x2 6 ((if (m (19 + x2.toNatClampNeg) 4) = (nI 0) then f_X4_openQuestions_L4 m n (x1 + (nI 1)) (x2 + (nI 1)) else f_X4_openQuestions_L4 m n x1 (x2 + (nI 1)))))
def f_X4_openQuestions (m : SM) : Option (Int32) :=
  f_X4_openQuestions_L4 m FU (nI 0) (nI 0)
set_option maxHeartbeats 4000000 in
set_option maxRecDepth 100000 in
theorem c_X4_openQuestions {l : Launch} {D : va_G} {cy : Nat → ClassId} {ad : Nat → Nat → Nat} (hcv : CV ad) {g : Nat} (hg : g < 7) {M0 : MM} {m : SM} (hm : M0 g = m) {r : Int32} (h : f_X4_openQuestions m = some r) : Met l yX4_openQuestions (.code yX4_openQuestions cX4_openQuestions 3 (some .int) :: TB) ({ frames := 0, cells := 0, slots := 0, locals := 0 } : Room) (PW D cy ad M0 [.ref (ad g 0)]) (QI D cy ad r M0) 0 0 (AD ad) := by
  refine m_in (by decide +kernel) (Nat.le_of_ble_eq_true rfl) ?_
  intro p e s md args below meth c hC hw hS ls hl
  obtain ⟨hx, hb, hr, hml, hown, hts, hK, hlk⟩ := hC
  have hl : lv_has ls 3 [(0, .ref (ad g 0))] := hl
  rw [← gs_same hm] at hw
  have L4 : ∀ (n : Nat), ∀ (x1 : Int32) (x2 : Int32), f_X4_openQuestions_L4 m n x1 x2 = some r → JL p l e ({ frames := 0, cells := 0, slots := 0, locals := 0 } : Room) s md args below meth c D cy ad (MQ below (QI D cy ad r M0) args s 0 0 (AD ad)) (gs M0 g m) 3 [(0, .ref (ad g 0)), (1, .int x1), (2, .int x2)] 4 [] := by
    intro n
    induction n with
    | zero =>
      intro x1 x2 h
      cases h
    | succ n ih =>
      intro x1 x2 h H locs hw hS ls hl
      rw [f_X4_openQuestions_L4.eq_2] at h
      refine lv_iload_n hx hb dX4_openQuestions_4 rfl (lv_at hl 2 rfl) ?_
      refine lv_aload_n hx hb dX4_openQuestions_5 rfl (lv_at hl 0 rfl) ?_
      refine r_get hx hb hts hown hK hw (v_st hg (by decide)) gs_atc (E_st hg) inX4 rfl 3 (by decide) k_167 rfl rfl dX4_openQuestions_6 ?_
      refine lv_icmp_ge (tgt := 33) hx hb dX4_openQuestions_9 (by decide) (fun q1 => ?_) (fun q1 => ?_)
      · replace h := t_pos h q1
        refine lv_iload_n hx hb dX4_openQuestions_33 rfl (lv_at hl 1 rfl) ?_
        have e1 := Option.some.inj h
        exact e_i hx hb hr hlk hw hS e1 (gs_same hm) dX4_openQuestions_34
      · replace h := t_neg h q1
        refine lv_aload_n hx hb dX4_openQuestions_12 rfl (lv_at hl 0 rfl) ?_
        refine r_get hx hb hts hown hK hw (v_st hg (by decide)) gs_atc (E_st hg) inX4 rfl 1 (by decide) k_163 rfl rfl dX4_openQuestions_13 ?_
        refine lv_iload_n hx hb dX4_openQuestions_16 rfl (lv_at hl 2 rfl) ?_
        obtain ⟨q2, h⟩ := t_gd h
        refine r_aald hx hb hK hw (v_st hg (by decide)) (t0 := 3) rfl (E_qa hg) (v := .ref (ad g (19 + x2.toNatClampNeg))) rfl q2 dX4_openQuestions_17 ?_
        refine r_get hx hb hts hown hK hw (v_qu hg (vin q2)) gs_atc (E_qu hg) inX3 rfl 4 (by decide) k_134 rfl rfl dX4_openQuestions_18 ?_
        refine lv_if_ne (tgt := 27) hx hb dX4_openQuestions_21 (by decide) (fun q3 => ?_) (fun q3 => ?_)
        · replace h := t_neg h q3
          refine lv_iinc (v := (x2 + (nI 1))) (lv' := [(2, .int (x2 + (nI 1))), (0, .ref (ad g 0)), (1, .int x1)]) hx hb dX4_openQuestions_27 hl (k := 2) rfl rfl (by decide) rfl (fun ls hl => ?_)
          refine lv_goto (tgt := 4) hx hb dX4_openQuestions_30 (by decide) ?_
          exact ih x1 (x2 + (nI 1)) h H locs hw hS ls (lv_sub hl [1, 2, 0] rfl)
        · replace h := t_pos h q3
          refine lv_iinc (v := (x1 + (nI 1))) (lv' := [(1, .int (x1 + (nI 1))), (0, .ref (ad g 0)), (2, .int x2)]) hx hb dX4_openQuestions_24 hl (k := 1) rfl rfl (by decide) rfl (fun ls hl => ?_)
          refine lv_iinc (v := (x2 + (nI 1))) (lv' := [(2, .int (x2 + (nI 1))), (1, .int (x1 + (nI 1))), (0, .ref (ad g 0))]) hx hb dX4_openQuestions_27 hl (k := 2) rfl rfl (by decide) rfl (fun ls hl => ?_)
          refine lv_goto (tgt := 4) hx hb dX4_openQuestions_30 (by decide) ?_
          exact ih (x1 + (nI 1)) (x2 + (nI 1)) h H locs hw hS ls (lv_sub hl [2, 1, 0] rfl)
  unfold f_X4_openQuestions at h
  have main : JL p l e ({ frames := 0, cells := 0, slots := 0, locals := 0 } : Room) s md args below meth c D cy ad (MQ below (QI D cy ad r M0) args s 0 0 (AD ad)) (gs M0 g m) 3 [(0, .ref (ad g 0))] 0 [] := by
    intro H locs hw hS ls hl
    refine lv_iconst (v := nI 0) hx hb dX4_openQuestions_0 (by decide) ?_
    refine lv_istore_n (lv' := [(1, .int (nI 0)), (0, .ref (ad g 0))]) hx hb dX4_openQuestions_1 rfl hl (by decide) rfl (fun ls hl => ?_)
    refine lv_iconst (v := nI 0) hx hb dX4_openQuestions_2 (by decide) ?_
    refine lv_istore_n (lv' := [(2, .int (nI 0)), (1, .int (nI 0)), (0, .ref (ad g 0))]) hx hb dX4_openQuestions_3 rfl hl (by decide) rfl (fun ls hl => ?_)
    exact L4 FU (nI 0) (nI 0) h H locs hw hS ls (lv_sub hl [2, 1, 0] rfl)
  exact main _ _ hw hS ls hl

theorem cf_X4_assumed : cfV RX4 yX4_assumed cX4_assumed 6 (some .int) 2 := ⟨⟨k_313, k_314, k_3, k_315⟩, by decide +kernel⟩
def f_X4_assumed_L87 (m : SM) (i : Nat) (p0 : Int32) (x3 : Int32) (x4 : Int32) : Option (Int32) :=
  (if x3 = (nI 0) then gn (nI 2) (some (((m (3 + i) 2) + (m (3 + i) 3)) / (nI 2))) else gn x3 (some (mx (m (3 + i) 2) (mn (m (3 + i) 3) (x4 / x3)))))
def f_X4_assumed_L27 (m : SM) (i : Nat) (p0 : Int32) : Nat → Int32 → Int32 → Int32 → Option (Int32)
  | 0, _, _, _ => none
  | n + 1, x3, x4, x5 => (if (m 0 2) ≤ x5 then f_X4_assumed_L87 m i p0 x3 x4 else gd x5 8 ((if (m (3 + x5.toNatClampNeg) 1) = (m (3 + i) 1) then gd x5 8 (gd x5 8 (f_X4_assumed_L27 m i p0 n (x3 + (m (3 + x5.toNatClampNeg) 5)) (x4 + (m (3 + x5.toNatClampNeg) 6)) (x5 + (nI 1)))) else f_X4_assumed_L27 m i p0 n x3 x4 (x5 + (nI 1)))))
def f_X4_assumed (m : SM) (i : Nat) (p0 : Int32) : Option (Int32) :=
  (if p0 = (nI 0) then some (m (3 + i) 2) else (if p0 = (nI 1) then some (m (3 + i) 3) else f_X4_assumed_L27 m i p0 FU (nI 0) (nI 0) (nI 0)))
set_option maxHeartbeats 4000000 in
set_option maxRecDepth 100000 in
theorem c_X4_assumed {l : Launch} {D : va_G} {cy : Nat → ClassId} {ad : Nat → Nat → Nat} (hcv : CV ad) {g : Nat} (hg : g < 7) {i : Nat} (hi : i < 8) {M0 : MM} {m : SM} (hm : M0 g = m) {p0 : Int32} {r : Int32} (h : f_X4_assumed m i p0 = some r) : Met l yX4_assumed (.code yX4_assumed cX4_assumed 6 (some .int) :: TB) ({ frames := 1, cells := 0, slots := 0, locals := 21 } : Room) (PW D cy ad M0 [.ref (ad g 0), .ref (ad g (3 + i)), .int p0]) (QI D cy ad r M0) 0 0 (AD ad) := by
  refine m_in (by decide +kernel) (Nat.le_of_ble_eq_true rfl) ?_
  intro p e s md args below meth c hC hw hS ls hl
  obtain ⟨hx, hb, hr, hml, hown, hts, hK, hlk⟩ := hC
  have hl : lv_has ls 6 [(0, .ref (ad g 0)), (1, .ref (ad g (3 + i))), (2, .int p0)] := hl
  rw [← gs_same hm] at hw
  have L87 : ∀ (x3 : Int32) (x4 : Int32), f_X4_assumed_L87 m i p0 x3 x4 = some r → JL p l e ({ frames := 1, cells := 0, slots := 0, locals := 21 } : Room) s md args below meth c D cy ad (MQ below (QI D cy ad r M0) args s 0 0 (AD ad)) (gs M0 g m) 6 [(1, .ref (ad g (3 + i))), (3, .int x3), (4, .int x4)] 87 [] := by
    intro x3 x4 h H locs hw hS ls hl
    unfold f_X4_assumed_L87 at h
    refine lv_iload_n hx hb dX4_assumed_87 rfl (lv_at hl 1 rfl) ?_
    refine lv_if_ne (tgt := 103) hx hb dX4_assumed_88 (by decide) (fun q1 => ?_) (fun q1 => ?_)
    · replace h := t_neg h q1
      refine lv_aload_n hx hb dX4_assumed_103 rfl (lv_at hl 0 rfl) ?_
      refine r_get hx hb hts hown hK hw (v_bk hg hi) gs_atc (E_bk hg hi) inX0 rfl 2 (by decide) k_81 rfl rfl dX4_assumed_104 ?_
      refine lv_aload_n hx hb dX4_assumed_107 rfl (lv_at hl 0 rfl) ?_
      refine r_get hx hb hts hown hK hw (v_bk hg hi) gs_atc (E_bk hg hi) inX0 rfl 3 (by decide) k_85 rfl rfl dX4_assumed_108 ?_
      refine lv_iload hx hb dX4_assumed_111 (lv_at hl 2 rfl) ?_
      refine lv_iload_n hx hb dX4_assumed_113 rfl (lv_at hl 1 rfl) ?_
      obtain ⟨q2, h⟩ := t_gn h
      refine lv_idiv hx hb dX4_assumed_114 q2 ?_
      refine r_min hx hb hts (hml.trans hl.1.symm) hown k_316 k_292 k_9 k_293 (Nat.le_of_ble_eq_true rfl) (Nat.le_of_ble_eq_true rfl) (Nat.le_of_ble_eq_true rfl) (Nat.le_of_ble_eq_true rfl) dX4_assumed_115 ?_
      refine r_max hx hb hts (hml.trans hl.1.symm) hown k_317 k_295 k_9 k_296 (Nat.le_of_ble_eq_true rfl) (Nat.le_of_ble_eq_true rfl) (Nat.le_of_ble_eq_true rfl) (Nat.le_of_ble_eq_true rfl) dX4_assumed_118 ?_
      have e1 := Option.some.inj h
      exact e_i hx hb hr hlk hw hS e1 (gs_same hm) dX4_assumed_121
    · replace h := t_pos h q1
      refine lv_aload_n hx hb dX4_assumed_91 rfl (lv_at hl 0 rfl) ?_
      refine r_get hx hb hts hown hK hw (v_bk hg hi) gs_atc (E_bk hg hi) inX0 rfl 2 (by decide) k_81 rfl rfl dX4_assumed_92 ?_
      refine lv_aload_n hx hb dX4_assumed_95 rfl (lv_at hl 0 rfl) ?_
      refine r_get hx hb hts hown hK hw (v_bk hg hi) gs_atc (E_bk hg hi) inX0 rfl 3 (by decide) k_85 rfl rfl dX4_assumed_96 ?_
      refine lv_iadd hx hb dX4_assumed_99 ?_
      refine lv_iconst (v := nI 2) hx hb dX4_assumed_100 (by decide) ?_
      obtain ⟨q3, h⟩ := t_gn h
      refine lv_idiv hx hb dX4_assumed_101 q3 ?_
      have e1 := Option.some.inj h
      exact e_i hx hb hr hlk hw hS e1 (gs_same hm) dX4_assumed_102
  have L27 : ∀ (n : Nat), ∀ (x3 : Int32) (x4 : Int32) (x5 : Int32), f_X4_assumed_L27 m i p0 n x3 x4 x5 = some r → JL p l e ({ frames := 1, cells := 0, slots := 0, locals := 21 } : Room) s md args below meth c D cy ad (MQ below (QI D cy ad r M0) args s 0 0 (AD ad)) (gs M0 g m) 6 [(0, .ref (ad g 0)), (1, .ref (ad g (3 + i))), (3, .int x3), (4, .int x4), (5, .int x5)] 27 [] := by
    intro n
    induction n with
    | zero =>
      intro x3 x4 x5 h
      cases h
    | succ n ih =>
      intro x3 x4 x5 h H locs hw hS ls hl
      rw [f_X4_assumed_L27.eq_2] at h
      refine lv_iload hx hb dX4_assumed_27 (lv_at hl 4 rfl) ?_
      refine lv_aload_n hx hb dX4_assumed_29 rfl (lv_at hl 0 rfl) ?_
      refine r_get hx hb hts hown hK hw (v_st hg (by decide)) gs_atc (E_st hg) inX4 rfl 2 (by decide) k_165 rfl rfl dX4_assumed_30 ?_
      refine lv_icmp_ge (tgt := 87) hx hb dX4_assumed_33 (by decide) (fun q1 => ?_) (fun q1 => ?_)
      · replace h := t_pos h q1
        exact L87 x3 x4 h H locs hw hS ls (lv_sub hl [1, 2, 3] rfl)
      · replace h := t_neg h q1
        refine lv_aload_n hx hb dX4_assumed_36 rfl (lv_at hl 0 rfl) ?_
        refine r_get hx hb hts hown hK hw (v_st hg (by decide)) gs_atc (E_st hg) inX4 rfl 0 (by decide) k_161 rfl rfl dX4_assumed_37 ?_
        refine lv_iload hx hb dX4_assumed_40 (lv_at hl 4 rfl) ?_
        obtain ⟨q2, h⟩ := t_gd h
        refine r_aald hx hb hK hw (v_st hg (by decide)) (t0 := 2) rfl (E_ba hg) (v := .ref (ad g (3 + x5.toNatClampNeg))) rfl q2 dX4_assumed_42 ?_
        refine r_get hx hb hts hown hK hw (v_bk hg (vin q2)) gs_atc (E_bk hg (vin q2)) inX0 rfl 1 (by decide) k_76 rfl rfl dX4_assumed_43 ?_
        refine lv_aload_n hx hb dX4_assumed_46 rfl (lv_at hl 1 rfl) ?_
        refine r_get hx hb hts hown hK hw (v_bk hg hi) gs_atc (E_bk hg hi) inX0 rfl 1 (by decide) k_76 rfl rfl dX4_assumed_47 ?_
        refine lv_icmp_ne (tgt := 81) hx hb dX4_assumed_50 (by decide) (fun q3 => ?_) (fun q3 => ?_)
        · replace h := t_neg h q3
          refine lv_iinc (v := (x5 + (nI 1))) (lv' := [(5, .int (x5 + (nI 1))), (0, .ref (ad g 0)), (1, .ref (ad g (3 + i))), (3, .int x3), (4, .int x4)]) hx hb dX4_assumed_81 hl (k := 4) rfl rfl (by decide) rfl (fun ls hl => ?_)
          refine lv_goto (tgt := 27) hx hb dX4_assumed_84 (by decide) ?_
          exact ih x3 x4 (x5 + (nI 1)) h H locs hw hS ls (lv_sub hl [1, 2, 3, 4, 0] rfl)
        · replace h := t_pos h q3
          refine lv_iload_n hx hb dX4_assumed_53 rfl (lv_at hl 2 rfl) ?_
          refine lv_aload_n hx hb dX4_assumed_54 rfl (lv_at hl 0 rfl) ?_
          refine r_get hx hb hts hown hK hw (v_st hg (by decide)) gs_atc (E_st hg) inX4 rfl 0 (by decide) k_161 rfl rfl dX4_assumed_55 ?_
          refine lv_iload hx hb dX4_assumed_58 (lv_at hl 4 rfl) ?_
          obtain ⟨q4, h⟩ := t_gd h
          refine r_aald hx hb hK hw (v_st hg (by decide)) (t0 := 2) rfl (E_ba hg) (v := .ref (ad g (3 + x5.toNatClampNeg))) rfl q4 dX4_assumed_60 ?_
          refine r_get hx hb hts hown hK hw (v_bk hg (vin q4)) gs_atc (E_bk hg (vin q4)) inX0 rfl 5 (by decide) k_91 rfl rfl dX4_assumed_61 ?_
          refine lv_iadd hx hb dX4_assumed_64 ?_
          refine lv_istore_n (lv' := [(3, .int (x3 + (m (3 + x5.toNatClampNeg) 5))), (0, .ref (ad g 0)), (1, .ref (ad g (3 + i))), (4, .int x4), (5, .int x5)]) hx hb dX4_assumed_65 rfl hl (by decide) rfl (fun ls hl => ?_)
          refine lv_iload hx hb dX4_assumed_66 (lv_at hl 3 rfl) ?_
          refine lv_aload_n hx hb dX4_assumed_68 rfl (lv_at hl 1 rfl) ?_
          refine r_get hx hb hts hown hK hw (v_st hg (by decide)) gs_atc (E_st hg) inX4 rfl 0 (by decide) k_161 rfl rfl dX4_assumed_69 ?_
          refine lv_iload hx hb dX4_assumed_72 (lv_at hl 4 rfl) ?_
          obtain ⟨q5, h⟩ := t_gd h
          refine r_aald hx hb hK hw (v_st hg (by decide)) (t0 := 2) rfl (E_ba hg) (v := .ref (ad g (3 + x5.toNatClampNeg))) rfl q5 dX4_assumed_74 ?_
          refine r_get hx hb hts hown hK hw (v_bk hg (vin q5)) gs_atc (E_bk hg (vin q5)) inX0 rfl 6 (by decide) k_93 rfl rfl dX4_assumed_75 ?_
          refine lv_iadd hx hb dX4_assumed_78 ?_
          refine lv_istore (lv' := [(4, .int (x4 + (m (3 + x5.toNatClampNeg) 6))), (3, .int (x3 + (m (3 + x5.toNatClampNeg) 5))), (0, .ref (ad g 0)), (1, .ref (ad g (3 + i))), (5, .int x5)]) hx hb dX4_assumed_79 hl (by decide) rfl (fun ls hl => ?_)
          refine lv_iinc (v := (x5 + (nI 1))) (lv' := [(5, .int (x5 + (nI 1))), (4, .int (x4 + (m (3 + x5.toNatClampNeg) 6))), (3, .int (x3 + (m (3 + x5.toNatClampNeg) 5))), (0, .ref (ad g 0)), (1, .ref (ad g (3 + i)))]) hx hb dX4_assumed_81 hl (k := 4) rfl rfl (by decide) rfl (fun ls hl => ?_)
          refine lv_goto (tgt := 27) hx hb dX4_assumed_84 (by decide) ?_
          exact ih (x3 + (m (3 + x5.toNatClampNeg) 5)) (x4 + (m (3 + x5.toNatClampNeg) 6)) (x5 + (nI 1)) h H locs hw hS ls (lv_sub hl [3, 4, 2, 1, 0] rfl)
  unfold f_X4_assumed at h
  have main : JL p l e ({ frames := 1, cells := 0, slots := 0, locals := 21 } : Room) s md args below meth c D cy ad (MQ below (QI D cy ad r M0) args s 0 0 (AD ad)) (gs M0 g m) 6 [(0, .ref (ad g 0)), (1, .ref (ad g (3 + i))), (2, .int p0)] 0 [] := by
    intro H locs hw hS ls hl
    refine lv_iload_n hx hb dX4_assumed_0 rfl (lv_at hl 2 rfl) ?_
    refine lv_if_ne (tgt := 9) hx hb dX4_assumed_1 (by decide) (fun q1 => ?_) (fun q1 => ?_)
    · replace h := t_neg h q1
      refine lv_iload_n hx hb dX4_assumed_9 rfl (lv_at hl 2 rfl) ?_
      refine lv_iconst (v := nI 1) hx hb dX4_assumed_10 (by decide) ?_
      refine lv_icmp_ne (tgt := 19) hx hb dX4_assumed_11 (by decide) (fun q2 => ?_) (fun q2 => ?_)
      · replace h := t_neg h q2
        refine lv_iconst (v := nI 0) hx hb dX4_assumed_19 (by decide) ?_
        refine lv_istore_n (lv' := [(3, .int (nI 0)), (0, .ref (ad g 0)), (1, .ref (ad g (3 + i))), (2, .int p0)]) hx hb dX4_assumed_20 rfl hl (by decide) rfl (fun ls hl => ?_)
        refine lv_iconst (v := nI 0) hx hb dX4_assumed_21 (by decide) ?_
        refine lv_istore (lv' := [(4, .int (nI 0)), (3, .int (nI 0)), (0, .ref (ad g 0)), (1, .ref (ad g (3 + i))), (2, .int p0)]) hx hb dX4_assumed_22 hl (by decide) rfl (fun ls hl => ?_)
        refine lv_iconst (v := nI 0) hx hb dX4_assumed_24 (by decide) ?_
        refine lv_istore (lv' := [(5, .int (nI 0)), (4, .int (nI 0)), (3, .int (nI 0)), (0, .ref (ad g 0)), (1, .ref (ad g (3 + i))), (2, .int p0)]) hx hb dX4_assumed_25 hl (by decide) rfl (fun ls hl => ?_)
        exact L27 FU (nI 0) (nI 0) (nI 0) h H locs hw hS ls (lv_sub hl [3, 4, 2, 1, 0] rfl)
      · replace h := t_pos h q2
        refine lv_aload_n hx hb dX4_assumed_14 rfl (lv_at hl 1 rfl) ?_
        refine r_get hx hb hts hown hK hw (v_bk hg hi) gs_atc (E_bk hg hi) inX0 rfl 3 (by decide) k_85 rfl rfl dX4_assumed_15 ?_
        have e1 := Option.some.inj h
        exact e_i hx hb hr hlk hw hS e1 (gs_same hm) dX4_assumed_18
    · replace h := t_pos h q1
      refine lv_aload_n hx hb dX4_assumed_4 rfl (lv_at hl 1 rfl) ?_
      refine r_get hx hb hts hown hK hw (v_bk hg hi) gs_atc (E_bk hg hi) inX0 rfl 2 (by decide) k_81 rfl rfl dX4_assumed_5 ?_
      have e1 := Option.some.inj h
      exact e_i hx hb hr hlk hw hS e1 (gs_same hm) dX4_assumed_8
  exact main _ _ hw hS ls hl

theorem cf_X4_answer : cfV RX4 yX4_answer cX4_answer 10 (some .int) 2 := ⟨⟨k_309, k_310, k_3, k_311⟩, by decide +kernel⟩
def f_X4_answer_L110 (m : SM) (i : Nat) (p0 : Int32) (x3 : Int32) (x4 : Int32) (x5 : Int32) (x6 : Int32) : Option (Int32) :=
  (if x3 = (nI 0) then some (-5 : Int32) else (if (m (19 + i) 0) = (nI 2) then some x5 else (if (m (19 + i) 0) = (nI 3) then some x6 else (if (m (19 + i) 0) = (nI 4) then gn x3 (some (((nI 100) * x4) / x3)) else (some x4)))))
def f_X4_answer_L16 (m : SM) (i : Nat) (p0 : Int32) : Nat → Int32 → Int32 → Int32 → Int32 → Int32 → Option (Int32)
  | 0, _, _, _, _, _ => none
  | n + 1, x3, x4, x5, x6, x7 => (if (m 0 2) ≤ x7 then f_X4_answer_L110 m i p0 x3 x4 x5 x6 else gd x7 8 (b1 (f_X5_covers (m (19 + i) 1) (m (3 + x7.toNatClampNeg) 1)) fun r4 => (if r4 = (nI 0) then f_X4_answer_L16 m i p0 n x3 x4 x5 x6 (x7 + (nI 1)) else b1 (f_X4_assumed m x7.toNatClampNeg p0) fun r7 => b1 (f_X0_share m x7.toNatClampNeg (m (19 + i) 0) (m (19 + i) 2) r7) fun r9 => f_X4_answer_L16 m i p0 n (x3 + (m (3 + x7.toNatClampNeg) 4)) (x4 + r9) (mn x5 r9) (mx x6 r9) (x7 + (nI 1)))))
def f_X4_answer (m : SM) (i : Nat) (p0 : Int32) : Option (Int32) :=
  f_X4_answer_L16 m i p0 FU (nI 0) (nI 0) (nI 999) (nI 0) (nI 0)
set_option maxHeartbeats 4000000 in
set_option maxRecDepth 100000 in
theorem c_X4_answer {l : Launch} {D : va_G} {cy : Nat → ClassId} {ad : Nat → Nat → Nat} (hcv : CV ad) {g : Nat} (hg : g < 7) {i : Nat} (hi : i < 6) {M0 : MM} {m : SM} (hm : M0 g = m) {p0 : Int32} {r : Int32} (h : f_X4_answer m i p0 = some r) : Met l yX4_answer (.code yX4_answer cX4_answer 10 (some .int) :: TB) ({ frames := 2, cells := 0, slots := 0, locals := 47 } : Room) (PW D cy ad M0 [.ref (ad g 0), .ref (ad g (19 + i)), .int p0]) (QI D cy ad r M0) 0 0 (AD ad) := by
  refine m_in (by decide +kernel) (Nat.le_of_ble_eq_true rfl) ?_
  intro p e s md args below meth c hC hw hS ls hl
  obtain ⟨hx, hb, hr, hml, hown, hts, hK, hlk⟩ := hC
  have hl : lv_has ls 10 [(0, .ref (ad g 0)), (1, .ref (ad g (19 + i))), (2, .int p0)] := hl
  rw [← gs_same hm] at hw
  have L110 : ∀ (x3 : Int32) (x4 : Int32) (x5 : Int32) (x6 : Int32), f_X4_answer_L110 m i p0 x3 x4 x5 x6 = some r → JL p l e ({ frames := 2, cells := 0, slots := 0, locals := 47 } : Room) s md args below meth c D cy ad (MQ below (QI D cy ad r M0) args s 0 0 (AD ad)) (gs M0 g m) 10 [(1, .ref (ad g (19 + i))), (3, .int x3), (4, .int x4), (5, .int x5), (6, .int x6)] 110 [] := by
    intro x3 x4 x5 x6 h H locs hw hS ls hl
    unfold f_X4_answer_L110 at h
    refine lv_iload_n hx hb dX4_answer_110 rfl (lv_at hl 1 rfl) ?_
    refine lv_if_ne (tgt := 117) hx hb dX4_answer_111 (by decide) (fun q1 => ?_) (fun q1 => ?_)
    · replace h := t_neg h q1
      refine lv_aload_n hx hb dX4_answer_117 rfl (lv_at hl 0 rfl) ?_
      refine r_get hx hb hts hown hK hw (v_qu hg hi) gs_atc (E_qu hg) inX3 rfl 0 (by decide) k_122 rfl rfl dX4_answer_118 ?_
      by_cases q2 : (m (19 + i) 0) = (nI 2)
      · replace h := t_pos h q2
        refine lv_tableIn (off := 27) (tgt := 148) hx hb dX4_answer_121 (by rw [q2]; decide) (by rw [q2]; decide) (by rw [q2]; rfl) (by decide) ?_
        refine lv_iload hx hb dX4_answer_148 (lv_at hl 3 rfl) ?_
        have e1 := Option.some.inj h
        exact e_i hx hb hr hlk hw hS e1 (gs_same hm) dX4_answer_150
      · replace h := t_neg h q2
        by_cases q3 : (m (19 + i) 0) = (nI 3)
        · replace h := t_pos h q3
          refine lv_tableIn (off := 30) (tgt := 151) hx hb dX4_answer_121 (by rw [q3]; decide) (by rw [q3]; decide) (by rw [q3]; rfl) (by decide) ?_
          refine lv_iload hx hb dX4_answer_151 (lv_at hl 4 rfl) ?_
          have e1 := Option.some.inj h
          exact e_i hx hb hr hlk hw hS e1 (gs_same hm) dX4_answer_153
        · replace h := t_neg h q3
          by_cases q4 : (m (19 + i) 0) = (nI 4)
          · replace h := t_pos h q4
            refine lv_tableIn (off := 33) (tgt := 154) hx hb dX4_answer_121 (by rw [q4]; decide) (by rw [q4]; decide) (by rw [q4]; rfl) (by decide) ?_
            refine lv_bipush (v := nI 100) hx hb dX4_answer_154 (by decide) ?_
            refine lv_iload hx hb dX4_answer_156 (lv_at hl 2 rfl) ?_
            refine lv_imul hx hb dX4_answer_158 ?_
            refine lv_iload_n hx hb dX4_answer_159 rfl (lv_at hl 1 rfl) ?_
            obtain ⟨q5, h⟩ := t_gn h
            refine lv_idiv hx hb dX4_answer_160 q5 ?_
            have e1 := Option.some.inj h
            exact e_i hx hb hr hlk hw hS e1 (gs_same hm) dX4_answer_161
          · replace h := t_neg h q4
            refine lv_tableOut (tgt := 162) hx hb dX4_answer_121 (tab_out (lo := 2) (n := 3) (by decide) (lt_s (lt_s (lt_s lt_0 q2) q3) q4)) (by decide) ?_
            refine lv_iload hx hb dX4_answer_162 (lv_at hl 2 rfl) ?_
            have e1 := Option.some.inj h
            exact e_i hx hb hr hlk hw hS e1 (gs_same hm) dX4_answer_164
    · replace h := t_pos h q1
      refine lv_bipush (v := -5) hx hb dX4_answer_114 (by decide) ?_
      have e1 := Option.some.inj h
      exact e_i hx hb hr hlk hw hS e1 (gs_same hm) dX4_answer_116
  have L16 : ∀ (n : Nat), ∀ (x3 : Int32) (x4 : Int32) (x5 : Int32) (x6 : Int32) (x7 : Int32), f_X4_answer_L16 m i p0 n x3 x4 x5 x6 x7 = some r → JL p l e ({ frames := 2, cells := 0, slots := 0, locals := 47 } : Room) s md args below meth c D cy ad (MQ below (QI D cy ad r M0) args s 0 0 (AD ad)) (gs M0 g m) 10 [(0, .ref (ad g 0)), (1, .ref (ad g (19 + i))), (2, .int p0), (3, .int x3), (4, .int x4), (5, .int x5), (6, .int x6), (7, .int x7)] 16 [] := by
    intro n
    induction n with
    | zero =>
      intro x3 x4 x5 x6 x7 h
      cases h
    | succ n ih =>
      intro x3 x4 x5 x6 x7 h H locs hw hS ls hl
      rw [f_X4_answer_L16.eq_2] at h
      refine lv_iload hx hb dX4_answer_16 (lv_at hl 7 rfl) ?_
      refine lv_aload_n hx hb dX4_answer_18 rfl (lv_at hl 0 rfl) ?_
      refine r_get hx hb hts hown hK hw (v_st hg (by decide)) gs_atc (E_st hg) inX4 rfl 2 (by decide) k_165 rfl rfl dX4_answer_19 ?_
      refine lv_icmp_ge (tgt := 110) hx hb dX4_answer_22 (by decide) (fun q1 => ?_) (fun q1 => ?_)
      · replace h := t_pos h q1
        exact L110 x3 x4 x5 x6 h H locs hw hS ls (lv_sub hl [1, 3, 4, 5, 6] rfl)
      · replace h := t_neg h q1
        refine lv_aload_n hx hb dX4_answer_25 rfl (lv_at hl 0 rfl) ?_
        refine r_get hx hb hts hown hK hw (v_st hg (by decide)) gs_atc (E_st hg) inX4 rfl 0 (by decide) k_161 rfl rfl dX4_answer_26 ?_
        refine lv_iload hx hb dX4_answer_29 (lv_at hl 7 rfl) ?_
        obtain ⟨q2, h⟩ := t_gd h
        refine r_aald hx hb hK hw (v_st hg (by decide)) (t0 := 2) rfl (E_ba hg) (v := .ref (ad g (3 + x7.toNatClampNeg))) rfl q2 dX4_answer_31 ?_
        refine lv_astore (lv' := [(8, .ref (ad g (3 + x7.toNatClampNeg))), (0, .ref (ad g 0)), (1, .ref (ad g (19 + i))), (2, .int p0), (3, .int x3), (4, .int x4), (5, .int x5), (6, .int x6), (7, .int x7)]) hx hb dX4_answer_32 hl (by decide) rfl (fun ls hl => ?_)
        refine lv_aload_n hx hb dX4_answer_34 rfl (lv_at hl 2 rfl) ?_
        refine r_get hx hb hts hown hK hw (v_qu hg hi) gs_atc (E_qu hg) inX3 rfl 1 (by decide) k_125 rfl rfl dX4_answer_35 ?_
        refine lv_aload hx hb dX4_answer_38 (lv_at hl 0 rfl) ?_
        refine r_get hx hb hts hown hK hw (v_bk hg (vin q2)) gs_atc (E_bk hg (vin q2)) inX0 rfl 1 (by decide) k_76 rfl rfl dX4_answer_40 ?_
        obtain ⟨r4, y3, h⟩ := t_b1 h
        refine c_sn hx hb hml hown hts hK hw hS (fun _ h => h) (As := [.int (m (19 + i) 1), .int (m (3 + x7.toNatClampNeg) 1)]) (rest := []) (c_X5_covers hcv (M0 := gs M0 g m) y3) cf_X5_covers k_305n rfl rfl ⟨Nat.le_of_ble_eq_true rfl, Nat.le_of_ble_eq_true rfl⟩ rfl hl.1 rfl (Nat.le_of_ble_eq_true rfl) ⟨Nat.le_refl _, Nat.le_refl _⟩ dX4_answer_43 (fun H locs hw hS => ?_)
        refine lv_if_eq (tgt := 104) hx hb dX4_answer_46 (by decide) (fun q5 => ?_) (fun q5 => ?_)
        · replace h := t_pos h q5
          refine lv_iinc (v := (x7 + (nI 1))) (lv' := [(7, .int (x7 + (nI 1))), (8, .ref (ad g (3 + x7.toNatClampNeg))), (0, .ref (ad g 0)), (1, .ref (ad g (19 + i))), (2, .int p0), (3, .int x3), (4, .int x4), (5, .int x5), (6, .int x6)]) hx hb dX4_answer_104 hl (k := 8) rfl rfl (by decide) rfl (fun ls hl => ?_)
          refine lv_goto (tgt := 16) hx hb dX4_answer_107 (by decide) ?_
          exact ih x3 x4 x5 x6 (x7 + (nI 1)) h H locs hw hS ls (lv_sub hl [2, 3, 4, 5, 6, 7, 8, 0] rfl)
        · replace h := t_neg h q5
          refine lv_aload hx hb dX4_answer_49 (lv_at hl 0 rfl) ?_
          refine lv_aload_n hx hb dX4_answer_51 rfl (lv_at hl 2 rfl) ?_
          refine r_get hx hb hts hown hK hw (v_qu hg hi) gs_atc (E_qu hg) inX3 rfl 0 (by decide) k_122 rfl rfl dX4_answer_52 ?_
          refine lv_aload_n hx hb dX4_answer_55 rfl (lv_at hl 2 rfl) ?_
          refine r_get hx hb hts hown hK hw (v_qu hg hi) gs_atc (E_qu hg) inX3 rfl 2 (by decide) k_128 rfl rfl dX4_answer_56 ?_
          refine lv_aload_n hx hb dX4_answer_59 rfl (lv_at hl 1 rfl) ?_
          refine lv_aload hx hb dX4_answer_60 (lv_at hl 0 rfl) ?_
          refine lv_iload_n hx hb dX4_answer_62 rfl (lv_at hl 3 rfl) ?_
          obtain ⟨r7, y6, h⟩ := t_b1 h
          refine c_vi hx hb hml hown hts hK hw hS (fun _ h => h) (As := [.ref (ad g (3 + x7.toNatClampNeg)), .int p0]) (rest := [.int (m (19 + i) 2), .int (m (19 + i) 0), .ref (ad g (3 + x7.toNatClampNeg))]) (c_X4_assumed hcv (g := g) (hg := hg) (i := x7.toNatClampNeg) (hi := (vin q2)) (M0 := gs M0 g m) (m := m) (hm := gs_at) y6) cf_X4_assumed k_312 rfl rfl ⟨Nat.le_of_ble_eq_true rfl, Nat.le_of_ble_eq_true rfl⟩ (r_recv hK hw (v_st hg (by decide)) (E_st hg) rfl) rfl hl.1 rfl (Nat.le_of_ble_eq_true rfl) ⟨Nat.le_refl _, Nat.le_refl _⟩ dX4_answer_63 (fun H locs hw hS => ?_)
          obtain ⟨r9, y8, h⟩ := t_b1 h
          refine c_vi hx hb hml hown hts hK hw hS (fun _ h => h) (As := [.int (m (19 + i) 0), .int (m (19 + i) 2), .int r7]) (rest := []) (c_X0_share hcv (g := g) (hg := hg) (i := x7.toNatClampNeg) (hi := (vin q2)) (M0 := gs M0 g m) (m := m) (hm := gs_at) y8) cf_X0_share k_318 rfl rfl ⟨Nat.le_of_ble_eq_true rfl, Nat.le_of_ble_eq_true rfl⟩ (r_recv hK hw (v_bk hg (vin q2)) (E_bk hg (vin q2)) rfl) rfl hl.1 rfl (Nat.le_of_ble_eq_true rfl) ⟨Nat.le_refl _, Nat.le_refl _⟩ dX4_answer_66 (fun H locs hw hS => ?_)
          refine lv_istore (lv' := [(9, .int r9), (8, .ref (ad g (3 + x7.toNatClampNeg))), (0, .ref (ad g 0)), (1, .ref (ad g (19 + i))), (2, .int p0), (3, .int x3), (4, .int x4), (5, .int x5), (6, .int x6), (7, .int x7)]) hx hb dX4_answer_69 hl (by decide) rfl (fun ls hl => ?_)
          refine lv_iload_n hx hb dX4_answer_71 rfl (lv_at hl 5 rfl) ?_
          refine lv_aload hx hb dX4_answer_72 (lv_at hl 1 rfl) ?_
          refine r_get hx hb hts hown hK hw (v_bk hg (vin q2)) gs_atc (E_bk hg (vin q2)) inX0 rfl 4 (by decide) k_88 rfl rfl dX4_answer_74 ?_
          refine lv_iadd hx hb dX4_answer_77 ?_
          refine lv_istore_n (lv' := [(3, .int (x3 + (m (3 + x7.toNatClampNeg) 4))), (9, .int r9), (8, .ref (ad g (3 + x7.toNatClampNeg))), (0, .ref (ad g 0)), (1, .ref (ad g (19 + i))), (2, .int p0), (4, .int x4), (5, .int x5), (6, .int x6), (7, .int x7)]) hx hb dX4_answer_78 rfl hl (by decide) rfl (fun ls hl => ?_)
          refine lv_iload hx hb dX4_answer_79 (lv_at hl 6 rfl) ?_
          refine lv_iload hx hb dX4_answer_81 (lv_at hl 1 rfl) ?_
          refine lv_iadd hx hb dX4_answer_83 ?_
          refine lv_istore (lv' := [(4, .int (x4 + r9)), (3, .int (x3 + (m (3 + x7.toNatClampNeg) 4))), (9, .int r9), (8, .ref (ad g (3 + x7.toNatClampNeg))), (0, .ref (ad g 0)), (1, .ref (ad g (19 + i))), (2, .int p0), (5, .int x5), (6, .int x6), (7, .int x7)]) hx hb dX4_answer_84 hl (by decide) rfl (fun ls hl => ?_)
          refine lv_iload hx hb dX4_answer_86 (lv_at hl 7 rfl) ?_
          refine lv_iload hx hb dX4_answer_88 (lv_at hl 2 rfl) ?_
          refine r_min hx hb hts (hml.trans hl.1.symm) hown k_316 k_292 k_9 k_293 (Nat.le_of_ble_eq_true rfl) (Nat.le_of_ble_eq_true rfl) (Nat.le_of_ble_eq_true rfl) (Nat.le_of_ble_eq_true rfl) dX4_answer_90 ?_
          refine lv_istore (lv' := [(5, .int (mn x5 r9)), (4, .int (x4 + r9)), (3, .int (x3 + (m (3 + x7.toNatClampNeg) 4))), (9, .int r9), (8, .ref (ad g (3 + x7.toNatClampNeg))), (0, .ref (ad g 0)), (1, .ref (ad g (19 + i))), (2, .int p0), (6, .int x6), (7, .int x7)]) hx hb dX4_answer_93 hl (by decide) rfl (fun ls hl => ?_)
          refine lv_iload hx hb dX4_answer_95 (lv_at hl 8 rfl) ?_
          refine lv_iload hx hb dX4_answer_97 (lv_at hl 3 rfl) ?_
          refine r_max hx hb hts (hml.trans hl.1.symm) hown k_317 k_295 k_9 k_296 (Nat.le_of_ble_eq_true rfl) (Nat.le_of_ble_eq_true rfl) (Nat.le_of_ble_eq_true rfl) (Nat.le_of_ble_eq_true rfl) dX4_answer_99 ?_
          refine lv_istore (lv' := [(6, .int (mx x6 r9)), (5, .int (mn x5 r9)), (4, .int (x4 + r9)), (3, .int (x3 + (m (3 + x7.toNatClampNeg) 4))), (9, .int r9), (8, .ref (ad g (3 + x7.toNatClampNeg))), (0, .ref (ad g 0)), (1, .ref (ad g (19 + i))), (2, .int p0), (7, .int x7)]) hx hb dX4_answer_102 hl (by decide) rfl (fun ls hl => ?_)
          refine lv_iinc (v := (x7 + (nI 1))) (lv' := [(7, .int (x7 + (nI 1))), (6, .int (mx x6 r9)), (5, .int (mn x5 r9)), (4, .int (x4 + r9)), (3, .int (x3 + (m (3 + x7.toNatClampNeg) 4))), (9, .int r9), (8, .ref (ad g (3 + x7.toNatClampNeg))), (0, .ref (ad g 0)), (1, .ref (ad g (19 + i))), (2, .int p0)]) hx hb dX4_answer_104 hl (k := 9) rfl rfl (by decide) rfl (fun ls hl => ?_)
          refine lv_goto (tgt := 16) hx hb dX4_answer_107 (by decide) ?_
          exact ih (x3 + (m (3 + x7.toNatClampNeg) 4)) (x4 + r9) (mn x5 r9) (mx x6 r9) (x7 + (nI 1)) h H locs hw hS ls (lv_sub hl [7, 8, 9, 4, 3, 2, 1, 0] rfl)
  unfold f_X4_answer at h
  have main : JL p l e ({ frames := 2, cells := 0, slots := 0, locals := 47 } : Room) s md args below meth c D cy ad (MQ below (QI D cy ad r M0) args s 0 0 (AD ad)) (gs M0 g m) 10 [(0, .ref (ad g 0)), (1, .ref (ad g (19 + i))), (2, .int p0)] 0 [] := by
    intro H locs hw hS ls hl
    refine lv_iconst (v := nI 0) hx hb dX4_answer_0 (by decide) ?_
    refine lv_istore_n (lv' := [(3, .int (nI 0)), (0, .ref (ad g 0)), (1, .ref (ad g (19 + i))), (2, .int p0)]) hx hb dX4_answer_1 rfl hl (by decide) rfl (fun ls hl => ?_)
    refine lv_iconst (v := nI 0) hx hb dX4_answer_2 (by decide) ?_
    refine lv_istore (lv' := [(4, .int (nI 0)), (3, .int (nI 0)), (0, .ref (ad g 0)), (1, .ref (ad g (19 + i))), (2, .int p0)]) hx hb dX4_answer_3 hl (by decide) rfl (fun ls hl => ?_)
    refine lv_sipush (v := nI 999) hx hb dX4_answer_5 (by decide) ?_
    refine lv_istore (lv' := [(5, .int (nI 999)), (4, .int (nI 0)), (3, .int (nI 0)), (0, .ref (ad g 0)), (1, .ref (ad g (19 + i))), (2, .int p0)]) hx hb dX4_answer_8 hl (by decide) rfl (fun ls hl => ?_)
    refine lv_iconst (v := nI 0) hx hb dX4_answer_10 (by decide) ?_
    refine lv_istore (lv' := [(6, .int (nI 0)), (5, .int (nI 999)), (4, .int (nI 0)), (3, .int (nI 0)), (0, .ref (ad g 0)), (1, .ref (ad g (19 + i))), (2, .int p0)]) hx hb dX4_answer_11 hl (by decide) rfl (fun ls hl => ?_)
    refine lv_iconst (v := nI 0) hx hb dX4_answer_13 (by decide) ?_
    refine lv_istore (lv' := [(7, .int (nI 0)), (6, .int (nI 0)), (5, .int (nI 999)), (4, .int (nI 0)), (3, .int (nI 0)), (0, .ref (ad g 0)), (1, .ref (ad g (19 + i))), (2, .int p0)]) hx hb dX4_answer_14 hl (by decide) rfl (fun ls hl => ?_)
    exact L16 FU (nI 0) (nI 0) (nI 999) (nI 0) (nI 0) h H locs hw hS ls (lv_sub hl [5, 6, 7, 4, 3, 2, 1, 0] rfl)
  exact main _ _ hw hS ls hl

theorem cf_X4_settle : cfV RX4 yX4_settle cX4_settle 3 none 0 := ⟨⟨k_298, k_299, k_3, k_300⟩, by decide +kernel⟩
def f_X4_settle_L2 : Nat → SM → Int32 → Option (Int32 × SM)
  | 0, _, _ => none
  | n + 1, m, x1 => (if (m 0 3) ≤ x1 then some (0, m) else gd x1 6 ((if (m (19 + x1.toNatClampNeg) 4) = (nI 0) then b1 (f_X4_rows m (m (19 + x1.toNatClampNeg) 1)) fun r5 => (if r5 = (nI 0) then f_X4_settle_L2 n m (x1 + (nI 1)) else b1 (f_X4_answer m x1.toNatClampNeg (nI 0)) fun r8 => lt1 (up m (19 + x1.toNatClampNeg) 5 r8) fun m10 => b1 (f_X4_answer m10 x1.toNatClampNeg (nI 1)) fun r12 => lt1 (up m10 (19 + x1.toNatClampNeg) 6 r12) fun m14 => (if (m14 (19 + x1.toNatClampNeg) 3) < ((m14 (19 + x1.toNatClampNeg) 6) - (m14 (19 + x1.toNatClampNeg) 5)) then f_X4_settle_L2 n m14 (x1 + (nI 1)) else b1 (f_X4_answer m14 x1.toNatClampNeg (nI 2)) fun r17 => bd (f_X3_finish m14 x1.toNatClampNeg r17) fun r19 m20 => f_X4_settle_L2 n m20 (x1 + (nI 1)))) else f_X4_settle_L2 n m (x1 + (nI 1)))))
def f_X4_settle (m : SM) : Option (Int32 × SM) :=
  f_X4_settle_L2 FU m (nI 0)
set_option maxHeartbeats 4000000 in
set_option maxRecDepth 100000 in
theorem c_X4_settle {l : Launch} {D : va_G} {cy : Nat → ClassId} {ad : Nat → Nat → Nat} (hcv : CV ad) {g : Nat} (hg : g < 7) {M0 : MM} {m : SM} (hm : M0 g = m) {r : Int32} {x : SM} (h : f_X4_settle m = some (r, x)) : Met l yX4_settle (.code yX4_settle cX4_settle 3 none :: TB) ({ frames := 3, cells := 0, slots := 0, locals := 76 } : Room) (PW D cy ad M0 [.ref (ad g 0)]) (QV D cy ad (gs M0 g x)) 0 0 (AD ad) := by
  refine m_in (by decide +kernel) (Nat.le_of_ble_eq_true rfl) ?_
  intro p e s md args below meth c hC hw hS ls hl
  obtain ⟨hx, hb, hr, hml, hown, hts, hK, hlk⟩ := hC
  have hl : lv_has ls 3 [(0, .ref (ad g 0))] := hl
  rw [← gs_same hm] at hw
  have L2 : ∀ (n : Nat), ∀ (m : SM) (x1 : Int32), f_X4_settle_L2 n m x1 = some (r, x) → JL p l e ({ frames := 3, cells := 0, slots := 0, locals := 76 } : Room) s md args below meth c D cy ad (MQ below (QV D cy ad (gs M0 g x)) args s 0 0 (AD ad)) (gs M0 g m) 3 [(0, .ref (ad g 0)), (1, .int x1)] 2 [] := by
    intro n
    induction n with
    | zero =>
      intro m x1 h
      cases h
    | succ n ih =>
      intro m x1 h H locs hw hS ls hl
      rw [f_X4_settle_L2.eq_2] at h
      refine lv_iload_n hx hb dX4_settle_2 rfl (lv_at hl 1 rfl) ?_
      refine lv_aload_n hx hb dX4_settle_3 rfl (lv_at hl 0 rfl) ?_
      refine r_get hx hb hts hown hK hw (v_st hg (by decide)) gs_atc (E_st hg) inX4 rfl 3 (by decide) k_167 rfl rfl dX4_settle_4 ?_
      refine lv_icmp_ge (tgt := 90) hx hb dX4_settle_7 (by decide) (fun q1 => ?_) (fun q1 => ?_)
      · replace h := t_pos h q1
        have e1 := (t_ret h).1
        have e2 := (t_ret h).2
        exact e_v hx hb hr hlk hw hS (by rw [e2]) dX4_settle_90
      · replace h := t_neg h q1
        refine lv_aload_n hx hb dX4_settle_10 rfl (lv_at hl 0 rfl) ?_
        refine r_get hx hb hts hown hK hw (v_st hg (by decide)) gs_atc (E_st hg) inX4 rfl 1 (by decide) k_163 rfl rfl dX4_settle_11 ?_
        refine lv_iload_n hx hb dX4_settle_14 rfl (lv_at hl 1 rfl) ?_
        obtain ⟨q2, h⟩ := t_gd h
        refine r_aald hx hb hK hw (v_st hg (by decide)) (t0 := 3) rfl (E_qa hg) (v := .ref (ad g (19 + x1.toNatClampNeg))) rfl q2 dX4_settle_15 ?_
        refine lv_astore_n (lv' := [(2, .ref (ad g (19 + x1.toNatClampNeg))), (0, .ref (ad g 0)), (1, .int x1)]) hx hb dX4_settle_16 rfl hl (by decide) rfl (fun ls hl => ?_)
        refine lv_aload_n hx hb dX4_settle_17 rfl (lv_at hl 0 rfl) ?_
        refine r_get hx hb hts hown hK hw (v_qu hg (vin q2)) gs_atc (E_qu hg) inX3 rfl 4 (by decide) k_134 rfl rfl dX4_settle_18 ?_
        refine lv_if_ne (tgt := 84) hx hb dX4_settle_21 (by decide) (fun q3 => ?_) (fun q3 => ?_)
        · replace h := t_neg h q3
          refine lv_iinc (v := (x1 + (nI 1))) (lv' := [(1, .int (x1 + (nI 1))), (2, .ref (ad g (19 + x1.toNatClampNeg))), (0, .ref (ad g 0))]) hx hb dX4_settle_84 hl (k := 2) rfl rfl (by decide) rfl (fun ls hl => ?_)
          refine lv_goto (tgt := 2) hx hb dX4_settle_87 (by decide) ?_
          exact ih m (x1 + (nI 1)) h H locs hw hS ls (lv_sub hl [2, 0] rfl)
        · replace h := t_pos h q3
          refine lv_aload_n hx hb dX4_settle_24 rfl (lv_at hl 1 rfl) ?_
          refine lv_aload_n hx hb dX4_settle_25 rfl (lv_at hl 0 rfl) ?_
          refine r_get hx hb hts hown hK hw (v_qu hg (vin q2)) gs_atc (E_qu hg) inX3 rfl 1 (by decide) k_125 rfl rfl dX4_settle_26 ?_
          obtain ⟨r5, y4, h⟩ := t_b1 h
          refine c_vi hx hb hml hown hts hK hw hS (fun _ h => h) (As := [.int (m (19 + x1.toNatClampNeg) 1)]) (rest := []) (c_X4_rows hcv (g := g) (hg := hg) (M0 := gs M0 g m) (m := m) (hm := gs_at) y4) cf_X4_rows k_301 rfl rfl ⟨Nat.le_of_ble_eq_true rfl, Nat.le_of_ble_eq_true rfl⟩ (r_recv hK hw (v_st hg (by decide)) (E_st hg) rfl) rfl hl.1 rfl (Nat.le_of_ble_eq_true rfl) ⟨Nat.le_refl _, Nat.le_refl _⟩ dX4_settle_29 (fun H locs hw hS => ?_)
          refine lv_if_ne (tgt := 38) hx hb dX4_settle_32 (by decide) (fun q6 => ?_) (fun q6 => ?_)
          · replace h := t_neg h q6
            refine lv_aload_n hx hb dX4_settle_38 rfl (lv_at hl 0 rfl) ?_
            refine lv_aload_n hx hb dX4_settle_39 rfl (lv_at hl 1 rfl) ?_
            refine lv_aload_n hx hb dX4_settle_40 rfl (lv_at hl 0 rfl) ?_
            refine lv_iconst (v := nI 0) hx hb dX4_settle_41 (by decide) ?_
            obtain ⟨r8, y7, h⟩ := t_b1 h
            refine c_vi hx hb hml hown hts hK hw hS (fun _ h => h) (As := [.ref (ad g (19 + x1.toNatClampNeg)), .int (nI 0)]) (rest := [.ref (ad g (19 + x1.toNatClampNeg))]) (c_X4_answer hcv (g := g) (hg := hg) (i := x1.toNatClampNeg) (hi := (vin q2)) (M0 := gs M0 g m) (m := m) (hm := gs_at) y7) cf_X4_answer k_308 rfl rfl ⟨Nat.le_of_ble_eq_true rfl, Nat.le_of_ble_eq_true rfl⟩ (r_recv hK hw (v_st hg (by decide)) (E_st hg) rfl) rfl hl.1 rfl (Nat.le_of_ble_eq_true rfl) ⟨Nat.le_refl _, Nat.le_refl _⟩ dX4_settle_42 (fun H locs hw hS => ?_)
            obtain ⟨m10, e9, h⟩ := t_lt h
            refine r_put hx hb hts hown hK hcv hw hS (v_qu hg (vin q2)) gs_atc (E_qu hg) inX3 rfl tyX3 tyX3_ok nmX3 5 (by decide) k_137 rfl rfl rfl rfl (Nat.le_of_ble_eq_true rfl) (E_qu hg) (gs_up e9) dX4_settle_45 (fun H locs hw hS => ?_)
            refine lv_aload_n hx hb dX4_settle_48 rfl (lv_at hl 0 rfl) ?_
            refine lv_aload_n hx hb dX4_settle_49 rfl (lv_at hl 1 rfl) ?_
            refine lv_aload_n hx hb dX4_settle_50 rfl (lv_at hl 0 rfl) ?_
            refine lv_iconst (v := nI 1) hx hb dX4_settle_51 (by decide) ?_
            obtain ⟨r12, y11, h⟩ := t_b1 h
            refine c_vi hx hb hml hown hts hK hw hS (fun _ h => h) (As := [.ref (ad g (19 + x1.toNatClampNeg)), .int (nI 1)]) (rest := [.ref (ad g (19 + x1.toNatClampNeg))]) (c_X4_answer hcv (g := g) (hg := hg) (i := x1.toNatClampNeg) (hi := (vin q2)) (M0 := gs M0 g m10) (m := m10) (hm := gs_at) y11) cf_X4_answer k_308 rfl rfl ⟨Nat.le_of_ble_eq_true rfl, Nat.le_of_ble_eq_true rfl⟩ (r_recv hK hw (v_st hg (by decide)) (E_st hg) rfl) rfl hl.1 rfl (Nat.le_of_ble_eq_true rfl) ⟨Nat.le_refl _, Nat.le_refl _⟩ dX4_settle_52 (fun H locs hw hS => ?_)
            obtain ⟨m14, e13, h⟩ := t_lt h
            refine r_put hx hb hts hown hK hcv hw hS (v_qu hg (vin q2)) gs_atc (E_qu hg) inX3 rfl tyX3 tyX3_ok nmX3 6 (by decide) k_140 rfl rfl rfl rfl (Nat.le_of_ble_eq_true rfl) (E_qu hg) (gs_up e13) dX4_settle_55 (fun H locs hw hS => ?_)
            refine lv_aload_n hx hb dX4_settle_58 rfl (lv_at hl 0 rfl) ?_
            refine r_get hx hb hts hown hK hw (v_qu hg (vin q2)) gs_atc (E_qu hg) inX3 rfl 6 (by decide) k_140 rfl rfl dX4_settle_59 ?_
            refine lv_aload_n hx hb dX4_settle_62 rfl (lv_at hl 0 rfl) ?_
            refine r_get hx hb hts hown hK hw (v_qu hg (vin q2)) gs_atc (E_qu hg) inX3 rfl 5 (by decide) k_137 rfl rfl dX4_settle_63 ?_
            refine lv_isub hx hb dX4_settle_66 ?_
            refine lv_aload_n hx hb dX4_settle_67 rfl (lv_at hl 0 rfl) ?_
            refine r_get hx hb hts hown hK hw (v_qu hg (vin q2)) gs_atc (E_qu hg) inX3 rfl 3 (by decide) k_131 rfl rfl dX4_settle_68 ?_
            refine lv_icmp_gt (tgt := 84) hx hb dX4_settle_71 (by decide) (fun q15 => ?_) (fun q15 => ?_)
            · replace h := t_pos h q15
              refine lv_iinc (v := (x1 + (nI 1))) (lv' := [(1, .int (x1 + (nI 1))), (2, .ref (ad g (19 + x1.toNatClampNeg))), (0, .ref (ad g 0))]) hx hb dX4_settle_84 hl (k := 2) rfl rfl (by decide) rfl (fun ls hl => ?_)
              refine lv_goto (tgt := 2) hx hb dX4_settle_87 (by decide) ?_
              exact ih m14 (x1 + (nI 1)) h H locs hw hS ls (lv_sub hl [2, 0] rfl)
            · replace h := t_neg h q15
              refine lv_aload_n hx hb dX4_settle_74 rfl (lv_at hl 0 rfl) ?_
              refine lv_aload_n hx hb dX4_settle_75 rfl (lv_at hl 1 rfl) ?_
              refine lv_aload_n hx hb dX4_settle_76 rfl (lv_at hl 0 rfl) ?_
              refine lv_iconst (v := nI 2) hx hb dX4_settle_77 (by decide) ?_
              obtain ⟨r17, y16, h⟩ := t_b1 h
              refine c_vi hx hb hml hown hts hK hw hS (fun _ h => h) (As := [.ref (ad g (19 + x1.toNatClampNeg)), .int (nI 2)]) (rest := [.ref (ad g (19 + x1.toNatClampNeg))]) (c_X4_answer hcv (g := g) (hg := hg) (i := x1.toNatClampNeg) (hi := (vin q2)) (M0 := gs M0 g m14) (m := m14) (hm := gs_at) y16) cf_X4_answer k_308 rfl rfl ⟨Nat.le_of_ble_eq_true rfl, Nat.le_of_ble_eq_true rfl⟩ (r_recv hK hw (v_st hg (by decide)) (E_st hg) rfl) rfl hl.1 rfl (Nat.le_of_ble_eq_true rfl) ⟨Nat.le_refl _, Nat.le_refl _⟩ dX4_settle_78 (fun H locs hw hS => ?_)
              obtain ⟨r19, m20, y18, h⟩ := t_bd h
              refine c_vv hx hb hml hown hts hK hw hS (fun _ h => h) (As := [.int r17]) (rest := []) (c_X3_finish hcv (g := g) (hg := hg) (i := x1.toNatClampNeg) (hi := (vin q2)) (M0 := gs M0 g m14) (m := m14) (hm := gs_at) y18) cf_X3_finish k_330 rfl rfl ⟨Nat.le_of_ble_eq_true rfl, Nat.le_of_ble_eq_true rfl⟩ (r_recv hK hw (v_qu hg (vin q2)) (E_qu hg) rfl) rfl hl.1 rfl (Nat.le_of_ble_eq_true rfl) ⟨Nat.le_refl _, Nat.le_refl _⟩ dX4_settle_81 (fun H locs hw hS => ?_)
              rw [gs_gs] at hw
              refine lv_iinc (v := (x1 + (nI 1))) (lv' := [(1, .int (x1 + (nI 1))), (2, .ref (ad g (19 + x1.toNatClampNeg))), (0, .ref (ad g 0))]) hx hb dX4_settle_84 hl (k := 2) rfl rfl (by decide) rfl (fun ls hl => ?_)
              refine lv_goto (tgt := 2) hx hb dX4_settle_87 (by decide) ?_
              exact ih m20 (x1 + (nI 1)) h H locs hw hS ls (lv_sub hl [2, 0] rfl)
          · replace h := t_pos h q6
            refine lv_goto (tgt := 84) hx hb dX4_settle_35 (by decide) ?_
            refine lv_iinc (v := (x1 + (nI 1))) (lv' := [(1, .int (x1 + (nI 1))), (2, .ref (ad g (19 + x1.toNatClampNeg))), (0, .ref (ad g 0))]) hx hb dX4_settle_84 hl (k := 2) rfl rfl (by decide) rfl (fun ls hl => ?_)
            refine lv_goto (tgt := 2) hx hb dX4_settle_87 (by decide) ?_
            exact ih m (x1 + (nI 1)) h H locs hw hS ls (lv_sub hl [2, 0] rfl)
  unfold f_X4_settle at h
  have main : JL p l e ({ frames := 3, cells := 0, slots := 0, locals := 76 } : Room) s md args below meth c D cy ad (MQ below (QV D cy ad (gs M0 g x)) args s 0 0 (AD ad)) (gs M0 g m) 3 [(0, .ref (ad g 0))] 0 [] := by
    intro H locs hw hS ls hl
    refine lv_iconst (v := nI 0) hx hb dX4_settle_0 (by decide) ?_
    refine lv_istore_n (lv' := [(1, .int (nI 0)), (0, .ref (ad g 0))]) hx hb dX4_settle_1 rfl hl (by decide) rfl (fun ls hl => ?_)
    exact L2 FU m (nI 0) h H locs hw hS ls (lv_sub hl [1, 0] rfl)
  exact main _ _ hw hS ls hl

theorem cf_X4_weight : cfV RX4 yX4_weight cX4_weight 5 (some .int) 1 := ⟨⟨k_446, k_447, k_3, k_448⟩, by decide +kernel⟩
def f_X4_weight_L4 (m : SM) (i : Nat) : Nat → Int32 → Int32 → Option (Int32)
  | 0, _, _ => none
  | n + 1, x2, x3 => (if (m 0 3) ≤ x3 then some x2 else gd x3 6 ((if (m (19 + x3.toNatClampNeg) 4) = (nI 0) then b1 (f_X5_covers (m (19 + x3.toNatClampNeg) 1) (m (3 + i) 1)) fun r5 => (if r5 = (nI 0) then f_X4_weight_L4 m i n x2 (x3 + (nI 1)) else b1 (f_X3_urgency m x3.toNatClampNeg i) fun r8 => f_X4_weight_L4 m i n (x2 + r8) (x3 + (nI 1))) else f_X4_weight_L4 m i n x2 (x3 + (nI 1)))))
def f_X4_weight (m : SM) (i : Nat) : Option (Int32) :=
  f_X4_weight_L4 m i FU (nI 0) (nI 0)
set_option maxHeartbeats 4000000 in
set_option maxRecDepth 100000 in
theorem c_X4_weight {l : Launch} {D : va_G} {cy : Nat → ClassId} {ad : Nat → Nat → Nat} (hcv : CV ad) {g : Nat} (hg : g < 7) {i : Nat} (hi : i < 8) {M0 : MM} {m : SM} (hm : M0 g = m) {r : Int32} (h : f_X4_weight m i = some r) : Met l yX4_weight (.code yX4_weight cX4_weight 5 (some .int) :: TB) ({ frames := 1, cells := 0, slots := 0, locals := 21 } : Room) (PW D cy ad M0 [.ref (ad g 0), .ref (ad g (3 + i))]) (QI D cy ad r M0) 0 0 (AD ad) := by
  refine m_in (by decide +kernel) (Nat.le_of_ble_eq_true rfl) ?_
  intro p e s md args below meth c hC hw hS ls hl
  obtain ⟨hx, hb, hr, hml, hown, hts, hK, hlk⟩ := hC
  have hl : lv_has ls 5 [(0, .ref (ad g 0)), (1, .ref (ad g (3 + i)))] := hl
  rw [← gs_same hm] at hw
  have L4 : ∀ (n : Nat), ∀ (x2 : Int32) (x3 : Int32), f_X4_weight_L4 m i n x2 x3 = some r → JL p l e ({ frames := 1, cells := 0, slots := 0, locals := 21 } : Room) s md args below meth c D cy ad (MQ below (QI D cy ad r M0) args s 0 0 (AD ad)) (gs M0 g m) 5 [(0, .ref (ad g 0)), (1, .ref (ad g (3 + i))), (2, .int x2), (3, .int x3)] 4 [] := by
    intro n
    induction n with
    | zero =>
      intro x2 x3 h
      cases h
    | succ n ih =>
      intro x2 x3 h H locs hw hS ls hl
      rw [f_X4_weight_L4.eq_2] at h
      refine lv_iload_n hx hb dX4_weight_4 rfl (lv_at hl 3 rfl) ?_
      refine lv_aload_n hx hb dX4_weight_5 rfl (lv_at hl 0 rfl) ?_
      refine r_get hx hb hts hown hK hw (v_st hg (by decide)) gs_atc (E_st hg) inX4 rfl 3 (by decide) k_167 rfl rfl dX4_weight_6 ?_
      refine lv_icmp_ge (tgt := 58) hx hb dX4_weight_9 (by decide) (fun q1 => ?_) (fun q1 => ?_)
      · replace h := t_pos h q1
        refine lv_iload_n hx hb dX4_weight_58 rfl (lv_at hl 2 rfl) ?_
        have e1 := Option.some.inj h
        exact e_i hx hb hr hlk hw hS e1 (gs_same hm) dX4_weight_59
      · replace h := t_neg h q1
        refine lv_aload_n hx hb dX4_weight_12 rfl (lv_at hl 0 rfl) ?_
        refine r_get hx hb hts hown hK hw (v_st hg (by decide)) gs_atc (E_st hg) inX4 rfl 1 (by decide) k_163 rfl rfl dX4_weight_13 ?_
        refine lv_iload_n hx hb dX4_weight_16 rfl (lv_at hl 3 rfl) ?_
        obtain ⟨q2, h⟩ := t_gd h
        refine r_aald hx hb hK hw (v_st hg (by decide)) (t0 := 3) rfl (E_qa hg) (v := .ref (ad g (19 + x3.toNatClampNeg))) rfl q2 dX4_weight_17 ?_
        refine lv_astore (lv' := [(4, .ref (ad g (19 + x3.toNatClampNeg))), (0, .ref (ad g 0)), (1, .ref (ad g (3 + i))), (2, .int x2), (3, .int x3)]) hx hb dX4_weight_18 hl (by decide) rfl (fun ls hl => ?_)
        refine lv_aload hx hb dX4_weight_20 (lv_at hl 0 rfl) ?_
        refine r_get hx hb hts hown hK hw (v_qu hg (vin q2)) gs_atc (E_qu hg) inX3 rfl 4 (by decide) k_134 rfl rfl dX4_weight_22 ?_
        refine lv_if_ne (tgt := 52) hx hb dX4_weight_25 (by decide) (fun q3 => ?_) (fun q3 => ?_)
        · replace h := t_neg h q3
          refine lv_iinc (v := (x3 + (nI 1))) (lv' := [(3, .int (x3 + (nI 1))), (4, .ref (ad g (19 + x3.toNatClampNeg))), (0, .ref (ad g 0)), (1, .ref (ad g (3 + i))), (2, .int x2)]) hx hb dX4_weight_52 hl (k := 4) rfl rfl (by decide) rfl (fun ls hl => ?_)
          refine lv_goto (tgt := 4) hx hb dX4_weight_55 (by decide) ?_
          exact ih x2 (x3 + (nI 1)) h H locs hw hS ls (lv_sub hl [2, 3, 4, 0] rfl)
        · replace h := t_pos h q3
          refine lv_aload hx hb dX4_weight_28 (lv_at hl 0 rfl) ?_
          refine r_get hx hb hts hown hK hw (v_qu hg (vin q2)) gs_atc (E_qu hg) inX3 rfl 1 (by decide) k_125 rfl rfl dX4_weight_30 ?_
          refine lv_aload_n hx hb dX4_weight_33 rfl (lv_at hl 2 rfl) ?_
          refine r_get hx hb hts hown hK hw (v_bk hg hi) gs_atc (E_bk hg hi) inX0 rfl 1 (by decide) k_76 rfl rfl dX4_weight_34 ?_
          obtain ⟨r5, y4, h⟩ := t_b1 h
          refine c_sn hx hb hml hown hts hK hw hS (fun _ h => h) (As := [.int (m (19 + x3.toNatClampNeg) 1), .int (m (3 + i) 1)]) (rest := []) (c_X5_covers hcv (M0 := gs M0 g m) y4) cf_X5_covers k_305n rfl rfl ⟨Nat.le_of_ble_eq_true rfl, Nat.le_of_ble_eq_true rfl⟩ rfl hl.1 rfl (Nat.le_of_ble_eq_true rfl) ⟨Nat.le_refl _, Nat.le_refl _⟩ dX4_weight_37 (fun H locs hw hS => ?_)
          refine lv_if_eq (tgt := 52) hx hb dX4_weight_40 (by decide) (fun q6 => ?_) (fun q6 => ?_)
          · replace h := t_pos h q6
            refine lv_iinc (v := (x3 + (nI 1))) (lv' := [(3, .int (x3 + (nI 1))), (4, .ref (ad g (19 + x3.toNatClampNeg))), (0, .ref (ad g 0)), (1, .ref (ad g (3 + i))), (2, .int x2)]) hx hb dX4_weight_52 hl (k := 4) rfl rfl (by decide) rfl (fun ls hl => ?_)
            refine lv_goto (tgt := 4) hx hb dX4_weight_55 (by decide) ?_
            exact ih x2 (x3 + (nI 1)) h H locs hw hS ls (lv_sub hl [2, 3, 4, 0] rfl)
          · replace h := t_neg h q6
            refine lv_iload_n hx hb dX4_weight_43 rfl (lv_at hl 3 rfl) ?_
            refine lv_aload hx hb dX4_weight_44 (lv_at hl 0 rfl) ?_
            refine lv_aload_n hx hb dX4_weight_46 rfl (lv_at hl 2 rfl) ?_
            obtain ⟨r8, y7, h⟩ := t_b1 h
            refine c_vi hx hb hml hown hts hK hw hS (fun _ h => h) (As := [.ref (ad g (3 + i))]) (rest := [.int x2]) (c_X3_urgency hcv (g := g) (hg := hg) (i := x3.toNatClampNeg) (hi := (vin q2)) (i2 := i) (hi2 := hi) (M0 := gs M0 g m) (m := m) (hm := gs_at) y7) cf_X3_urgency k_449 rfl rfl ⟨Nat.le_of_ble_eq_true rfl, Nat.le_of_ble_eq_true rfl⟩ (r_recv hK hw (v_qu hg (vin q2)) (E_qu hg) rfl) rfl hl.1 rfl (Nat.le_of_ble_eq_true rfl) ⟨Nat.le_refl _, Nat.le_refl _⟩ dX4_weight_47 (fun H locs hw hS => ?_)
            refine lv_iadd hx hb dX4_weight_50 ?_
            refine lv_istore_n (lv' := [(2, .int (x2 + r8)), (4, .ref (ad g (19 + x3.toNatClampNeg))), (0, .ref (ad g 0)), (1, .ref (ad g (3 + i))), (3, .int x3)]) hx hb dX4_weight_51 rfl hl (by decide) rfl (fun ls hl => ?_)
            refine lv_iinc (v := (x3 + (nI 1))) (lv' := [(3, .int (x3 + (nI 1))), (2, .int (x2 + r8)), (4, .ref (ad g (19 + x3.toNatClampNeg))), (0, .ref (ad g 0)), (1, .ref (ad g (3 + i)))]) hx hb dX4_weight_52 hl (k := 4) rfl rfl (by decide) rfl (fun ls hl => ?_)
            refine lv_goto (tgt := 4) hx hb dX4_weight_55 (by decide) ?_
            exact ih (x2 + r8) (x3 + (nI 1)) h H locs hw hS ls (lv_sub hl [3, 4, 1, 0] rfl)
  unfold f_X4_weight at h
  have main : JL p l e ({ frames := 1, cells := 0, slots := 0, locals := 21 } : Room) s md args below meth c D cy ad (MQ below (QI D cy ad r M0) args s 0 0 (AD ad)) (gs M0 g m) 5 [(0, .ref (ad g 0)), (1, .ref (ad g (3 + i)))] 0 [] := by
    intro H locs hw hS ls hl
    refine lv_iconst (v := nI 0) hx hb dX4_weight_0 (by decide) ?_
    refine lv_istore_n (lv' := [(2, .int (nI 0)), (0, .ref (ad g 0)), (1, .ref (ad g (3 + i)))]) hx hb dX4_weight_1 rfl hl (by decide) rfl (fun ls hl => ?_)
    refine lv_iconst (v := nI 0) hx hb dX4_weight_2 (by decide) ?_
    refine lv_istore_n (lv' := [(3, .int (nI 0)), (2, .int (nI 0)), (0, .ref (ad g 0)), (1, .ref (ad g (3 + i)))]) hx hb dX4_weight_3 rfl hl (by decide) rfl (fun ls hl => ?_)
    exact L4 FU (nI 0) (nI 0) h H locs hw hS ls (lv_sub hl [2, 3, 1, 0] rfl)
  exact main _ _ hw hS ls hl

theorem cf_X4_blockInTurn : cfV RX4 yX4_blockInTurn cX4_blockInTurn 3 (some .int) 0 := ⟨⟨k_437, k_438, k_3, k_439⟩, by decide +kernel⟩
def f_X4_blockInTurn_L2 (m : SM) : Nat → Int32 → Option (Int32)
  | 0, _ => none
  | n + 1, x1 => (if (m 0 2) ≤ x1 then some (-5 : Int32) else gn (m 0 2) (gd (((m 0 5) + x1) - ((m 0 5) + x1) / (m 0 2) * (m 0 2)) 8 (b1 (f_X0_unread m ((((m 0 5) + x1) - ((m 0 5) + x1) / (m 0 2) * (m 0 2)).toNatClampNeg)) fun r5 => (if r5 ≤ (nI 0) then f_X4_blockInTurn_L2 m n (x1 + (nI 1)) else some (((m 0 5) + x1) - ((m 0 5) + x1) / (m 0 2) * (m 0 2))))))
def f_X4_blockInTurn (m : SM) : Option (Int32) :=
  f_X4_blockInTurn_L2 m FU (nI 0)
set_option maxHeartbeats 4000000 in
set_option maxRecDepth 100000 in
theorem c_X4_blockInTurn {l : Launch} {D : va_G} {cy : Nat → ClassId} {ad : Nat → Nat → Nat} (hcv : CV ad) {g : Nat} (hg : g < 7) {M0 : MM} {m : SM} (hm : M0 g = m) {r : Int32} (h : f_X4_blockInTurn m = some r) : Met l yX4_blockInTurn (.code yX4_blockInTurn cX4_blockInTurn 3 (some .int) :: TB) ({ frames := 1, cells := 0, slots := 0, locals := 20 } : Room) (PW D cy ad M0 [.ref (ad g 0)]) (QI D cy ad r M0) 0 0 (AD ad) := by
  refine m_in (by decide +kernel) (Nat.le_of_ble_eq_true rfl) ?_
  intro p e s md args below meth c hC hw hS ls hl
  obtain ⟨hx, hb, hr, hml, hown, hts, hK, hlk⟩ := hC
  have hl : lv_has ls 3 [(0, .ref (ad g 0))] := hl
  rw [← gs_same hm] at hw
  have L2 : ∀ (n : Nat), ∀ (x1 : Int32), f_X4_blockInTurn_L2 m n x1 = some r → JL p l e ({ frames := 1, cells := 0, slots := 0, locals := 20 } : Room) s md args below meth c D cy ad (MQ below (QI D cy ad r M0) args s 0 0 (AD ad)) (gs M0 g m) 3 [(0, .ref (ad g 0)), (1, .int x1)] 2 [] := by
    intro n
    induction n with
    | zero =>
      intro x1 h
      cases h
    | succ n ih =>
      intro x1 h H locs hw hS ls hl
      rw [f_X4_blockInTurn_L2.eq_2] at h
      refine lv_iload_n hx hb dX4_blockInTurn_2 rfl (lv_at hl 1 rfl) ?_
      refine lv_aload_n hx hb dX4_blockInTurn_3 rfl (lv_at hl 0 rfl) ?_
      refine r_get hx hb hts hown hK hw (v_st hg (by decide)) gs_atc (E_st hg) inX4 rfl 2 (by decide) k_165 rfl rfl dX4_blockInTurn_4 ?_
      refine lv_icmp_ge (tgt := 42) hx hb dX4_blockInTurn_7 (by decide) (fun q1 => ?_) (fun q1 => ?_)
      · replace h := t_pos h q1
        refine lv_bipush (v := -5) hx hb dX4_blockInTurn_42 (by decide) ?_
        have e1 := Option.some.inj h
        exact e_i hx hb hr hlk hw hS e1 (gs_same hm) dX4_blockInTurn_44
      · replace h := t_neg h q1
        refine lv_aload_n hx hb dX4_blockInTurn_10 rfl (lv_at hl 0 rfl) ?_
        refine r_get hx hb hts hown hK hw (v_st hg (by decide)) gs_atc (E_st hg) inX4 rfl 5 (by decide) k_171 rfl rfl dX4_blockInTurn_11 ?_
        refine lv_iload_n hx hb dX4_blockInTurn_14 rfl (lv_at hl 1 rfl) ?_
        refine lv_iadd hx hb dX4_blockInTurn_15 ?_
        refine lv_aload_n hx hb dX4_blockInTurn_16 rfl (lv_at hl 0 rfl) ?_
        refine r_get hx hb hts hown hK hw (v_st hg (by decide)) gs_atc (E_st hg) inX4 rfl 2 (by decide) k_165 rfl rfl dX4_blockInTurn_17 ?_
        obtain ⟨q2, h⟩ := t_gn h
        refine lv_irem hx hb dX4_blockInTurn_20 q2 ?_
        refine lv_istore_n (lv' := [(2, .int (((m 0 5) + x1) - ((m 0 5) + x1) / (m 0 2) * (m 0 2))), (0, .ref (ad g 0)), (1, .int x1)]) hx hb dX4_blockInTurn_21 rfl hl (by decide) rfl (fun ls hl => ?_)
        refine lv_aload_n hx hb dX4_blockInTurn_22 rfl (lv_at hl 1 rfl) ?_
        refine r_get hx hb hts hown hK hw (v_st hg (by decide)) gs_atc (E_st hg) inX4 rfl 0 (by decide) k_161 rfl rfl dX4_blockInTurn_23 ?_
        refine lv_iload_n hx hb dX4_blockInTurn_26 rfl (lv_at hl 0 rfl) ?_
        obtain ⟨q3, h⟩ := t_gd h
        refine r_aald hx hb hK hw (v_st hg (by decide)) (t0 := 2) rfl (E_ba hg) (v := .ref (ad g (3 + (((m 0 5) + x1) - ((m 0 5) + x1) / (m 0 2) * (m 0 2)).toNatClampNeg))) rfl q3 dX4_blockInTurn_27 ?_
        obtain ⟨r5, y4, h⟩ := t_b1 h
        refine c_vi hx hb hml hown hts hK hw hS (fun _ h => h) (As := []) (rest := []) (c_X0_unread hcv (g := g) (hg := hg) (i := (((m 0 5) + x1) - ((m 0 5) + x1) / (m 0 2) * (m 0 2)).toNatClampNeg) (hi := (vin q3)) (M0 := gs M0 g m) (m := m) (hm := gs_at) y4) cf_X0_unread k_440 rfl rfl ⟨Nat.le_of_ble_eq_true rfl, Nat.le_of_ble_eq_true rfl⟩ (r_recv hK hw (v_bk hg (vin q3)) (E_bk hg (vin q3)) rfl) rfl hl.1 rfl (Nat.le_of_ble_eq_true rfl) ⟨Nat.le_refl _, Nat.le_refl _⟩ dX4_blockInTurn_28 (fun H locs hw hS => ?_)
        refine lv_if_le (tgt := 36) hx hb dX4_blockInTurn_31 (by decide) (fun q6 => ?_) (fun q6 => ?_)
        · replace h := t_pos h q6
          refine lv_iinc (v := (x1 + (nI 1))) (lv' := [(1, .int (x1 + (nI 1))), (2, .int (((m 0 5) + x1) - ((m 0 5) + x1) / (m 0 2) * (m 0 2))), (0, .ref (ad g 0))]) hx hb dX4_blockInTurn_36 hl (k := 2) rfl rfl (by decide) rfl (fun ls hl => ?_)
          refine lv_goto (tgt := 2) hx hb dX4_blockInTurn_39 (by decide) ?_
          exact ih (x1 + (nI 1)) h H locs hw hS ls (lv_sub hl [2, 0] rfl)
        · replace h := t_neg h q6
          refine lv_iload_n hx hb dX4_blockInTurn_34 rfl (lv_at hl 0 rfl) ?_
          have e1 := Option.some.inj h
          exact e_i hx hb hr hlk hw hS e1 (gs_same hm) dX4_blockInTurn_35
  unfold f_X4_blockInTurn at h
  have main : JL p l e ({ frames := 1, cells := 0, slots := 0, locals := 20 } : Room) s md args below meth c D cy ad (MQ below (QI D cy ad r M0) args s 0 0 (AD ad)) (gs M0 g m) 3 [(0, .ref (ad g 0))] 0 [] := by
    intro H locs hw hS ls hl
    refine lv_iconst (v := nI 0) hx hb dX4_blockInTurn_0 (by decide) ?_
    refine lv_istore_n (lv' := [(1, .int (nI 0)), (0, .ref (ad g 0))]) hx hb dX4_blockInTurn_1 rfl hl (by decide) rfl (fun ls hl => ?_)
    exact L2 FU (nI 0) h H locs hw hS ls (lv_sub hl [1, 0] rfl)
  exact main _ _ hw hS ls hl

theorem cf_X4_mostPressingBlock : cfV RX4 yX4_mostPressingBlock cX4_mostPressingBlock 6 (some .int) 0 := ⟨⟨k_442, k_443, k_3, k_444⟩, by decide +kernel⟩
def f_X4_mostPressingBlock_L65 (k7 : Int32 → Int32 → Int32 → Option (Int32)) (m : SM) (x1 : Int32) (x2 : Int32) (x3 : Int32) (s0 : Int32) : Option (Int32) :=
  (if s0 ≤ x2 then k7 x1 x2 (x3 + (nI 1)) else k7 x3 s0 (x3 + (nI 1)))
def f_X4_mostPressingBlock_L7 (m : SM) : Nat → Int32 → Int32 → Int32 → Option (Int32)
  | 0, _, _, _ => none
  | n + 1, x1, x2, x3 => (if (m 0 2) ≤ x3 then some x1 else gd x3 8 (b1 (f_X0_unread m x3.toNatClampNeg) fun r4 => (if r4 ≤ (nI 0) then f_X4_mostPressingBlock_L7 m n x1 x2 (x3 + (nI 1)) else (if (m 0 4) = (nI 1) then b1 (f_X0_unread m x3.toNatClampNeg) fun r10 => f_X4_mostPressingBlock_L65 (f_X4_mostPressingBlock_L7 m n) m x1 x2 x3 (r10 * ((m (3 + x3.toNatClampNeg) 3) - (m (3 + x3.toNatClampNeg) 2))) else b1 (f_X4_weight m x3.toNatClampNeg) fun r8 => f_X4_mostPressingBlock_L65 (f_X4_mostPressingBlock_L7 m n) m x1 x2 x3 r8))))
def f_X4_mostPressingBlock (m : SM) : Option (Int32) :=
  f_X4_mostPressingBlock_L7 m FU (-5 : Int32) (-1 : Int32) (nI 0)
set_option maxHeartbeats 4000000 in
set_option maxRecDepth 100000 in
theorem c_X4_mostPressingBlock {l : Launch} {D : va_G} {cy : Nat → ClassId} {ad : Nat → Nat → Nat} (hcv : CV ad) {g : Nat} (hg : g < 7) {M0 : MM} {m : SM} (hm : M0 g = m) {r : Int32} (h : f_X4_mostPressingBlock m = some r) : Met l yX4_mostPressingBlock (.code yX4_mostPressingBlock cX4_mostPressingBlock 6 (some .int) :: TB) ({ frames := 2, cells := 0, slots := 0, locals := 45 } : Room) (PW D cy ad M0 [.ref (ad g 0)]) (QI D cy ad r M0) 0 0 (AD ad) := by
  refine m_in (by decide +kernel) (Nat.le_of_ble_eq_true rfl) ?_
  intro p e s md args below meth c hC hw hS ls hl
  obtain ⟨hx, hb, hr, hml, hown, hts, hK, hlk⟩ := hC
  have hl : lv_has ls 6 [(0, .ref (ad g 0))] := hl
  rw [← gs_same hm] at hw
  have L65 : ∀ (k7 : Int32 → Int32 → Int32 → Option (Int32)) (hk7 : ∀ (x1 : Int32) (x2 : Int32) (x3 : Int32), k7 x1 x2 x3 = some r → JL p l e ({ frames := 2, cells := 0, slots := 0, locals := 45 } : Room) s md args below meth c D cy ad (MQ below (QI D cy ad r M0) args s 0 0 (AD ad)) (gs M0 g m) 6 [(0, .ref (ad g 0)), (1, .int x1), (2, .int x2), (3, .int x3)] 7 []), ∀ (x1 : Int32) (x2 : Int32) (x3 : Int32) (s0 : Int32), f_X4_mostPressingBlock_L65 k7 m x1 x2 x3 s0 = some r → JL p l e ({ frames := 2, cells := 0, slots := 0, locals := 45 } : Room) s md args below meth c D cy ad (MQ below (QI D cy ad r M0) args s 0 0 (AD ad)) (gs M0 g m) 6 [(0, .ref (ad g 0)), (1, .int x1), (2, .int x2), (3, .int x3)] 65 [.int s0] := by
    intro k7 hk7 x1 x2 x3 s0 h H locs hw hS ls hl
    unfold f_X4_mostPressingBlock_L65 at h
    refine lv_istore (lv' := [(5, .int s0), (0, .ref (ad g 0)), (1, .int x1), (2, .int x2), (3, .int x3)]) hx hb dX4_mostPressingBlock_65 hl (by decide) rfl (fun ls hl => ?_)
    refine lv_iload hx hb dX4_mostPressingBlock_67 (lv_at hl 0 rfl) ?_
    refine lv_iload_n hx hb dX4_mostPressingBlock_69 rfl (lv_at hl 3 rfl) ?_
    refine lv_icmp_le (tgt := 78) hx hb dX4_mostPressingBlock_70 (by decide) (fun q1 => ?_) (fun q1 => ?_)
    · replace h := t_pos h q1
      refine lv_iinc (v := (x3 + (nI 1))) (lv' := [(3, .int (x3 + (nI 1))), (5, .int s0), (0, .ref (ad g 0)), (1, .int x1), (2, .int x2)]) hx hb dX4_mostPressingBlock_78 hl (k := 4) rfl rfl (by decide) rfl (fun ls hl => ?_)
      refine lv_goto (tgt := 7) hx hb dX4_mostPressingBlock_81 (by decide) ?_
      exact hk7 x1 x2 (x3 + (nI 1)) h H locs hw hS ls (lv_sub hl [2, 3, 4, 0] rfl)
    · replace h := t_neg h q1
      refine lv_iload_n hx hb dX4_mostPressingBlock_73 rfl (lv_at hl 4 rfl) ?_
      refine lv_istore_n (lv' := [(1, .int x3), (5, .int s0), (0, .ref (ad g 0)), (2, .int x2), (3, .int x3)]) hx hb dX4_mostPressingBlock_74 rfl hl (by decide) rfl (fun ls hl => ?_)
      refine lv_iload hx hb dX4_mostPressingBlock_75 (lv_at hl 1 rfl) ?_
      refine lv_istore_n (lv' := [(2, .int s0), (1, .int x3), (5, .int s0), (0, .ref (ad g 0)), (3, .int x3)]) hx hb dX4_mostPressingBlock_77 rfl hl (by decide) rfl (fun ls hl => ?_)
      refine lv_iinc (v := (x3 + (nI 1))) (lv' := [(3, .int (x3 + (nI 1))), (2, .int s0), (1, .int x3), (5, .int s0), (0, .ref (ad g 0))]) hx hb dX4_mostPressingBlock_78 hl (k := 4) rfl rfl (by decide) rfl (fun ls hl => ?_)
      refine lv_goto (tgt := 7) hx hb dX4_mostPressingBlock_81 (by decide) ?_
      exact hk7 x3 s0 (x3 + (nI 1)) h H locs hw hS ls (lv_sub hl [4, 2, 1, 0] rfl)
  have L7 : ∀ (n : Nat), ∀ (x1 : Int32) (x2 : Int32) (x3 : Int32), f_X4_mostPressingBlock_L7 m n x1 x2 x3 = some r → JL p l e ({ frames := 2, cells := 0, slots := 0, locals := 45 } : Room) s md args below meth c D cy ad (MQ below (QI D cy ad r M0) args s 0 0 (AD ad)) (gs M0 g m) 6 [(0, .ref (ad g 0)), (1, .int x1), (2, .int x2), (3, .int x3)] 7 [] := by
    intro n
    induction n with
    | zero =>
      intro x1 x2 x3 h
      cases h
    | succ n ih =>
      intro x1 x2 x3 h H locs hw hS ls hl
      rw [f_X4_mostPressingBlock_L7.eq_2] at h
      refine lv_iload_n hx hb dX4_mostPressingBlock_7 rfl (lv_at hl 3 rfl) ?_
      refine lv_aload_n hx hb dX4_mostPressingBlock_8 rfl (lv_at hl 0 rfl) ?_
      refine r_get hx hb hts hown hK hw (v_st hg (by decide)) gs_atc (E_st hg) inX4 rfl 2 (by decide) k_165 rfl rfl dX4_mostPressingBlock_9 ?_
      refine lv_icmp_ge (tgt := 84) hx hb dX4_mostPressingBlock_12 (by decide) (fun q1 => ?_) (fun q1 => ?_)
      · replace h := t_pos h q1
        refine lv_iload_n hx hb dX4_mostPressingBlock_84 rfl (lv_at hl 1 rfl) ?_
        have e1 := Option.some.inj h
        exact e_i hx hb hr hlk hw hS e1 (gs_same hm) dX4_mostPressingBlock_85
      · replace h := t_neg h q1
        refine lv_aload_n hx hb dX4_mostPressingBlock_15 rfl (lv_at hl 0 rfl) ?_
        refine r_get hx hb hts hown hK hw (v_st hg (by decide)) gs_atc (E_st hg) inX4 rfl 0 (by decide) k_161 rfl rfl dX4_mostPressingBlock_16 ?_
        refine lv_iload_n hx hb dX4_mostPressingBlock_19 rfl (lv_at hl 3 rfl) ?_
        obtain ⟨q2, h⟩ := t_gd h
        refine r_aald hx hb hK hw (v_st hg (by decide)) (t0 := 2) rfl (E_ba hg) (v := .ref (ad g (3 + x3.toNatClampNeg))) rfl q2 dX4_mostPressingBlock_20 ?_
        refine lv_astore (lv' := [(4, .ref (ad g (3 + x3.toNatClampNeg))), (0, .ref (ad g 0)), (1, .int x1), (2, .int x2), (3, .int x3)]) hx hb dX4_mostPressingBlock_21 hl (by decide) rfl (fun ls hl => ?_)
        refine lv_aload hx hb dX4_mostPressingBlock_23 (lv_at hl 0 rfl) ?_
        obtain ⟨r4, y3, h⟩ := t_b1 h
        refine c_vi hx hb hml hown hts hK hw hS (fun _ h => h) (As := []) (rest := []) (c_X0_unread hcv (g := g) (hg := hg) (i := x3.toNatClampNeg) (hi := (vin q2)) (M0 := gs M0 g m) (m := m) (hm := gs_at) y3) cf_X0_unread k_440 rfl rfl ⟨Nat.le_of_ble_eq_true rfl, Nat.le_of_ble_eq_true rfl⟩ (r_recv hK hw (v_bk hg (vin q2)) (E_bk hg (vin q2)) rfl) rfl hl.1 rfl (Nat.le_of_ble_eq_true rfl) ⟨Nat.le_refl _, Nat.le_refl _⟩ dX4_mostPressingBlock_25 (fun H locs hw hS => ?_)
        refine lv_if_le (tgt := 78) hx hb dX4_mostPressingBlock_28 (by decide) (fun q5 => ?_) (fun q5 => ?_)
        · replace h := t_pos h q5
          refine lv_iinc (v := (x3 + (nI 1))) (lv' := [(3, .int (x3 + (nI 1))), (4, .ref (ad g (3 + x3.toNatClampNeg))), (0, .ref (ad g 0)), (1, .int x1), (2, .int x2)]) hx hb dX4_mostPressingBlock_78 hl (k := 4) rfl rfl (by decide) rfl (fun ls hl => ?_)
          refine lv_goto (tgt := 7) hx hb dX4_mostPressingBlock_81 (by decide) ?_
          exact ih x1 x2 (x3 + (nI 1)) h H locs hw hS ls (lv_sub hl [2, 3, 4, 0] rfl)
        · replace h := t_neg h q5
          refine lv_aload_n hx hb dX4_mostPressingBlock_31 rfl (lv_at hl 1 rfl) ?_
          refine r_get hx hb hts hown hK hw (v_st hg (by decide)) gs_atc (E_st hg) inX4 rfl 4 (by decide) k_169 rfl rfl dX4_mostPressingBlock_32 ?_
          refine lv_iconst (v := nI 1) hx hb dX4_mostPressingBlock_35 (by decide) ?_
          refine lv_icmp_ne (tgt := 59) hx hb dX4_mostPressingBlock_36 (by decide) (fun q6 => ?_) (fun q6 => ?_)
          · replace h := t_neg h q6
            refine lv_aload_n hx hb dX4_mostPressingBlock_59 rfl (lv_at hl 1 rfl) ?_
            refine lv_aload hx hb dX4_mostPressingBlock_60 (lv_at hl 0 rfl) ?_
            obtain ⟨r8, y7, h⟩ := t_b1 h
            refine c_vi hx hb hml hown hts hK hw hS (fun _ h => h) (As := [.ref (ad g (3 + x3.toNatClampNeg))]) (rest := []) (c_X4_weight hcv (g := g) (hg := hg) (i := x3.toNatClampNeg) (hi := (vin q2)) (M0 := gs M0 g m) (m := m) (hm := gs_at) y7) cf_X4_weight k_445 rfl rfl ⟨Nat.le_of_ble_eq_true rfl, Nat.le_of_ble_eq_true rfl⟩ (r_recv hK hw (v_st hg (by decide)) (E_st hg) rfl) rfl hl.1 rfl (Nat.le_of_ble_eq_true rfl) ⟨Nat.le_refl _, Nat.le_refl _⟩ dX4_mostPressingBlock_62 (fun H locs hw hS => ?_)
            exact L65 (f_X4_mostPressingBlock_L7 m n) ih x1 x2 x3 r8 h H locs hw hS ls (lv_sub hl [1, 2, 3, 4] rfl)
          · replace h := t_pos h q6
            refine lv_aload hx hb dX4_mostPressingBlock_39 (lv_at hl 0 rfl) ?_
            obtain ⟨r10, y9, h⟩ := t_b1 h
            refine c_vi hx hb hml hown hts hK hw hS (fun _ h => h) (As := []) (rest := []) (c_X0_unread hcv (g := g) (hg := hg) (i := x3.toNatClampNeg) (hi := (vin q2)) (M0 := gs M0 g m) (m := m) (hm := gs_at) y9) cf_X0_unread k_440 rfl rfl ⟨Nat.le_of_ble_eq_true rfl, Nat.le_of_ble_eq_true rfl⟩ (r_recv hK hw (v_bk hg (vin q2)) (E_bk hg (vin q2)) rfl) rfl hl.1 rfl (Nat.le_of_ble_eq_true rfl) ⟨Nat.le_refl _, Nat.le_refl _⟩ dX4_mostPressingBlock_41 (fun H locs hw hS => ?_)
            refine lv_aload hx hb dX4_mostPressingBlock_44 (lv_at hl 0 rfl) ?_
            refine r_get hx hb hts hown hK hw (v_bk hg (vin q2)) gs_atc (E_bk hg (vin q2)) inX0 rfl 3 (by decide) k_85 rfl rfl dX4_mostPressingBlock_46 ?_
            refine lv_aload hx hb dX4_mostPressingBlock_49 (lv_at hl 0 rfl) ?_
            refine r_get hx hb hts hown hK hw (v_bk hg (vin q2)) gs_atc (E_bk hg (vin q2)) inX0 rfl 2 (by decide) k_81 rfl rfl dX4_mostPressingBlock_51 ?_
            refine lv_isub hx hb dX4_mostPressingBlock_54 ?_
            refine lv_imul hx hb dX4_mostPressingBlock_55 ?_
            refine lv_goto (tgt := 65) hx hb dX4_mostPressingBlock_56 (by decide) ?_
            exact L65 (f_X4_mostPressingBlock_L7 m n) ih x1 x2 x3 (r10 * ((m (3 + x3.toNatClampNeg) 3) - (m (3 + x3.toNatClampNeg) 2))) h H locs hw hS ls (lv_sub hl [1, 2, 3, 4] rfl)
  unfold f_X4_mostPressingBlock at h
  have main : JL p l e ({ frames := 2, cells := 0, slots := 0, locals := 45 } : Room) s md args below meth c D cy ad (MQ below (QI D cy ad r M0) args s 0 0 (AD ad)) (gs M0 g m) 6 [(0, .ref (ad g 0))] 0 [] := by
    intro H locs hw hS ls hl
    refine lv_bipush (v := -5) hx hb dX4_mostPressingBlock_0 (by decide) ?_
    refine lv_istore_n (lv' := [(1, .int (-5 : Int32)), (0, .ref (ad g 0))]) hx hb dX4_mostPressingBlock_2 rfl hl (by decide) rfl (fun ls hl => ?_)
    refine lv_iconst (v := -1) hx hb dX4_mostPressingBlock_3 (by decide) ?_
    refine lv_istore_n (lv' := [(2, .int (-1 : Int32)), (1, .int (-5 : Int32)), (0, .ref (ad g 0))]) hx hb dX4_mostPressingBlock_4 rfl hl (by decide) rfl (fun ls hl => ?_)
    refine lv_iconst (v := nI 0) hx hb dX4_mostPressingBlock_5 (by decide) ?_
    refine lv_istore_n (lv' := [(3, .int (nI 0)), (2, .int (-1 : Int32)), (1, .int (-5 : Int32)), (0, .ref (ad g 0))]) hx hb dX4_mostPressingBlock_6 rfl hl (by decide) rfl (fun ls hl => ?_)
    exact L7 FU (-5 : Int32) (-1 : Int32) (nI 0) h H locs hw hS ls (lv_sub hl [3, 2, 1, 0] rfl)
  exact main _ _ hw hS ls hl

theorem cf_X4_nextBlock : cfV RX4 yX4_nextBlock cX4_nextBlock 1 (some .int) 0 := ⟨⟨k_433, k_434, k_3, k_435⟩, by decide +kernel⟩
def f_X4_nextBlock (m : SM) : Option (Int32) :=
  (if (m 0 4) = (nI 0) then b1 (f_X4_blockInTurn m) fun r5 => some r5 else b1 (f_X4_mostPressingBlock m) fun r3 => some r3)
set_option maxHeartbeats 4000000 in
set_option maxRecDepth 100000 in
theorem c_X4_nextBlock {l : Launch} {D : va_G} {cy : Nat → ClassId} {ad : Nat → Nat → Nat} (hcv : CV ad) {g : Nat} (hg : g < 7) {M0 : MM} {m : SM} (hm : M0 g = m) {r : Int32} (h : f_X4_nextBlock m = some r) : Met l yX4_nextBlock (.code yX4_nextBlock cX4_nextBlock 1 (some .int) :: TB) ({ frames := 3, cells := 0, slots := 0, locals := 70 } : Room) (PW D cy ad M0 [.ref (ad g 0)]) (QI D cy ad r M0) 0 0 (AD ad) := by
  refine m_in (by decide +kernel) (Nat.le_of_ble_eq_true rfl) ?_
  intro p e s md args below meth c hC hw hS ls hl
  obtain ⟨hx, hb, hr, hml, hown, hts, hK, hlk⟩ := hC
  have hl : lv_has ls 1 [(0, .ref (ad g 0))] := hl
  rw [← gs_same hm] at hw
  unfold f_X4_nextBlock at h
  have main : JL p l e ({ frames := 3, cells := 0, slots := 0, locals := 70 } : Room) s md args below meth c D cy ad (MQ below (QI D cy ad r M0) args s 0 0 (AD ad)) (gs M0 g m) 1 [(0, .ref (ad g 0))] 0 [] := by
    intro H locs hw hS ls hl
    refine lv_aload_n hx hb dX4_nextBlock_0 rfl (lv_at hl 0 rfl) ?_
    refine r_get hx hb hts hown hK hw (v_st hg (by decide)) gs_atc (E_st hg) inX4 rfl 4 (by decide) k_169 rfl rfl dX4_nextBlock_1 ?_
    refine lv_if_ne (tgt := 14) hx hb dX4_nextBlock_4 (by decide) (fun q1 => ?_) (fun q1 => ?_)
    · replace h := t_neg h q1
      refine lv_aload_n hx hb dX4_nextBlock_14 rfl (lv_at hl 0 rfl) ?_
      obtain ⟨r3, y2, h⟩ := t_b1 h
      refine c_vi hx hb hml hown hts hK hw hS (fun _ h => h) (As := []) (rest := []) (c_X4_mostPressingBlock hcv (g := g) (hg := hg) (M0 := gs M0 g m) (m := m) (hm := gs_at) y2) cf_X4_mostPressingBlock k_441 rfl rfl ⟨Nat.le_of_ble_eq_true rfl, Nat.le_of_ble_eq_true rfl⟩ (r_recv hK hw (v_st hg (by decide)) (E_st hg) rfl) rfl hl.1 rfl (Nat.le_of_ble_eq_true rfl) ⟨Nat.le_refl _, Nat.le_refl _⟩ dX4_nextBlock_15 (fun H locs hw hS => ?_)
      have e1 := Option.some.inj h
      exact e_i hx hb hr hlk hw hS e1 (gs_same hm) dX4_nextBlock_18
    · replace h := t_pos h q1
      refine lv_aload_n hx hb dX4_nextBlock_7 rfl (lv_at hl 0 rfl) ?_
      obtain ⟨r5, y4, h⟩ := t_b1 h
      refine c_vi hx hb hml hown hts hK hw hS (fun _ h => h) (As := []) (rest := []) (c_X4_blockInTurn hcv (g := g) (hg := hg) (M0 := gs M0 g m) (m := m) (hm := gs_at) y4) cf_X4_blockInTurn k_436 rfl rfl ⟨Nat.le_of_ble_eq_true rfl, Nat.le_of_ble_eq_true rfl⟩ (r_recv hK hw (v_st hg (by decide)) (E_st hg) rfl) rfl hl.1 rfl (Nat.le_of_ble_eq_true rfl) ⟨Nat.le_refl _, Nat.le_refl _⟩ dX4_nextBlock_8 (fun H locs hw hS => ?_)
      refine lv_goto (tgt := 18) hx hb dX4_nextBlock_11 (by decide) ?_
      have e1 := Option.some.inj h
      exact e_i hx hb hr hlk hw hS e1 (gs_same hm) dX4_nextBlock_18
  exact main _ _ hw hS ls hl

theorem cf_X4_readByPlan : cfV RX4 yX4_readByPlan cX4_readByPlan 2 (some .boolean) 0 := ⟨⟨k_454, k_455, k_3, k_456⟩, by decide +kernel⟩
def f_X4_readByPlan_L50 (m : SM) (s1 : Int32) : Option (Int32 × SM) :=
  lt1 (up m 0 5 s1) fun m2 => bd (f_X4_settle m2) fun r4 m5 => some ((nI 1), m5)
def f_X4_readByPlan (m : SM) : Option (Int32 × SM) :=
  b1 (f_X4_nextBlock m) fun r2 => b1 (f_X4_hasBlock m r2) fun r4 => (if r4 = (nI 0) then some ((nI 0), m) else gd r2 8 (bd (f_X0_readRow m r2.toNatClampNeg) fun r8 m9 => (if (m9 0 4) = (nI 0) then (if (m9 0 2) ≤ (r2 + (nI 1)) then f_X4_readByPlan_L50 m9 (nI 0) else f_X4_readByPlan_L50 m9 (r2 + (nI 1))) else bd (f_X4_settle m9) fun r12 m13 => some ((nI 1), m13))))
set_option maxHeartbeats 4000000 in
set_option maxRecDepth 100000 in
theorem c_X4_readByPlan {l : Launch} {D : va_G} {cy : Nat → ClassId} {ad : Nat → Nat → Nat} (hcv : CV ad) {g : Nat} (hg : g < 7) {M0 : MM} {m : SM} (hm : M0 g = m) {r : Int32} {x : SM} (h : f_X4_readByPlan m = some (r, x)) : Met l yX4_readByPlan (.code yX4_readByPlan cX4_readByPlan 2 (some .boolean) :: TB) ({ frames := 4, cells := 0, slots := 0, locals := 98 } : Room) (PW D cy ad M0 [.ref (ad g 0)]) (QI D cy ad r (gs M0 g x)) 0 0 (AD ad) := by
  refine m_in (by decide +kernel) (Nat.le_of_ble_eq_true rfl) ?_
  intro p e s md args below meth c hC hw hS ls hl
  obtain ⟨hx, hb, hr, hml, hown, hts, hK, hlk⟩ := hC
  have hl : lv_has ls 2 [(0, .ref (ad g 0))] := hl
  rw [← gs_same hm] at hw
  have L50 : ∀ (m : SM) (s1 : Int32), f_X4_readByPlan_L50 m s1 = some (r, x) → JL p l e ({ frames := 4, cells := 0, slots := 0, locals := 98 } : Room) s md args below meth c D cy ad (MQ below (QI D cy ad r (gs M0 g x)) args s 0 0 (AD ad)) (gs M0 g m) 2 [(0, .ref (ad g 0))] 50 [.int s1, .ref (ad g 0)] := by
    intro m s1 h H locs hw hS ls hl
    unfold f_X4_readByPlan_L50 at h
    obtain ⟨m2, e1, h⟩ := t_lt h
    refine r_put hx hb hts hown hK hcv hw hS (v_st hg (by decide)) gs_atc (E_st hg) inX4 rfl tyX4 tyX4_ok nmX4 5 (by decide) k_171 rfl rfl rfl rfl (Nat.le_of_ble_eq_true rfl) (E_st hg) (gs_up e1) dX4_readByPlan_50 (fun H locs hw hS => ?_)
    refine lv_aload_n hx hb dX4_readByPlan_53 rfl (lv_at hl 0 rfl) ?_
    obtain ⟨r4, m5, y3, h⟩ := t_bd h
    refine c_vv hx hb hml hown hts hK hw hS (fun _ h => h) (As := []) (rest := []) (c_X4_settle hcv (g := g) (hg := hg) (M0 := gs M0 g m2) (m := m2) (hm := gs_at) y3) cf_X4_settle k_459 rfl rfl ⟨Nat.le_of_ble_eq_true rfl, Nat.le_of_ble_eq_true rfl⟩ (r_recv hK hw (v_st hg (by decide)) (E_st hg) rfl) rfl hl.1 rfl (Nat.le_of_ble_eq_true rfl) ⟨Nat.le_refl _, Nat.le_refl _⟩ dX4_readByPlan_54 (fun H locs hw hS => ?_)
    rw [gs_gs] at hw
    refine lv_iconst (v := nI 1) hx hb dX4_readByPlan_57 (by decide) ?_
    have e1 := (t_ret h).1
    have e2 := (t_ret h).2
    exact e_z hx hb hr hlk (Or.inr rfl) hw hS e1 (by rw [e2]) dX4_readByPlan_58
  unfold f_X4_readByPlan at h
  have main : JL p l e ({ frames := 4, cells := 0, slots := 0, locals := 98 } : Room) s md args below meth c D cy ad (MQ below (QI D cy ad r (gs M0 g x)) args s 0 0 (AD ad)) (gs M0 g m) 2 [(0, .ref (ad g 0))] 0 [] := by
    intro H locs hw hS ls hl
    refine lv_aload_n hx hb dX4_readByPlan_0 rfl (lv_at hl 0 rfl) ?_
    obtain ⟨r2, y1, h⟩ := t_b1 h
    refine c_vi hx hb hml hown hts hK hw hS (fun _ h => h) (As := []) (rest := []) (c_X4_nextBlock hcv (g := g) (hg := hg) (M0 := gs M0 g m) (m := m) (hm := gs_at) y1) cf_X4_nextBlock k_457 rfl rfl ⟨Nat.le_of_ble_eq_true rfl, Nat.le_of_ble_eq_true rfl⟩ (r_recv hK hw (v_st hg (by decide)) (E_st hg) rfl) rfl hl.1 rfl (Nat.le_of_ble_eq_true rfl) ⟨Nat.le_refl _, Nat.le_refl _⟩ dX4_readByPlan_1 (fun H locs hw hS => ?_)
    refine lv_istore_n (lv' := [(1, .int r2), (0, .ref (ad g 0))]) hx hb dX4_readByPlan_4 rfl hl (by decide) rfl (fun ls hl => ?_)
    refine lv_aload_n hx hb dX4_readByPlan_5 rfl (lv_at hl 1 rfl) ?_
    refine lv_iload_n hx hb dX4_readByPlan_6 rfl (lv_at hl 0 rfl) ?_
    obtain ⟨r4, y3, h⟩ := t_b1 h
    refine c_vi hx hb hml hown hts hK hw hS (fun _ h => h) (As := [.int r2]) (rest := []) (c_X4_hasBlock hcv (g := g) (hg := hg) (M0 := gs M0 g m) (m := m) (hm := gs_at) y3) cf_X4_hasBlock k_360 rfl rfl ⟨Nat.le_of_ble_eq_true rfl, Nat.le_of_ble_eq_true rfl⟩ (r_recv hK hw (v_st hg (by decide)) (E_st hg) rfl) rfl hl.1 rfl (Nat.le_of_ble_eq_true rfl) ⟨Nat.le_refl _, Nat.le_refl _⟩ dX4_readByPlan_7 (fun H locs hw hS => ?_)
    refine lv_if_ne (tgt := 15) hx hb dX4_readByPlan_10 (by decide) (fun q5 => ?_) (fun q5 => ?_)
    · replace h := t_neg h q5
      refine lv_aload_n hx hb dX4_readByPlan_15 rfl (lv_at hl 1 rfl) ?_
      refine r_get hx hb hts hown hK hw (v_st hg (by decide)) gs_atc (E_st hg) inX4 rfl 0 (by decide) k_161 rfl rfl dX4_readByPlan_16 ?_
      refine lv_iload_n hx hb dX4_readByPlan_19 rfl (lv_at hl 0 rfl) ?_
      obtain ⟨q6, h⟩ := t_gd h
      refine r_aald hx hb hK hw (v_st hg (by decide)) (t0 := 2) rfl (E_ba hg) (v := .ref (ad g (3 + r2.toNatClampNeg))) rfl q6 dX4_readByPlan_20 ?_
      obtain ⟨r8, m9, y7, h⟩ := t_bd h
      refine c_vi hx hb hml hown hts hK hw hS (fun _ h => h) (As := []) (rest := []) (c_X0_readRow hcv (g := g) (hg := hg) (i := r2.toNatClampNeg) (hi := (vin q6)) (M0 := gs M0 g m) (m := m) (hm := gs_at) y7) cf_X0_readRow k_458 rfl rfl ⟨Nat.le_of_ble_eq_true rfl, Nat.le_of_ble_eq_true rfl⟩ (r_recv hK hw (v_bk hg (vin q6)) (E_bk hg (vin q6)) rfl) rfl hl.1 rfl (Nat.le_of_ble_eq_true rfl) ⟨Nat.le_refl _, Nat.le_refl _⟩ dX4_readByPlan_21 (fun H locs hw hS => ?_)
      rw [gs_gs] at hw
      refine lv_pop hx hb dX4_readByPlan_24 rfl ?_
      refine lv_aload_n hx hb dX4_readByPlan_25 rfl (lv_at hl 1 rfl) ?_
      refine r_get hx hb hts hown hK hw (v_st hg (by decide)) gs_atc (E_st hg) inX4 rfl 4 (by decide) k_169 rfl rfl dX4_readByPlan_26 ?_
      refine lv_if_ne (tgt := 53) hx hb dX4_readByPlan_29 (by decide) (fun q10 => ?_) (fun q10 => ?_)
      · replace h := t_neg h q10
        refine lv_aload_n hx hb dX4_readByPlan_53 rfl (lv_at hl 1 rfl) ?_
        obtain ⟨r12, m13, y11, h⟩ := t_bd h
        refine c_vv hx hb hml hown hts hK hw hS (fun _ h => h) (As := []) (rest := []) (c_X4_settle hcv (g := g) (hg := hg) (M0 := gs M0 g m9) (m := m9) (hm := gs_at) y11) cf_X4_settle k_459 rfl rfl ⟨Nat.le_of_ble_eq_true rfl, Nat.le_of_ble_eq_true rfl⟩ (r_recv hK hw (v_st hg (by decide)) (E_st hg) rfl) rfl hl.1 rfl (Nat.le_of_ble_eq_true rfl) ⟨Nat.le_refl _, Nat.le_refl _⟩ dX4_readByPlan_54 (fun H locs hw hS => ?_)
        rw [gs_gs] at hw
        refine lv_iconst (v := nI 1) hx hb dX4_readByPlan_57 (by decide) ?_
        have e1 := (t_ret h).1
        have e2 := (t_ret h).2
        exact e_z hx hb hr hlk (Or.inr rfl) hw hS e1 (by rw [e2]) dX4_readByPlan_58
      · replace h := t_pos h q10
        refine lv_aload_n hx hb dX4_readByPlan_32 rfl (lv_at hl 1 rfl) ?_
        refine lv_iload_n hx hb dX4_readByPlan_33 rfl (lv_at hl 0 rfl) ?_
        refine lv_iconst (v := nI 1) hx hb dX4_readByPlan_34 (by decide) ?_
        refine lv_iadd hx hb dX4_readByPlan_35 ?_
        refine lv_aload_n hx hb dX4_readByPlan_36 rfl (lv_at hl 1 rfl) ?_
        refine r_get hx hb hts hown hK hw (v_st hg (by decide)) gs_atc (E_st hg) inX4 rfl 2 (by decide) k_165 rfl rfl dX4_readByPlan_37 ?_
        refine lv_icmp_ge (tgt := 49) hx hb dX4_readByPlan_40 (by decide) (fun q14 => ?_) (fun q14 => ?_)
        · replace h := t_pos h q14
          refine lv_iconst (v := nI 0) hx hb dX4_readByPlan_49 (by decide) ?_
          exact L50 m9 (nI 0) h H locs hw hS ls (lv_sub hl [1] rfl)
        · replace h := t_neg h q14
          refine lv_iload_n hx hb dX4_readByPlan_43 rfl (lv_at hl 0 rfl) ?_
          refine lv_iconst (v := nI 1) hx hb dX4_readByPlan_44 (by decide) ?_
          refine lv_iadd hx hb dX4_readByPlan_45 ?_
          refine lv_goto (tgt := 50) hx hb dX4_readByPlan_46 (by decide) ?_
          exact L50 m9 (r2 + (nI 1)) h H locs hw hS ls (lv_sub hl [1] rfl)
    · replace h := t_pos h q5
      refine lv_iconst (v := nI 0) hx hb dX4_readByPlan_13 (by decide) ?_
      have e1 := (t_ret h).1
      have e2 := (t_ret h).2
      exact e_z hx hb hr hlk (Or.inl rfl) hw hS e1 (by rw [e2]) dX4_readByPlan_14
  exact main _ _ hw hS ls hl

theorem cf_X4_readWhileOpen : cfV RX4 yX4_readWhileOpen cX4_readWhileOpen 3 (some .int) 0 := ⟨⟨k_469, k_470, k_3, k_471⟩, by decide +kernel⟩
def f_X4_readWhileOpen_L4 : Nat → SM → Int32 → Int32 → Option (Int32 × SM)
  | 0, _, _, _ => none
  | n + 1, m, x1, x2 => (if (nI 128) ≤ x2 then some (x1, m) else b1 (f_X4_openQuestions m) fun r3 => (if r3 = (nI 0) then some (x1, m) else bd (f_X4_readByPlan m) fun r6 m7 => (if r6 = (nI 0) then some (x1, m7) else f_X4_readWhileOpen_L4 n m7 (x1 + (nI 1)) (x2 + (nI 1)))))
def f_X4_readWhileOpen (m : SM) : Option (Int32 × SM) :=
  f_X4_readWhileOpen_L4 FU m (nI 0) (nI 0)
set_option maxHeartbeats 4000000 in
set_option maxRecDepth 100000 in
theorem c_X4_readWhileOpen {l : Launch} {D : va_G} {cy : Nat → ClassId} {ad : Nat → Nat → Nat} (hcv : CV ad) {g : Nat} (hg : g < 7) {M0 : MM} {m : SM} (hm : M0 g = m) {r : Int32} {x : SM} (h : f_X4_readWhileOpen m = some (r, x)) : Met l yX4_readWhileOpen (.code yX4_readWhileOpen cX4_readWhileOpen 3 (some .int) :: TB) ({ frames := 5, cells := 0, slots := 0, locals := 119 } : Room) (PW D cy ad M0 [.ref (ad g 0)]) (QI D cy ad r (gs M0 g x)) 0 0 (AD ad) := by
  refine m_in (by decide +kernel) (Nat.le_of_ble_eq_true rfl) ?_
  intro p e s md args below meth c hC hw hS ls hl
  obtain ⟨hx, hb, hr, hml, hown, hts, hK, hlk⟩ := hC
  have hl : lv_has ls 3 [(0, .ref (ad g 0))] := hl
  rw [← gs_same hm] at hw
  have L4 : ∀ (n : Nat), ∀ (m : SM) (x1 : Int32) (x2 : Int32), f_X4_readWhileOpen_L4 n m x1 x2 = some (r, x) → JL p l e ({ frames := 5, cells := 0, slots := 0, locals := 119 } : Room) s md args below meth c D cy ad (MQ below (QI D cy ad r (gs M0 g x)) args s 0 0 (AD ad)) (gs M0 g m) 3 [(0, .ref (ad g 0)), (1, .int x1), (2, .int x2)] 4 [] := by
    intro n
    induction n with
    | zero =>
      intro m x1 x2 h
      cases h
    | succ n ih =>
      intro m x1 x2 h H locs hw hS ls hl
      rw [f_X4_readWhileOpen_L4.eq_2] at h
      refine lv_iload_n hx hb dX4_readWhileOpen_4 rfl (lv_at hl 2 rfl) ?_
      refine lv_sipush (v := nI 128) hx hb dX4_readWhileOpen_5 (by decide) ?_
      refine lv_icmp_ge (tgt := 37) hx hb dX4_readWhileOpen_8 (by decide) (fun q1 => ?_) (fun q1 => ?_)
      · replace h := t_pos h q1
        refine lv_iload_n hx hb dX4_readWhileOpen_37 rfl (lv_at hl 1 rfl) ?_
        have e1 := (t_ret h).1
        have e2 := (t_ret h).2
        exact e_i hx hb hr hlk hw hS e1 (by rw [e2]) dX4_readWhileOpen_38
      · replace h := t_neg h q1
        refine lv_aload_n hx hb dX4_readWhileOpen_11 rfl (lv_at hl 0 rfl) ?_
        obtain ⟨r3, y2, h⟩ := t_b1 h
        refine c_vi hx hb hml hown hts hK hw hS (fun _ h => h) (As := []) (rest := []) (c_X4_openQuestions hcv (g := g) (hg := hg) (M0 := gs M0 g m) (m := m) (hm := gs_at) y2) cf_X4_openQuestions k_472 rfl rfl ⟨Nat.le_of_ble_eq_true rfl, Nat.le_of_ble_eq_true rfl⟩ (r_recv hK hw (v_st hg (by decide)) (E_st hg) rfl) rfl hl.1 rfl (Nat.le_of_ble_eq_true rfl) ⟨Nat.le_refl _, Nat.le_refl _⟩ dX4_readWhileOpen_12 (fun H locs hw hS => ?_)
        refine lv_if_eq (tgt := 37) hx hb dX4_readWhileOpen_15 (by decide) (fun q4 => ?_) (fun q4 => ?_)
        · replace h := t_pos h q4
          refine lv_iload_n hx hb dX4_readWhileOpen_37 rfl (lv_at hl 1 rfl) ?_
          have e1 := (t_ret h).1
          have e2 := (t_ret h).2
          exact e_i hx hb hr hlk hw hS e1 (by rw [e2]) dX4_readWhileOpen_38
        · replace h := t_neg h q4
          refine lv_aload_n hx hb dX4_readWhileOpen_18 rfl (lv_at hl 0 rfl) ?_
          obtain ⟨r6, m7, y5, h⟩ := t_bd h
          refine c_vi hx hb hml hown hts hK hw hS (fun _ h => h) (As := []) (rest := []) (c_X4_readByPlan hcv (g := g) (hg := hg) (M0 := gs M0 g m) (m := m) (hm := gs_at) y5) cf_X4_readByPlan k_473 rfl rfl ⟨Nat.le_of_ble_eq_true rfl, Nat.le_of_ble_eq_true rfl⟩ (r_recv hK hw (v_st hg (by decide)) (E_st hg) rfl) rfl hl.1 rfl (Nat.le_of_ble_eq_true rfl) ⟨Nat.le_refl _, Nat.le_refl _⟩ dX4_readWhileOpen_19 (fun H locs hw hS => ?_)
          rw [gs_gs] at hw
          refine lv_if_ne (tgt := 28) hx hb dX4_readWhileOpen_22 (by decide) (fun q8 => ?_) (fun q8 => ?_)
          · replace h := t_neg h q8
            refine lv_iinc (v := (x1 + (nI 1))) (lv' := [(1, .int (x1 + (nI 1))), (0, .ref (ad g 0)), (2, .int x2)]) hx hb dX4_readWhileOpen_28 hl (k := 1) rfl rfl (by decide) rfl (fun ls hl => ?_)
            refine lv_iinc (v := (x2 + (nI 1))) (lv' := [(2, .int (x2 + (nI 1))), (1, .int (x1 + (nI 1))), (0, .ref (ad g 0))]) hx hb dX4_readWhileOpen_31 hl (k := 2) rfl rfl (by decide) rfl (fun ls hl => ?_)
            refine lv_goto (tgt := 4) hx hb dX4_readWhileOpen_34 (by decide) ?_
            exact ih m7 (x1 + (nI 1)) (x2 + (nI 1)) h H locs hw hS ls (lv_sub hl [2, 1, 0] rfl)
          · replace h := t_pos h q8
            refine lv_goto (tgt := 37) hx hb dX4_readWhileOpen_25 (by decide) ?_
            refine lv_iload_n hx hb dX4_readWhileOpen_37 rfl (lv_at hl 1 rfl) ?_
            have e1 := (t_ret h).1
            have e2 := (t_ret h).2
            exact e_i hx hb hr hlk hw hS e1 (by rw [e2]) dX4_readWhileOpen_38
  unfold f_X4_readWhileOpen at h
  have main : JL p l e ({ frames := 5, cells := 0, slots := 0, locals := 119 } : Room) s md args below meth c D cy ad (MQ below (QI D cy ad r (gs M0 g x)) args s 0 0 (AD ad)) (gs M0 g m) 3 [(0, .ref (ad g 0))] 0 [] := by
    intro H locs hw hS ls hl
    refine lv_iconst (v := nI 0) hx hb dX4_readWhileOpen_0 (by decide) ?_
    refine lv_istore_n (lv' := [(1, .int (nI 0)), (0, .ref (ad g 0))]) hx hb dX4_readWhileOpen_1 rfl hl (by decide) rfl (fun ls hl => ?_)
    refine lv_iconst (v := nI 0) hx hb dX4_readWhileOpen_2 (by decide) ?_
    refine lv_istore_n (lv' := [(2, .int (nI 0)), (1, .int (nI 0)), (0, .ref (ad g 0))]) hx hb dX4_readWhileOpen_3 rfl hl (by decide) rfl (fun ls hl => ?_)
    exact L4 FU m (nI 0) (nI 0) h H locs hw hS ls (lv_sub hl [2, 1, 0] rfl)
  exact main _ _ hw hS ls hl

theorem cf_X5_addBlock : cfV RX5 yX5_addBlock cX5_addBlock 2 (some .int) 0 := ⟨⟨k_226, k_227, k_1, k_228⟩, by decide +kernel⟩
def f_X5_addBlock (M : MM) : Option (Int32 × MM) :=
  bd (f_X1_parse (M 7)) fun r2 m3 => lt1 (gs M 7 m3) fun M4 => (if r2 = (nI 0) then some (((-100 : Int32) - (M4 7 0 3)), M4) else b1 (f_X1_isInRange (M4 7)) fun r8 => (if r8 = (nI 0) then some ((-2 : Int32), M4) else (if (M4 0 0 2) < (nI 8) then bd (f_X2_record M4) fun r12 M13 => bd (f_X4_appendBlock (M13 0) (M13 7)) fun r15 m16 => lt1 (gs M13 0 m16) fun M17 => bd (f_X4_settle (M17 0)) fun r20 m21 => lt1 (gs M17 0 m21) fun M22 => some (r15, M22) else some ((-3 : Int32), M4))))
set_option maxHeartbeats 4000000 in
set_option maxRecDepth 100000 in
theorem c_X5_addBlock {l : Launch} {D : va_G} {cy : Nat → ClassId} {ad : Nat → Nat → Nat} (hcv : CV ad) {M : MM} {r : Int32} {x : MM} (h : f_X5_addBlock M = some (r, x)) : Met l yX5_addBlock (.code yX5_addBlock cX5_addBlock 2 (some .int) :: TB) ({ frames := 5, cells := 0, slots := 0, locals := 124 } : Room) (PW D cy ad M [.ref (ad 8 0)]) (QI D cy ad r x) 0 0 (AD ad) := by
  refine m_in (by decide +kernel) (Nat.le_of_ble_eq_true rfl) ?_
  intro p e s md args below meth c hC hw hS ls hl
  obtain ⟨hx, hb, hr, hml, hown, hts, hK, hlk⟩ := hC
  have hl : lv_has ls 2 [(0, .ref (ad 8 0))] := hl
  unfold f_X5_addBlock at h
  have main : JL p l e ({ frames := 5, cells := 0, slots := 0, locals := 124 } : Room) s md args below meth c D cy ad (MQ below (QI D cy ad r x) args s 0 0 (AD ad)) (M) 2 [(0, .ref (ad 8 0))] 0 [] := by
    intro H locs hw hS ls hl
    refine lv_aload_n hx hb dX5_addBlock_0 rfl (lv_at hl 0 rfl) ?_
    refine r_get hx hb hts hown hK hw (v_mn (by decide)) rfl E_mn inX5 rfl 0 (by decide) k_206 rfl rfl dX5_addBlock_1 ?_
    obtain ⟨r2, m3, y1, h⟩ := t_bd h
    obtain ⟨M4, e5, h⟩ := t_lt h
    refine c_vi hx hb hml hown hts hK hw hS (fun _ h => h) (As := []) (rest := []) (c_X1_parse hcv (M0 := M) (m := M 7) (hm := rfl) y1) cf_X1_parse k_229 rfl rfl ⟨Nat.le_of_ble_eq_true rfl, Nat.le_of_ble_eq_true rfl⟩ (r_recv hK hw (v_tx (by decide)) E_tx rfl) rfl hl.1 rfl (Nat.le_of_ble_eq_true rfl) ⟨Nat.le_refl _, Nat.le_refl _⟩ dX5_addBlock_4 (fun H locs hw hS => ?_)
    rw [← e5] at hw
    refine lv_if_ne (tgt := 21) hx hb dX5_addBlock_7 (by decide) (fun q6 => ?_) (fun q6 => ?_)
    · replace h := t_neg h q6
      refine lv_aload_n hx hb dX5_addBlock_21 rfl (lv_at hl 0 rfl) ?_
      refine r_get hx hb hts hown hK hw (v_mn (by decide)) rfl E_mn inX5 rfl 0 (by decide) k_206 rfl rfl dX5_addBlock_22 ?_
      obtain ⟨r8, y7, h⟩ := t_b1 h
      refine c_vi hx hb hml hown hts hK hw hS (fun _ h => h) (As := []) (rest := []) (c_X1_isInRange hcv (M0 := M4) (m := M4 7) (hm := rfl) y7) cf_X1_isInRange k_249 rfl rfl ⟨Nat.le_of_ble_eq_true rfl, Nat.le_of_ble_eq_true rfl⟩ (r_recv hK hw (v_tx (by decide)) E_tx rfl) rfl hl.1 rfl (Nat.le_of_ble_eq_true rfl) ⟨Nat.le_refl _, Nat.le_refl _⟩ dX5_addBlock_25 (fun H locs hw hS => ?_)
      refine lv_if_ne (tgt := 34) hx hb dX5_addBlock_28 (by decide) (fun q9 => ?_) (fun q9 => ?_)
      · replace h := t_neg h q9
        refine lv_aload_n hx hb dX5_addBlock_34 rfl (lv_at hl 0 rfl) ?_
        refine r_get hx hb hts hown hK hw (v_mn (by decide)) rfl E_mn inX5 rfl 1 (by decide) k_207 rfl rfl dX5_addBlock_35 ?_
        refine r_get hx hb hts hown hK hw (v_st (by decide) (by decide)) rfl (E_st (by decide)) inX4 rfl 2 (by decide) k_166 rfl rfl dX5_addBlock_38 ?_
        refine lv_bipush (v := nI 8) hx hb dX5_addBlock_41 (by decide) ?_
        refine lv_icmp_lt (tgt := 49) hx hb dX5_addBlock_43 (by decide) (fun q10 => ?_) (fun q10 => ?_)
        · replace h := t_pos h q10
          refine lv_aload_n hx hb dX5_addBlock_49 rfl (lv_at hl 0 rfl) ?_
          refine r_get hx hb hts hown hK hw (v_mn (by decide)) rfl E_mn inX5 rfl 4 (by decide) k_210 rfl rfl dX5_addBlock_50 ?_
          refine lv_aload_n hx hb dX5_addBlock_53 rfl (lv_at hl 0 rfl) ?_
          refine r_get hx hb hts hown hK hw (v_mn (by decide)) rfl E_mn inX5 rfl 1 (by decide) k_207 rfl rfl dX5_addBlock_54 ?_
          obtain ⟨r12, M13, y11, h⟩ := t_bd h
          refine c_vv hx hb hml hown hts hK hw hS (fun _ h => h) (As := [.ref (ad 0 0)]) (rest := []) (c_X2_record hcv (M := M4) y11) cf_X2_record k_256 rfl rfl ⟨Nat.le_of_ble_eq_true rfl, Nat.le_of_ble_eq_true rfl⟩ (r_recv hK hw (v_mn (by decide)) E_hi rfl) rfl hl.1 rfl (Nat.le_of_ble_eq_true rfl) ⟨Nat.le_refl _, Nat.le_refl _⟩ dX5_addBlock_57 (fun H locs hw hS => ?_)
          refine lv_aload_n hx hb dX5_addBlock_60 rfl (lv_at hl 0 rfl) ?_
          refine r_get hx hb hts hown hK hw (v_mn (by decide)) rfl E_mn inX5 rfl 1 (by decide) k_207 rfl rfl dX5_addBlock_61 ?_
          refine lv_aload_n hx hb dX5_addBlock_64 rfl (lv_at hl 0 rfl) ?_
          refine r_get hx hb hts hown hK hw (v_mn (by decide)) rfl E_mn inX5 rfl 0 (by decide) k_206 rfl rfl dX5_addBlock_65 ?_
          obtain ⟨r15, m16, y14, h⟩ := t_bd h
          obtain ⟨M17, e18, h⟩ := t_lt h
          refine c_vi hx hb hml hown hts hK hw hS (fun _ h => h) (As := [.ref (ad 7 0)]) (rest := []) (c_X4_appendBlock hcv (g := 0) (hg := (by decide)) (M0 := M13) (m := M13 0) (hm := rfl) (mz := M13 7) (hne := by omega) (hm2 := rfl) y14) cf_X4_appendBlock k_275 rfl rfl ⟨Nat.le_of_ble_eq_true rfl, Nat.le_of_ble_eq_true rfl⟩ (r_recv hK hw (v_st (by decide) (by decide)) (E_st (by decide)) rfl) rfl hl.1 rfl (Nat.le_of_ble_eq_true rfl) ⟨Nat.le_refl _, Nat.le_refl _⟩ dX5_addBlock_68 (fun H locs hw hS => ?_)
          rw [← e18] at hw
          refine lv_istore_n (lv' := [(1, .int r15), (0, .ref (ad 8 0))]) hx hb dX5_addBlock_71 rfl hl (by decide) rfl (fun ls hl => ?_)
          refine lv_aload_n hx hb dX5_addBlock_72 rfl (lv_at hl 1 rfl) ?_
          refine r_get hx hb hts hown hK hw (v_mn (by decide)) rfl E_mn inX5 rfl 1 (by decide) k_207 rfl rfl dX5_addBlock_73 ?_
          obtain ⟨r20, m21, y19, h⟩ := t_bd h
          obtain ⟨M22, e23, h⟩ := t_lt h
          refine c_vv hx hb hml hown hts hK hw hS (fun _ h => h) (As := []) (rest := []) (c_X4_settle hcv (g := 0) (hg := (by decide)) (M0 := M17) (m := M17 0) (hm := rfl) y19) cf_X4_settle k_297 rfl rfl ⟨Nat.le_of_ble_eq_true rfl, Nat.le_of_ble_eq_true rfl⟩ (r_recv hK hw (v_st (by decide) (by decide)) (E_st (by decide)) rfl) rfl hl.1 rfl (Nat.le_of_ble_eq_true rfl) ⟨Nat.le_refl _, Nat.le_refl _⟩ dX5_addBlock_76 (fun H locs hw hS => ?_)
          rw [← e23] at hw
          refine lv_iload_n hx hb dX5_addBlock_79 rfl (lv_at hl 0 rfl) ?_
          have e1 := (t_ret h).1
          have e2 := (t_ret h).2
          exact e_i hx hb hr hlk hw hS e1 e2 dX5_addBlock_80
        · replace h := t_neg h q10
          refine lv_bipush (v := -3) hx hb dX5_addBlock_46 (by decide) ?_
          have e1 := (t_ret h).1
          have e2 := (t_ret h).2
          exact e_i hx hb hr hlk hw hS e1 e2 dX5_addBlock_48
      · replace h := t_pos h q9
        refine lv_bipush (v := -2) hx hb dX5_addBlock_31 (by decide) ?_
        have e1 := (t_ret h).1
        have e2 := (t_ret h).2
        exact e_i hx hb hr hlk hw hS e1 e2 dX5_addBlock_33
    · replace h := t_pos h q6
      refine lv_bipush (v := -100) hx hb dX5_addBlock_10 (by decide) ?_
      refine lv_aload_n hx hb dX5_addBlock_12 rfl (lv_at hl 0 rfl) ?_
      refine r_get hx hb hts hown hK hw (v_mn (by decide)) rfl E_mn inX5 rfl 0 (by decide) k_206 rfl rfl dX5_addBlock_13 ?_
      refine r_get hx hb hts hown hK hw (v_tx (by decide)) rfl E_tx inX1 rfl 3 (by decide) k_29 rfl rfl dX5_addBlock_16 ?_
      refine lv_isub hx hb dX5_addBlock_19 ?_
      have e1 := (t_ret h).1
      have e2 := (t_ret h).2
      exact e_i hx hb hr hlk hw hS e1 e2 dX5_addBlock_20
  exact main _ _ hw hS ls hl

theorem cf_X5_addRow : cfV RX5 yX5_addRow cX5_addRow 4 (some .int) 2 := ⟨⟨k_335, k_336, k_1, k_337⟩, by decide +kernel⟩
def f_X5_addRow (M : MM) (p0 : Int32) (p1 : Int32) : Option (Int32 × MM) :=
  b1 (f_X4_hasBlock (M 0) p0) fun r2 => (if r2 = (nI 0) then some ((-1 : Int32), M) else gd p0 8 (b1 (f_X0_allows (M 0) p0.toNatClampNeg p1) fun r6 => (if r6 = (nI 0) then some ((-2 : Int32), M) else (if (M 0 (3 + p0.toNatClampNeg) 4) < (nI 16) then bd (f_X2_record M) fun r10 M11 => bd (f_X0_append (M11 0) p0.toNatClampNeg p1) fun r13 m14 => lt1 (gs M11 0 m14) fun M15 => bd (f_X4_settle (M15 0)) fun r18 m19 => lt1 (gs M15 0 m19) fun M20 => some ((M20 0 (3 + p0.toNatClampNeg) 4), M20) else some ((-3 : Int32), M)))))
set_option maxHeartbeats 4000000 in
set_option maxRecDepth 100000 in
theorem c_X5_addRow {l : Launch} {D : va_G} {cy : Nat → ClassId} {ad : Nat → Nat → Nat} (hcv : CV ad) {M : MM} {p0 p1 : Int32} {r : Int32} {x : MM} (h : f_X5_addRow M p0 p1 = some (r, x)) : Met l yX5_addRow (.code yX5_addRow cX5_addRow 4 (some .int) :: TB) ({ frames := 4, cells := 0, slots := 0, locals := 124 } : Room) (PW D cy ad M [.ref (ad 8 0), .int p0, .int p1]) (QI D cy ad r x) 0 0 (AD ad) := by
  refine m_in (by decide +kernel) (Nat.le_of_ble_eq_true rfl) ?_
  intro p e s md args below meth c hC hw hS ls hl
  obtain ⟨hx, hb, hr, hml, hown, hts, hK, hlk⟩ := hC
  have hl : lv_has ls 4 [(0, .ref (ad 8 0)), (1, .int p0), (2, .int p1)] := hl
  unfold f_X5_addRow at h
  have main : JL p l e ({ frames := 4, cells := 0, slots := 0, locals := 124 } : Room) s md args below meth c D cy ad (MQ below (QI D cy ad r x) args s 0 0 (AD ad)) (M) 4 [(0, .ref (ad 8 0)), (1, .int p0), (2, .int p1)] 0 [] := by
    intro H locs hw hS ls hl
    refine lv_aload_n hx hb dX5_addRow_0 rfl (lv_at hl 0 rfl) ?_
    refine r_get hx hb hts hown hK hw (v_mn (by decide)) rfl E_mn inX5 rfl 1 (by decide) k_207 rfl rfl dX5_addRow_1 ?_
    refine lv_iload_n hx hb dX5_addRow_4 rfl (lv_at hl 1 rfl) ?_
    obtain ⟨r2, y1, h⟩ := t_b1 h
    refine c_vi hx hb hml hown hts hK hw hS (fun _ h => h) (As := [.int p0]) (rest := []) (c_X4_hasBlock hcv (g := 0) (hg := (by decide)) (M0 := M) (m := M 0) (hm := rfl) y1) cf_X4_hasBlock k_338 rfl rfl ⟨Nat.le_of_ble_eq_true rfl, Nat.le_of_ble_eq_true rfl⟩ (r_recv hK hw (v_st (by decide) (by decide)) (E_st (by decide)) rfl) rfl hl.1 rfl (Nat.le_of_ble_eq_true rfl) ⟨Nat.le_refl _, Nat.le_refl _⟩ dX5_addRow_5 (fun H locs hw hS => ?_)
    refine lv_if_ne (tgt := 13) hx hb dX5_addRow_8 (by decide) (fun q3 => ?_) (fun q3 => ?_)
    · replace h := t_neg h q3
      refine lv_aload_n hx hb dX5_addRow_13 rfl (lv_at hl 0 rfl) ?_
      refine r_get hx hb hts hown hK hw (v_mn (by decide)) rfl E_mn inX5 rfl 1 (by decide) k_207 rfl rfl dX5_addRow_14 ?_
      refine r_get hx hb hts hown hK hw (v_st (by decide) (by decide)) rfl (E_st (by decide)) inX4 rfl 0 (by decide) k_162 rfl rfl dX5_addRow_17 ?_
      refine lv_iload_n hx hb dX5_addRow_20 rfl (lv_at hl 1 rfl) ?_
      obtain ⟨q4, h⟩ := t_gd h
      refine r_aald hx hb hK hw (v_st (by decide) (by decide)) (t0 := 2) rfl (E_ba (by decide)) (v := .ref (ad 0 (3 + p0.toNatClampNeg))) rfl q4 dX5_addRow_21 ?_
      refine lv_astore_n (lv' := [(3, .ref (ad 0 (3 + p0.toNatClampNeg))), (0, .ref (ad 8 0)), (1, .int p0), (2, .int p1)]) hx hb dX5_addRow_22 rfl hl (by decide) rfl (fun ls hl => ?_)
      refine lv_aload_n hx hb dX5_addRow_23 rfl (lv_at hl 0 rfl) ?_
      refine lv_iload_n hx hb dX5_addRow_24 rfl (lv_at hl 3 rfl) ?_
      obtain ⟨r6, y5, h⟩ := t_b1 h
      refine c_vi hx hb hml hown hts hK hw hS (fun _ h => h) (As := [.int p1]) (rest := []) (c_X0_allows hcv (g := 0) (hg := (by decide)) (i := p0.toNatClampNeg) (hi := (vin q4)) (M0 := M) (m := M 0) (hm := rfl) y5) cf_X0_allows k_343 rfl rfl ⟨Nat.le_of_ble_eq_true rfl, Nat.le_of_ble_eq_true rfl⟩ (r_recv hK hw (v_bk (by decide) (vin q4)) (E_bk (by decide) (vin q4)) rfl) rfl hl.1 rfl (Nat.le_of_ble_eq_true rfl) ⟨Nat.le_refl _, Nat.le_refl _⟩ dX5_addRow_25 (fun H locs hw hS => ?_)
      refine lv_if_ne (tgt := 34) hx hb dX5_addRow_28 (by decide) (fun q7 => ?_) (fun q7 => ?_)
      · replace h := t_neg h q7
        refine lv_aload_n hx hb dX5_addRow_34 rfl (lv_at hl 0 rfl) ?_
        refine r_get hx hb hts hown hK hw (v_bk (by decide) (vin q4)) rfl (E_bk (by decide) (vin q4)) inX0 rfl 4 (by decide) k_87 rfl rfl dX5_addRow_35 ?_
        refine lv_bipush (v := nI 16) hx hb dX5_addRow_38 (by decide) ?_
        refine lv_icmp_lt (tgt := 46) hx hb dX5_addRow_40 (by decide) (fun q8 => ?_) (fun q8 => ?_)
        · replace h := t_pos h q8
          refine lv_aload_n hx hb dX5_addRow_46 rfl (lv_at hl 1 rfl) ?_
          refine r_get hx hb hts hown hK hw (v_mn (by decide)) rfl E_mn inX5 rfl 4 (by decide) k_210 rfl rfl dX5_addRow_47 ?_
          refine lv_aload_n hx hb dX5_addRow_50 rfl (lv_at hl 1 rfl) ?_
          refine r_get hx hb hts hown hK hw (v_mn (by decide)) rfl E_mn inX5 rfl 1 (by decide) k_207 rfl rfl dX5_addRow_51 ?_
          obtain ⟨r10, M11, y9, h⟩ := t_bd h
          refine c_vv hx hb hml hown hts hK hw hS (fun _ h => h) (As := [.ref (ad 0 0)]) (rest := []) (c_X2_record hcv (M := M) y9) cf_X2_record k_256 rfl rfl ⟨Nat.le_of_ble_eq_true rfl, Nat.le_of_ble_eq_true rfl⟩ (r_recv hK hw (v_mn (by decide)) E_hi rfl) rfl hl.1 rfl (Nat.le_of_ble_eq_true rfl) ⟨Nat.le_refl _, Nat.le_refl _⟩ dX5_addRow_54 (fun H locs hw hS => ?_)
          refine lv_aload_n hx hb dX5_addRow_57 rfl (lv_at hl 0 rfl) ?_
          refine lv_iload_n hx hb dX5_addRow_58 rfl (lv_at hl 3 rfl) ?_
          obtain ⟨r13, m14, y12, h⟩ := t_bd h
          obtain ⟨M15, e16, h⟩ := t_lt h
          refine c_vv hx hb hml hown hts hK hw hS (fun _ h => h) (As := [.int p1]) (rest := []) (c_X0_append hcv (g := 0) (hg := (by decide)) (i := p0.toNatClampNeg) (hi := (vin q4)) (M0 := M11) (m := M11 0) (hm := rfl) y12) cf_X0_append k_348 rfl rfl ⟨Nat.le_of_ble_eq_true rfl, Nat.le_of_ble_eq_true rfl⟩ (r_recv hK hw (v_bk (by decide) (vin q4)) (E_bk (by decide) (vin q4)) rfl) rfl hl.1 rfl (Nat.le_of_ble_eq_true rfl) ⟨Nat.le_refl _, Nat.le_refl _⟩ dX5_addRow_59 (fun H locs hw hS => ?_)
          rw [← e16] at hw
          refine lv_aload_n hx hb dX5_addRow_62 rfl (lv_at hl 1 rfl) ?_
          refine r_get hx hb hts hown hK hw (v_mn (by decide)) rfl E_mn inX5 rfl 1 (by decide) k_207 rfl rfl dX5_addRow_63 ?_
          obtain ⟨r18, m19, y17, h⟩ := t_bd h
          obtain ⟨M20, e21, h⟩ := t_lt h
          refine c_vv hx hb hml hown hts hK hw hS (fun _ h => h) (As := []) (rest := []) (c_X4_settle hcv (g := 0) (hg := (by decide)) (M0 := M15) (m := M15 0) (hm := rfl) y17) cf_X4_settle k_297 rfl rfl ⟨Nat.le_of_ble_eq_true rfl, Nat.le_of_ble_eq_true rfl⟩ (r_recv hK hw (v_st (by decide) (by decide)) (E_st (by decide)) rfl) rfl hl.1 rfl (Nat.le_of_ble_eq_true rfl) ⟨Nat.le_refl _, Nat.le_refl _⟩ dX5_addRow_66 (fun H locs hw hS => ?_)
          rw [← e21] at hw
          refine lv_aload_n hx hb dX5_addRow_69 rfl (lv_at hl 0 rfl) ?_
          refine r_get hx hb hts hown hK hw (v_bk (by decide) (vin q4)) rfl (E_bk (by decide) (vin q4)) inX0 rfl 4 (by decide) k_87 rfl rfl dX5_addRow_70 ?_
          have e1 := (t_ret h).1
          have e2 := (t_ret h).2
          exact e_i hx hb hr hlk hw hS e1 e2 dX5_addRow_73
        · replace h := t_neg h q8
          refine lv_bipush (v := -3) hx hb dX5_addRow_43 (by decide) ?_
          have e1 := (t_ret h).1
          have e2 := (t_ret h).2
          exact e_i hx hb hr hlk hw hS e1 e2 dX5_addRow_45
      · replace h := t_pos h q7
        refine lv_bipush (v := -2) hx hb dX5_addRow_31 (by decide) ?_
        have e1 := (t_ret h).1
        have e2 := (t_ret h).2
        exact e_i hx hb hr hlk hw hS e1 e2 dX5_addRow_33
    · replace h := t_pos h q3
      refine lv_iconst (v := -1) hx hb dX5_addRow_11 (by decide) ?_
      have e1 := (t_ret h).1
      have e2 := (t_ret h).2
      exact e_i hx hb hr hlk hw hS e1 e2 dX5_addRow_12
  exact main _ _ hw hS ls hl

theorem cf_X5_change : cfV RX5 yX5_change cX5_change 5 (some .int) 3 := ⟨⟨k_353, k_354, k_1, k_355⟩, by decide +kernel⟩
def f_X5_change (M : MM) (p0 : Int32) (p1 : Int32) (p2 : Int32) : Option (Int32 × MM) :=
  b1 (f_X4_hasRow (M 0) p0 p1) fun r2 => (if r2 = (nI 0) then some ((-1 : Int32), M) else gd p0 8 (b1 (f_X0_allows (M 0) p0.toNatClampNeg p2) fun r6 => (if r6 = (nI 0) then some ((-2 : Int32), M) else gd p1 16 ((if (M 0 (11 + p0.toNatClampNeg) p1.toNatClampNeg) = p2 then some ((-5 : Int32), M) else bd (f_X2_record M) fun r11 M12 => bd (f_X0_put (M12 0) p0.toNatClampNeg p1 p2) fun r14 m15 => lt1 (gs M12 0 m15) fun M16 => bd (f_X4_settle (M16 0)) fun r19 m20 => lt1 (gs M16 0 m20) fun M21 => (if (M21 0 (3 + p0.toNatClampNeg) 5) ≤ p1 then some ((nI 0), M21) else some ((nI 1), M21)))))))
set_option maxHeartbeats 4000000 in
set_option maxRecDepth 100000 in
theorem c_X5_change {l : Launch} {D : va_G} {cy : Nat → ClassId} {ad : Nat → Nat → Nat} (hcv : CV ad) {M : MM} {p0 p1 p2 : Int32} {r : Int32} {x : MM} (h : f_X5_change M p0 p1 p2 = some (r, x)) : Met l yX5_change (.code yX5_change cX5_change 5 (some .int) :: TB) ({ frames := 4, cells := 0, slots := 0, locals := 124 } : Room) (PW D cy ad M [.ref (ad 8 0), .int p0, .int p1, .int p2]) (QI D cy ad r x) 0 0 (AD ad) := by
  refine m_in (by decide +kernel) (Nat.le_of_ble_eq_true rfl) ?_
  intro p e s md args below meth c hC hw hS ls hl
  obtain ⟨hx, hb, hr, hml, hown, hts, hK, hlk⟩ := hC
  have hl : lv_has ls 5 [(0, .ref (ad 8 0)), (1, .int p0), (2, .int p1), (3, .int p2)] := hl
  unfold f_X5_change at h
  have main : JL p l e ({ frames := 4, cells := 0, slots := 0, locals := 124 } : Room) s md args below meth c D cy ad (MQ below (QI D cy ad r x) args s 0 0 (AD ad)) (M) 5 [(0, .ref (ad 8 0)), (1, .int p0), (2, .int p1), (3, .int p2)] 0 [] := by
    intro H locs hw hS ls hl
    refine lv_aload_n hx hb dX5_change_0 rfl (lv_at hl 0 rfl) ?_
    refine r_get hx hb hts hown hK hw (v_mn (by decide)) rfl E_mn inX5 rfl 1 (by decide) k_207 rfl rfl dX5_change_1 ?_
    refine lv_iload_n hx hb dX5_change_4 rfl (lv_at hl 1 rfl) ?_
    refine lv_iload_n hx hb dX5_change_5 rfl (lv_at hl 2 rfl) ?_
    obtain ⟨r2, y1, h⟩ := t_b1 h
    refine c_vi hx hb hml hown hts hK hw hS (fun _ h => h) (As := [.int p0, .int p1]) (rest := []) (c_X4_hasRow hcv (g := 0) (hg := (by decide)) (M0 := M) (m := M 0) (hm := rfl) y1) cf_X4_hasRow k_356 rfl rfl ⟨Nat.le_of_ble_eq_true rfl, Nat.le_of_ble_eq_true rfl⟩ (r_recv hK hw (v_st (by decide) (by decide)) (E_st (by decide)) rfl) rfl hl.1 rfl (Nat.le_of_ble_eq_true rfl) ⟨Nat.le_refl _, Nat.le_refl _⟩ dX5_change_6 (fun H locs hw hS => ?_)
    refine lv_if_ne (tgt := 14) hx hb dX5_change_9 (by decide) (fun q3 => ?_) (fun q3 => ?_)
    · replace h := t_neg h q3
      refine lv_aload_n hx hb dX5_change_14 rfl (lv_at hl 0 rfl) ?_
      refine r_get hx hb hts hown hK hw (v_mn (by decide)) rfl E_mn inX5 rfl 1 (by decide) k_207 rfl rfl dX5_change_15 ?_
      refine r_get hx hb hts hown hK hw (v_st (by decide) (by decide)) rfl (E_st (by decide)) inX4 rfl 0 (by decide) k_162 rfl rfl dX5_change_18 ?_
      refine lv_iload_n hx hb dX5_change_21 rfl (lv_at hl 1 rfl) ?_
      obtain ⟨q4, h⟩ := t_gd h
      refine r_aald hx hb hK hw (v_st (by decide) (by decide)) (t0 := 2) rfl (E_ba (by decide)) (v := .ref (ad 0 (3 + p0.toNatClampNeg))) rfl q4 dX5_change_22 ?_
      refine lv_astore (lv' := [(4, .ref (ad 0 (3 + p0.toNatClampNeg))), (0, .ref (ad 8 0)), (1, .int p0), (2, .int p1), (3, .int p2)]) hx hb dX5_change_23 hl (by decide) rfl (fun ls hl => ?_)
      refine lv_aload hx hb dX5_change_25 (lv_at hl 0 rfl) ?_
      refine lv_iload_n hx hb dX5_change_27 rfl (lv_at hl 4 rfl) ?_
      obtain ⟨r6, y5, h⟩ := t_b1 h
      refine c_vi hx hb hml hown hts hK hw hS (fun _ h => h) (As := [.int p2]) (rest := []) (c_X0_allows hcv (g := 0) (hg := (by decide)) (i := p0.toNatClampNeg) (hi := (vin q4)) (M0 := M) (m := M 0) (hm := rfl) y5) cf_X0_allows k_343 rfl rfl ⟨Nat.le_of_ble_eq_true rfl, Nat.le_of_ble_eq_true rfl⟩ (r_recv hK hw (v_bk (by decide) (vin q4)) (E_bk (by decide) (vin q4)) rfl) rfl hl.1 rfl (Nat.le_of_ble_eq_true rfl) ⟨Nat.le_refl _, Nat.le_refl _⟩ dX5_change_28 (fun H locs hw hS => ?_)
      refine lv_if_ne (tgt := 37) hx hb dX5_change_31 (by decide) (fun q7 => ?_) (fun q7 => ?_)
      · replace h := t_neg h q7
        refine lv_aload hx hb dX5_change_37 (lv_at hl 0 rfl) ?_
        refine r_get hx hb hts hown hK hw (v_bk (by decide) (vin q4)) rfl (E_bk (by decide) (vin q4)) inX0 rfl 0 (by decide) k_74 rfl rfl dX5_change_39 ?_
        refine lv_iload_n hx hb dX5_change_42 rfl (lv_at hl 3 rfl) ?_
        obtain ⟨q8, h⟩ := t_gd h
        refine r_iald hx hb hK hw (v_va (by decide) (vin q4)) rfl (E_va (by decide) (vin q4)) q8 dX5_change_43 ?_
        refine lv_iload_n hx hb dX5_change_44 rfl (lv_at hl 4 rfl) ?_
        refine lv_icmp_ne (tgt := 51) hx hb dX5_change_45 (by decide) (fun q9 => ?_) (fun q9 => ?_)
        · replace h := t_neg h q9
          refine lv_aload_n hx hb dX5_change_51 rfl (lv_at hl 1 rfl) ?_
          refine r_get hx hb hts hown hK hw (v_mn (by decide)) rfl E_mn inX5 rfl 4 (by decide) k_210 rfl rfl dX5_change_52 ?_
          refine lv_aload_n hx hb dX5_change_55 rfl (lv_at hl 1 rfl) ?_
          refine r_get hx hb hts hown hK hw (v_mn (by decide)) rfl E_mn inX5 rfl 1 (by decide) k_207 rfl rfl dX5_change_56 ?_
          obtain ⟨r11, M12, y10, h⟩ := t_bd h
          refine c_vv hx hb hml hown hts hK hw hS (fun _ h => h) (As := [.ref (ad 0 0)]) (rest := []) (c_X2_record hcv (M := M) y10) cf_X2_record k_256 rfl rfl ⟨Nat.le_of_ble_eq_true rfl, Nat.le_of_ble_eq_true rfl⟩ (r_recv hK hw (v_mn (by decide)) E_hi rfl) rfl hl.1 rfl (Nat.le_of_ble_eq_true rfl) ⟨Nat.le_refl _, Nat.le_refl _⟩ dX5_change_59 (fun H locs hw hS => ?_)
          refine lv_aload hx hb dX5_change_62 (lv_at hl 0 rfl) ?_
          refine lv_iload_n hx hb dX5_change_64 rfl (lv_at hl 3 rfl) ?_
          refine lv_iload_n hx hb dX5_change_65 rfl (lv_at hl 4 rfl) ?_
          obtain ⟨r14, m15, y13, h⟩ := t_bd h
          obtain ⟨M16, e17, h⟩ := t_lt h
          refine c_vv hx hb hml hown hts hK hw hS (fun _ h => h) (As := [.int p1, .int p2]) (rest := []) (c_X0_put hcv (g := 0) (hg := (by decide)) (i := p0.toNatClampNeg) (hi := (vin q4)) (M0 := M12) (m := M12 0) (hm := rfl) y13) cf_X0_put k_361 rfl rfl ⟨Nat.le_of_ble_eq_true rfl, Nat.le_of_ble_eq_true rfl⟩ (r_recv hK hw (v_bk (by decide) (vin q4)) (E_bk (by decide) (vin q4)) rfl) rfl hl.1 rfl (Nat.le_of_ble_eq_true rfl) ⟨Nat.le_refl _, Nat.le_refl _⟩ dX5_change_66 (fun H locs hw hS => ?_)
          rw [← e17] at hw
          refine lv_aload_n hx hb dX5_change_69 rfl (lv_at hl 1 rfl) ?_
          refine r_get hx hb hts hown hK hw (v_mn (by decide)) rfl E_mn inX5 rfl 1 (by decide) k_207 rfl rfl dX5_change_70 ?_
          obtain ⟨r19, m20, y18, h⟩ := t_bd h
          obtain ⟨M21, e22, h⟩ := t_lt h
          refine c_vv hx hb hml hown hts hK hw hS (fun _ h => h) (As := []) (rest := []) (c_X4_settle hcv (g := 0) (hg := (by decide)) (M0 := M16) (m := M16 0) (hm := rfl) y18) cf_X4_settle k_297 rfl rfl ⟨Nat.le_of_ble_eq_true rfl, Nat.le_of_ble_eq_true rfl⟩ (r_recv hK hw (v_st (by decide) (by decide)) (E_st (by decide)) rfl) rfl hl.1 rfl (Nat.le_of_ble_eq_true rfl) ⟨Nat.le_refl _, Nat.le_refl _⟩ dX5_change_73 (fun H locs hw hS => ?_)
          rw [← e22] at hw
          refine lv_iload_n hx hb dX5_change_76 rfl (lv_at hl 3 rfl) ?_
          refine lv_aload hx hb dX5_change_77 (lv_at hl 0 rfl) ?_
          refine r_get hx hb hts hown hK hw (v_bk (by decide) (vin q4)) rfl (E_bk (by decide) (vin q4)) inX0 rfl 5 (by decide) k_90 rfl rfl dX5_change_79 ?_
          refine lv_icmp_ge (tgt := 89) hx hb dX5_change_82 (by decide) (fun q23 => ?_) (fun q23 => ?_)
          · replace h := t_pos h q23
            refine lv_iconst (v := nI 0) hx hb dX5_change_89 (by decide) ?_
            have e1 := (t_ret h).1
            have e2 := (t_ret h).2
            exact e_i hx hb hr hlk hw hS e1 e2 dX5_change_90
          · replace h := t_neg h q23
            refine lv_iconst (v := nI 1) hx hb dX5_change_85 (by decide) ?_
            refine lv_goto (tgt := 90) hx hb dX5_change_86 (by decide) ?_
            have e1 := (t_ret h).1
            have e2 := (t_ret h).2
            exact e_i hx hb hr hlk hw hS e1 e2 dX5_change_90
        · replace h := t_pos h q9
          refine lv_bipush (v := -5) hx hb dX5_change_48 (by decide) ?_
          have e1 := (t_ret h).1
          have e2 := (t_ret h).2
          exact e_i hx hb hr hlk hw hS e1 e2 dX5_change_50
      · replace h := t_pos h q7
        refine lv_bipush (v := -2) hx hb dX5_change_34 (by decide) ?_
        have e1 := (t_ret h).1
        have e2 := (t_ret h).2
        exact e_i hx hb hr hlk hw hS e1 e2 dX5_change_36
    · replace h := t_pos h q3
      refine lv_iconst (v := -1) hx hb dX5_change_12 (by decide) ?_
      have e1 := (t_ret h).1
      have e2 := (t_ret h).2
      exact e_i hx hb hr hlk hw hS e1 e2 dX5_change_13
  exact main _ _ hw hS ls hl

theorem cf_X5_narrow : cfV RX5 yX5_narrow cX5_narrow 6 (some .int) 1 := ⟨⟨k_366, k_367, k_1, k_368⟩, by decide +kernel⟩
def f_X5_narrow (M : MM) (p0 : Int32) : Option (Int32 × MM) :=
  b1 (f_X4_hasBlock (M 0) p0) fun r2 => (if r2 = (nI 0) then some ((-1 : Int32), M) else gd p0 8 (b1 (f_X0_leastValue (M 0) p0.toNatClampNeg) fun r6 => b1 (f_X0_greatestValue (M 0) p0.toNatClampNeg) fun r8 => (if (((M 0 (3 + p0.toNatClampNeg) 3) - (M 0 (3 + p0.toNatClampNeg) 2)) - (r8 - r6)) = (nI 0) then some ((-5 : Int32), M) else bd (f_X2_record M) fun r11 M12 => lt1 (gs M12 0 (up (M12 0) (3 + p0.toNatClampNeg) 2 r6)) fun M14 => lt1 (gs M14 0 (up (M14 0) (3 + p0.toNatClampNeg) 3 r8)) fun M16 => bd (f_X4_settle (M16 0)) fun r18 m19 => lt1 (gs M16 0 m19) fun M20 => some ((((M 0 (3 + p0.toNatClampNeg) 3) - (M 0 (3 + p0.toNatClampNeg) 2)) - (r8 - r6)), M20))))
set_option maxHeartbeats 4000000 in
set_option maxRecDepth 100000 in
theorem c_X5_narrow {l : Launch} {D : va_G} {cy : Nat → ClassId} {ad : Nat → Nat → Nat} (hcv : CV ad) {M : MM} {p0 : Int32} {r : Int32} {x : MM} (h : f_X5_narrow M p0 = some (r, x)) : Met l yX5_narrow (.code yX5_narrow cX5_narrow 6 (some .int) :: TB) ({ frames := 4, cells := 0, slots := 0, locals := 124 } : Room) (PW D cy ad M [.ref (ad 8 0), .int p0]) (QI D cy ad r x) 0 0 (AD ad) := by
  refine m_in (by decide +kernel) (Nat.le_of_ble_eq_true rfl) ?_
  intro p e s md args below meth c hC hw hS ls hl
  obtain ⟨hx, hb, hr, hml, hown, hts, hK, hlk⟩ := hC
  have hl : lv_has ls 6 [(0, .ref (ad 8 0)), (1, .int p0)] := hl
  unfold f_X5_narrow at h
  have main : JL p l e ({ frames := 4, cells := 0, slots := 0, locals := 124 } : Room) s md args below meth c D cy ad (MQ below (QI D cy ad r x) args s 0 0 (AD ad)) (M) 6 [(0, .ref (ad 8 0)), (1, .int p0)] 0 [] := by
    intro H locs hw hS ls hl
    refine lv_aload_n hx hb dX5_narrow_0 rfl (lv_at hl 0 rfl) ?_
    refine r_get hx hb hts hown hK hw (v_mn (by decide)) rfl E_mn inX5 rfl 1 (by decide) k_207 rfl rfl dX5_narrow_1 ?_
    refine lv_iload_n hx hb dX5_narrow_4 rfl (lv_at hl 1 rfl) ?_
    obtain ⟨r2, y1, h⟩ := t_b1 h
    refine c_vi hx hb hml hown hts hK hw hS (fun _ h => h) (As := [.int p0]) (rest := []) (c_X4_hasBlock hcv (g := 0) (hg := (by decide)) (M0 := M) (m := M 0) (hm := rfl) y1) cf_X4_hasBlock k_338 rfl rfl ⟨Nat.le_of_ble_eq_true rfl, Nat.le_of_ble_eq_true rfl⟩ (r_recv hK hw (v_st (by decide) (by decide)) (E_st (by decide)) rfl) rfl hl.1 rfl (Nat.le_of_ble_eq_true rfl) ⟨Nat.le_refl _, Nat.le_refl _⟩ dX5_narrow_5 (fun H locs hw hS => ?_)
    refine lv_if_ne (tgt := 13) hx hb dX5_narrow_8 (by decide) (fun q3 => ?_) (fun q3 => ?_)
    · replace h := t_neg h q3
      refine lv_aload_n hx hb dX5_narrow_13 rfl (lv_at hl 0 rfl) ?_
      refine r_get hx hb hts hown hK hw (v_mn (by decide)) rfl E_mn inX5 rfl 1 (by decide) k_207 rfl rfl dX5_narrow_14 ?_
      refine r_get hx hb hts hown hK hw (v_st (by decide) (by decide)) rfl (E_st (by decide)) inX4 rfl 0 (by decide) k_162 rfl rfl dX5_narrow_17 ?_
      refine lv_iload_n hx hb dX5_narrow_20 rfl (lv_at hl 1 rfl) ?_
      obtain ⟨q4, h⟩ := t_gd h
      refine r_aald hx hb hK hw (v_st (by decide) (by decide)) (t0 := 2) rfl (E_ba (by decide)) (v := .ref (ad 0 (3 + p0.toNatClampNeg))) rfl q4 dX5_narrow_21 ?_
      refine lv_astore_n (lv' := [(2, .ref (ad 0 (3 + p0.toNatClampNeg))), (0, .ref (ad 8 0)), (1, .int p0)]) hx hb dX5_narrow_22 rfl hl (by decide) rfl (fun ls hl => ?_)
      refine lv_aload_n hx hb dX5_narrow_23 rfl (lv_at hl 0 rfl) ?_
      obtain ⟨r6, y5, h⟩ := t_b1 h
      refine c_vi hx hb hml hown hts hK hw hS (fun _ h => h) (As := []) (rest := []) (c_X0_leastValue hcv (g := 0) (hg := (by decide)) (i := p0.toNatClampNeg) (hi := (vin q4)) (M0 := M) (m := M 0) (hm := rfl) y5) cf_X0_leastValue k_369 rfl rfl ⟨Nat.le_of_ble_eq_true rfl, Nat.le_of_ble_eq_true rfl⟩ (r_recv hK hw (v_bk (by decide) (vin q4)) (E_bk (by decide) (vin q4)) rfl) rfl hl.1 rfl (Nat.le_of_ble_eq_true rfl) ⟨Nat.le_refl _, Nat.le_refl _⟩ dX5_narrow_24 (fun H locs hw hS => ?_)
      refine lv_istore_n (lv' := [(3, .int r6), (2, .ref (ad 0 (3 + p0.toNatClampNeg))), (0, .ref (ad 8 0)), (1, .int p0)]) hx hb dX5_narrow_27 rfl hl (by decide) rfl (fun ls hl => ?_)
      refine lv_aload_n hx hb dX5_narrow_28 rfl (lv_at hl 1 rfl) ?_
      obtain ⟨r8, y7, h⟩ := t_b1 h
      refine c_vi hx hb hml hown hts hK hw hS (fun _ h => h) (As := []) (rest := []) (c_X0_greatestValue hcv (g := 0) (hg := (by decide)) (i := p0.toNatClampNeg) (hi := (vin q4)) (M0 := M) (m := M 0) (hm := rfl) y7) cf_X0_greatestValue k_373 rfl rfl ⟨Nat.le_of_ble_eq_true rfl, Nat.le_of_ble_eq_true rfl⟩ (r_recv hK hw (v_bk (by decide) (vin q4)) (E_bk (by decide) (vin q4)) rfl) rfl hl.1 rfl (Nat.le_of_ble_eq_true rfl) ⟨Nat.le_refl _, Nat.le_refl _⟩ dX5_narrow_29 (fun H locs hw hS => ?_)
      refine lv_istore (lv' := [(4, .int r8), (3, .int r6), (2, .ref (ad 0 (3 + p0.toNatClampNeg))), (0, .ref (ad 8 0)), (1, .int p0)]) hx hb dX5_narrow_32 hl (by decide) rfl (fun ls hl => ?_)
      refine lv_aload_n hx hb dX5_narrow_34 rfl (lv_at hl 2 rfl) ?_
      refine r_get hx hb hts hown hK hw (v_bk (by decide) (vin q4)) rfl (E_bk (by decide) (vin q4)) inX0 rfl 3 (by decide) k_84 rfl rfl dX5_narrow_35 ?_
      refine lv_aload_n hx hb dX5_narrow_38 rfl (lv_at hl 2 rfl) ?_
      refine r_get hx hb hts hown hK hw (v_bk (by decide) (vin q4)) rfl (E_bk (by decide) (vin q4)) inX0 rfl 2 (by decide) k_80 rfl rfl dX5_narrow_39 ?_
      refine lv_isub hx hb dX5_narrow_42 ?_
      refine lv_iload hx hb dX5_narrow_43 (lv_at hl 0 rfl) ?_
      refine lv_iload_n hx hb dX5_narrow_45 rfl (lv_at hl 1 rfl) ?_
      refine lv_isub hx hb dX5_narrow_46 ?_
      refine lv_isub hx hb dX5_narrow_47 ?_
      refine lv_istore (lv' := [(5, .int (((M 0 (3 + p0.toNatClampNeg) 3) - (M 0 (3 + p0.toNatClampNeg) 2)) - (r8 - r6))), (4, .int r8), (3, .int r6), (2, .ref (ad 0 (3 + p0.toNatClampNeg))), (0, .ref (ad 8 0)), (1, .int p0)]) hx hb dX5_narrow_48 hl (by decide) rfl (fun ls hl => ?_)
      refine lv_iload hx hb dX5_narrow_50 (lv_at hl 0 rfl) ?_
      refine lv_if_ne (tgt := 58) hx hb dX5_narrow_52 (by decide) (fun q9 => ?_) (fun q9 => ?_)
      · replace h := t_neg h q9
        refine lv_aload_n hx hb dX5_narrow_58 rfl (lv_at hl 4 rfl) ?_
        refine r_get hx hb hts hown hK hw (v_mn (by decide)) rfl E_mn inX5 rfl 4 (by decide) k_210 rfl rfl dX5_narrow_59 ?_
        refine lv_aload_n hx hb dX5_narrow_62 rfl (lv_at hl 4 rfl) ?_
        refine r_get hx hb hts hown hK hw (v_mn (by decide)) rfl E_mn inX5 rfl 1 (by decide) k_207 rfl rfl dX5_narrow_63 ?_
        obtain ⟨r11, M12, y10, h⟩ := t_bd h
        refine c_vv hx hb hml hown hts hK hw hS (fun _ h => h) (As := [.ref (ad 0 0)]) (rest := []) (c_X2_record hcv (M := M) y10) cf_X2_record k_256 rfl rfl ⟨Nat.le_of_ble_eq_true rfl, Nat.le_of_ble_eq_true rfl⟩ (r_recv hK hw (v_mn (by decide)) E_hi rfl) rfl hl.1 rfl (Nat.le_of_ble_eq_true rfl) ⟨Nat.le_refl _, Nat.le_refl _⟩ dX5_narrow_66 (fun H locs hw hS => ?_)
        refine lv_aload_n hx hb dX5_narrow_69 rfl (lv_at hl 3 rfl) ?_
        refine lv_iload_n hx hb dX5_narrow_70 rfl (lv_at hl 2 rfl) ?_
        obtain ⟨M14, e13, h⟩ := t_lt h
        refine r_put hx hb hts hown hK hcv hw hS (v_bk (by decide) (vin q4)) rfl (E_bk (by decide) (vin q4)) inX0 rfl tyX0 tyX0_ok nmX0 2 (by decide) k_80 rfl rfl rfl rfl (Nat.le_of_ble_eq_true rfl) (E_bk (by decide) (vin q4)) e13.symm dX5_narrow_71 (fun H locs hw hS => ?_)
        refine lv_aload_n hx hb dX5_narrow_74 rfl (lv_at hl 3 rfl) ?_
        refine lv_iload hx hb dX5_narrow_75 (lv_at hl 1 rfl) ?_
        obtain ⟨M16, e15, h⟩ := t_lt h
        refine r_put hx hb hts hown hK hcv hw hS (v_bk (by decide) (vin q4)) rfl (E_bk (by decide) (vin q4)) inX0 rfl tyX0 tyX0_ok nmX0 3 (by decide) k_84 rfl rfl rfl rfl (Nat.le_of_ble_eq_true rfl) (E_bk (by decide) (vin q4)) e15.symm dX5_narrow_77 (fun H locs hw hS => ?_)
        refine lv_aload_n hx hb dX5_narrow_80 rfl (lv_at hl 4 rfl) ?_
        refine r_get hx hb hts hown hK hw (v_mn (by decide)) rfl E_mn inX5 rfl 1 (by decide) k_207 rfl rfl dX5_narrow_81 ?_
        obtain ⟨r18, m19, y17, h⟩ := t_bd h
        obtain ⟨M20, e21, h⟩ := t_lt h
        refine c_vv hx hb hml hown hts hK hw hS (fun _ h => h) (As := []) (rest := []) (c_X4_settle hcv (g := 0) (hg := (by decide)) (M0 := M16) (m := M16 0) (hm := rfl) y17) cf_X4_settle k_297 rfl rfl ⟨Nat.le_of_ble_eq_true rfl, Nat.le_of_ble_eq_true rfl⟩ (r_recv hK hw (v_st (by decide) (by decide)) (E_st (by decide)) rfl) rfl hl.1 rfl (Nat.le_of_ble_eq_true rfl) ⟨Nat.le_refl _, Nat.le_refl _⟩ dX5_narrow_84 (fun H locs hw hS => ?_)
        rw [← e21] at hw
        refine lv_iload hx hb dX5_narrow_87 (lv_at hl 0 rfl) ?_
        have e1 := (t_ret h).1
        have e2 := (t_ret h).2
        exact e_i hx hb hr hlk hw hS e1 e2 dX5_narrow_89
      · replace h := t_pos h q9
        refine lv_bipush (v := -5) hx hb dX5_narrow_55 (by decide) ?_
        have e1 := (t_ret h).1
        have e2 := (t_ret h).2
        exact e_i hx hb hr hlk hw hS e1 e2 dX5_narrow_57
    · replace h := t_pos h q3
      refine lv_iconst (v := -1) hx hb dX5_narrow_11 (by decide) ?_
      have e1 := (t_ret h).1
      have e2 := (t_ret h).2
      exact e_i hx hb hr hlk hw hS e1 e2 dX5_narrow_12
  exact main _ _ hw hS ls hl

theorem cf_X5_forget : cfV RX5 yX5_forget cX5_forget 2 (some .int) 0 := ⟨⟨k_378, k_379, k_1, k_380⟩, by decide +kernel⟩
def f_X5_forget (M : MM) : Option (Int32 × MM) :=
  b1 (f_X4_readRows (M 0) (nI 15)) fun r2 => (if r2 = (nI 0) then some ((-5 : Int32), M) else bd (f_X2_record M) fun r5 M6 => bd (f_X4_forgetRows (M6 0)) fun r8 m9 => lt1 (gs M6 0 m9) fun M10 => bd (f_X4_settle (M10 0)) fun r13 m14 => lt1 (gs M10 0 m14) fun M15 => some (r2, M15))
set_option maxHeartbeats 4000000 in
set_option maxRecDepth 100000 in
theorem c_X5_forget {l : Launch} {D : va_G} {cy : Nat → ClassId} {ad : Nat → Nat → Nat} (hcv : CV ad) {M : MM} {r : Int32} {x : MM} (h : f_X5_forget M = some (r, x)) : Met l yX5_forget (.code yX5_forget cX5_forget 2 (some .int) :: TB) ({ frames := 4, cells := 0, slots := 0, locals := 124 } : Room) (PW D cy ad M [.ref (ad 8 0)]) (QI D cy ad r x) 0 0 (AD ad) := by
  refine m_in (by decide +kernel) (Nat.le_of_ble_eq_true rfl) ?_
  intro p e s md args below meth c hC hw hS ls hl
  obtain ⟨hx, hb, hr, hml, hown, hts, hK, hlk⟩ := hC
  have hl : lv_has ls 2 [(0, .ref (ad 8 0))] := hl
  unfold f_X5_forget at h
  have main : JL p l e ({ frames := 4, cells := 0, slots := 0, locals := 124 } : Room) s md args below meth c D cy ad (MQ below (QI D cy ad r x) args s 0 0 (AD ad)) (M) 2 [(0, .ref (ad 8 0))] 0 [] := by
    intro H locs hw hS ls hl
    refine lv_aload_n hx hb dX5_forget_0 rfl (lv_at hl 0 rfl) ?_
    refine r_get hx hb hts hown hK hw (v_mn (by decide)) rfl E_mn inX5 rfl 1 (by decide) k_207 rfl rfl dX5_forget_1 ?_
    refine lv_bipush (v := nI 15) hx hb dX5_forget_4 (by decide) ?_
    obtain ⟨r2, y1, h⟩ := t_b1 h
    refine c_vi hx hb hml hown hts hK hw hS (fun _ h => h) (As := [.int (nI 15)]) (rest := []) (c_X4_readRows hcv (g := 0) (hg := (by decide)) (M0 := M) (m := M 0) (hm := rfl) y1) cf_X4_readRows k_381 rfl rfl ⟨Nat.le_of_ble_eq_true rfl, Nat.le_of_ble_eq_true rfl⟩ (r_recv hK hw (v_st (by decide) (by decide)) (E_st (by decide)) rfl) rfl hl.1 rfl (Nat.le_of_ble_eq_true rfl) ⟨Nat.le_refl _, Nat.le_refl _⟩ dX5_forget_6 (fun H locs hw hS => ?_)
    refine lv_istore_n (lv' := [(1, .int r2), (0, .ref (ad 8 0))]) hx hb dX5_forget_9 rfl hl (by decide) rfl (fun ls hl => ?_)
    refine lv_iload_n hx hb dX5_forget_10 rfl (lv_at hl 0 rfl) ?_
    refine lv_if_ne (tgt := 17) hx hb dX5_forget_11 (by decide) (fun q3 => ?_) (fun q3 => ?_)
    · replace h := t_neg h q3
      refine lv_aload_n hx hb dX5_forget_17 rfl (lv_at hl 1 rfl) ?_
      refine r_get hx hb hts hown hK hw (v_mn (by decide)) rfl E_mn inX5 rfl 4 (by decide) k_210 rfl rfl dX5_forget_18 ?_
      refine lv_aload_n hx hb dX5_forget_21 rfl (lv_at hl 1 rfl) ?_
      refine r_get hx hb hts hown hK hw (v_mn (by decide)) rfl E_mn inX5 rfl 1 (by decide) k_207 rfl rfl dX5_forget_22 ?_
      obtain ⟨r5, M6, y4, h⟩ := t_bd h
      refine c_vv hx hb hml hown hts hK hw hS (fun _ h => h) (As := [.ref (ad 0 0)]) (rest := []) (c_X2_record hcv (M := M) y4) cf_X2_record k_256 rfl rfl ⟨Nat.le_of_ble_eq_true rfl, Nat.le_of_ble_eq_true rfl⟩ (r_recv hK hw (v_mn (by decide)) E_hi rfl) rfl hl.1 rfl (Nat.le_of_ble_eq_true rfl) ⟨Nat.le_refl _, Nat.le_refl _⟩ dX5_forget_25 (fun H locs hw hS => ?_)
      refine lv_aload_n hx hb dX5_forget_28 rfl (lv_at hl 1 rfl) ?_
      refine r_get hx hb hts hown hK hw (v_mn (by decide)) rfl E_mn inX5 rfl 1 (by decide) k_207 rfl rfl dX5_forget_29 ?_
      obtain ⟨r8, m9, y7, h⟩ := t_bd h
      obtain ⟨M10, e11, h⟩ := t_lt h
      refine c_vv hx hb hml hown hts hK hw hS (fun _ h => h) (As := []) (rest := []) (c_X4_forgetRows hcv (g := 0) (hg := (by decide)) (M0 := M6) (m := M6 0) (hm := rfl) y7) cf_X4_forgetRows k_385 rfl rfl ⟨Nat.le_of_ble_eq_true rfl, Nat.le_of_ble_eq_true rfl⟩ (r_recv hK hw (v_st (by decide) (by decide)) (E_st (by decide)) rfl) rfl hl.1 rfl (Nat.le_of_ble_eq_true rfl) ⟨Nat.le_refl _, Nat.le_refl _⟩ dX5_forget_32 (fun H locs hw hS => ?_)
      rw [← e11] at hw
      refine lv_aload_n hx hb dX5_forget_35 rfl (lv_at hl 1 rfl) ?_
      refine r_get hx hb hts hown hK hw (v_mn (by decide)) rfl E_mn inX5 rfl 1 (by decide) k_207 rfl rfl dX5_forget_36 ?_
      obtain ⟨r13, m14, y12, h⟩ := t_bd h
      obtain ⟨M15, e16, h⟩ := t_lt h
      refine c_vv hx hb hml hown hts hK hw hS (fun _ h => h) (As := []) (rest := []) (c_X4_settle hcv (g := 0) (hg := (by decide)) (M0 := M10) (m := M10 0) (hm := rfl) y12) cf_X4_settle k_297 rfl rfl ⟨Nat.le_of_ble_eq_true rfl, Nat.le_of_ble_eq_true rfl⟩ (r_recv hK hw (v_st (by decide) (by decide)) (E_st (by decide)) rfl) rfl hl.1 rfl (Nat.le_of_ble_eq_true rfl) ⟨Nat.le_refl _, Nat.le_refl _⟩ dX5_forget_39 (fun H locs hw hS => ?_)
      rw [← e16] at hw
      refine lv_iload_n hx hb dX5_forget_42 rfl (lv_at hl 0 rfl) ?_
      have e1 := (t_ret h).1
      have e2 := (t_ret h).2
      exact e_i hx hb hr hlk hw hS e1 e2 dX5_forget_43
    · replace h := t_pos h q3
      refine lv_bipush (v := -5) hx hb dX5_forget_14 (by decide) ?_
      have e1 := (t_ret h).1
      have e2 := (t_ret h).2
      exact e_i hx hb hr hlk hw hS e1 e2 dX5_forget_16
  exact main _ _ hw hS ls hl

theorem cf_X5_ask : cfV RX5 yX5_ask cX5_ask 7 (some .int) 4 := ⟨⟨k_391, k_392, k_1, k_393⟩, by decide +kernel⟩
def f_X5_ask_L55 (p0 : Int32) (p1 : Int32) (p2 : Int32) (p3 : Int32) (M : MM) (s0 : Int32) : Option (Int32 × MM) :=
  (if s0 = (nI 0) then some ((-2 : Int32), M) else (if (M 0 0 3) < (nI 6) then bd (f_X2_record M) fun r4 M5 => bd (f_X4_appendQuestion (M5 0) p0 p1 p2 p3) fun r7 m8 => lt1 (gs M5 0 m8) fun M9 => bd (f_X4_settle (M9 0)) fun r12 m13 => lt1 (gs M9 0 m13) fun M14 => some (r7, M14) else some ((-3 : Int32), M)))
def f_X5_ask_L54 (p0 : Int32) (p1 : Int32) (p2 : Int32) (p3 : Int32) (M : MM) : Option (Int32 × MM) :=
  f_X5_ask_L55 p0 p1 p2 p3 M (nI 0)
def f_X5_ask_L33 (p0 : Int32) (p1 : Int32) (p2 : Int32) (p3 : Int32) (M : MM) (s2 : Int32) : Option (Int32 × MM) :=
  b1 (f_X5_isFromTo p2 (nI 0) s2) fun r2 => (if r2 = (nI 0) then f_X5_ask_L54 p0 p1 p2 p3 M else b1 (f_X5_isFromTo p3 (nI 0) (nI 99999)) fun r5 => (if r5 = (nI 0) then f_X5_ask_L54 p0 p1 p2 p3 M else f_X5_ask_L55 p0 p1 p2 p3 M (nI 1)))
def f_X5_ask (M : MM) (p0 : Int32) (p1 : Int32) (p2 : Int32) (p3 : Int32) : Option (Int32 × MM) :=
  b1 (f_X5_isFromTo p0 (nI 0) (nI 4)) fun r2 => (if r2 = (nI 0) then f_X5_ask_L54 p0 p1 p2 p3 M else b1 (f_X5_isFromTo p1 (nI 1) (nI 15)) fun r5 => (if r5 = (nI 0) then f_X5_ask_L54 p0 p1 p2 p3 M else (if p0 = (nI 1) then f_X5_ask_L33 p0 p1 p2 p3 M (nI 999) else f_X5_ask_L33 p0 p1 p2 p3 M (nI 0))))
set_option maxHeartbeats 4000000 in
set_option maxRecDepth 100000 in
theorem c_X5_ask {l : Launch} {D : va_G} {cy : Nat → ClassId} {ad : Nat → Nat → Nat} (hcv : CV ad) {M : MM} {p0 p1 p2 p3 : Int32} {r : Int32} {x : MM} (h : f_X5_ask M p0 p1 p2 p3 = some (r, x)) : Met l yX5_ask (.code yX5_ask cX5_ask 7 (some .int) :: TB) ({ frames := 4, cells := 0, slots := 0, locals := 124 } : Room) (PW D cy ad M [.ref (ad 8 0), .int p0, .int p1, .int p2, .int p3]) (QI D cy ad r x) 0 0 (AD ad) := by
  refine m_in (by decide +kernel) (Nat.le_of_ble_eq_true rfl) ?_
  intro p e s md args below meth c hC hw hS ls hl
  obtain ⟨hx, hb, hr, hml, hown, hts, hK, hlk⟩ := hC
  have hl : lv_has ls 7 [(0, .ref (ad 8 0)), (1, .int p0), (2, .int p1), (3, .int p2), (4, .int p3)] := hl
  have L55 : ∀ (M : MM) (s0 : Int32), f_X5_ask_L55 p0 p1 p2 p3 M s0 = some (r, x) → JL p l e ({ frames := 4, cells := 0, slots := 0, locals := 124 } : Room) s md args below meth c D cy ad (MQ below (QI D cy ad r x) args s 0 0 (AD ad)) (M) 7 [(0, .ref (ad 8 0)), (1, .int p0), (2, .int p1), (3, .int p2), (4, .int p3)] 55 [.int s0] := by
    intro M s0 h H locs hw hS ls hl
    unfold f_X5_ask_L55 at h
    refine lv_istore (lv' := [(5, .int s0), (0, .ref (ad 8 0)), (1, .int p0), (2, .int p1), (3, .int p2), (4, .int p3)]) hx hb dX5_ask_55 hl (by decide) rfl (fun ls hl => ?_)
    refine lv_iload hx hb dX5_ask_57 (lv_at hl 0 rfl) ?_
    refine lv_if_ne (tgt := 65) hx hb dX5_ask_59 (by decide) (fun q1 => ?_) (fun q1 => ?_)
    · replace h := t_neg h q1
      refine lv_aload_n hx hb dX5_ask_65 rfl (lv_at hl 1 rfl) ?_
      refine r_get hx hb hts hown hK hw (v_mn (by decide)) rfl E_mn inX5 rfl 1 (by decide) k_207 rfl rfl dX5_ask_66 ?_
      refine r_get hx hb hts hown hK hw (v_st (by decide) (by decide)) rfl (E_st (by decide)) inX4 rfl 3 (by decide) k_168 rfl rfl dX5_ask_69 ?_
      refine lv_bipush (v := nI 6) hx hb dX5_ask_72 (by decide) ?_
      refine lv_icmp_lt (tgt := 80) hx hb dX5_ask_74 (by decide) (fun q2 => ?_) (fun q2 => ?_)
      · replace h := t_pos h q2
        refine lv_aload_n hx hb dX5_ask_80 rfl (lv_at hl 1 rfl) ?_
        refine r_get hx hb hts hown hK hw (v_mn (by decide)) rfl E_mn inX5 rfl 4 (by decide) k_210 rfl rfl dX5_ask_81 ?_
        refine lv_aload_n hx hb dX5_ask_84 rfl (lv_at hl 1 rfl) ?_
        refine r_get hx hb hts hown hK hw (v_mn (by decide)) rfl E_mn inX5 rfl 1 (by decide) k_207 rfl rfl dX5_ask_85 ?_
        obtain ⟨r4, M5, y3, h⟩ := t_bd h
        refine c_vv hx hb hml hown hts hK hw hS (fun _ h => h) (As := [.ref (ad 0 0)]) (rest := []) (c_X2_record hcv (M := M) y3) cf_X2_record k_256 rfl rfl ⟨Nat.le_of_ble_eq_true rfl, Nat.le_of_ble_eq_true rfl⟩ (r_recv hK hw (v_mn (by decide)) E_hi rfl) rfl hl.1 rfl (Nat.le_of_ble_eq_true rfl) ⟨Nat.le_refl _, Nat.le_refl _⟩ dX5_ask_88 (fun H locs hw hS => ?_)
        refine lv_aload_n hx hb dX5_ask_91 rfl (lv_at hl 1 rfl) ?_
        refine r_get hx hb hts hown hK hw (v_mn (by decide)) rfl E_mn inX5 rfl 1 (by decide) k_207 rfl rfl dX5_ask_92 ?_
        refine lv_iload_n hx hb dX5_ask_95 rfl (lv_at hl 2 rfl) ?_
        refine lv_iload_n hx hb dX5_ask_96 rfl (lv_at hl 3 rfl) ?_
        refine lv_iload_n hx hb dX5_ask_97 rfl (lv_at hl 4 rfl) ?_
        refine lv_iload hx hb dX5_ask_98 (lv_at hl 5 rfl) ?_
        obtain ⟨r7, m8, y6, h⟩ := t_bd h
        obtain ⟨M9, e10, h⟩ := t_lt h
        refine c_vi hx hb hml hown hts hK hw hS (fun _ h => h) (As := [.int p0, .int p1, .int p2, .int p3]) (rest := []) (c_X4_appendQuestion hcv (g := 0) (hg := (by decide)) (M0 := M5) (m := M5 0) (hm := rfl) y6) cf_X4_appendQuestion k_396 rfl rfl ⟨Nat.le_of_ble_eq_true rfl, Nat.le_of_ble_eq_true rfl⟩ (r_recv hK hw (v_st (by decide) (by decide)) (E_st (by decide)) rfl) rfl hl.1 rfl (Nat.le_of_ble_eq_true rfl) ⟨Nat.le_refl _, Nat.le_refl _⟩ dX5_ask_100 (fun H locs hw hS => ?_)
        rw [← e10] at hw
        refine lv_istore (lv' := [(6, .int r7), (5, .int s0), (0, .ref (ad 8 0)), (1, .int p0), (2, .int p1), (3, .int p2), (4, .int p3)]) hx hb dX5_ask_103 hl (by decide) rfl (fun ls hl => ?_)
        refine lv_aload_n hx hb dX5_ask_105 rfl (lv_at hl 2 rfl) ?_
        refine r_get hx hb hts hown hK hw (v_mn (by decide)) rfl E_mn inX5 rfl 1 (by decide) k_207 rfl rfl dX5_ask_106 ?_
        obtain ⟨r12, m13, y11, h⟩ := t_bd h
        obtain ⟨M14, e15, h⟩ := t_lt h
        refine c_vv hx hb hml hown hts hK hw hS (fun _ h => h) (As := []) (rest := []) (c_X4_settle hcv (g := 0) (hg := (by decide)) (M0 := M9) (m := M9 0) (hm := rfl) y11) cf_X4_settle k_297 rfl rfl ⟨Nat.le_of_ble_eq_true rfl, Nat.le_of_ble_eq_true rfl⟩ (r_recv hK hw (v_st (by decide) (by decide)) (E_st (by decide)) rfl) rfl hl.1 rfl (Nat.le_of_ble_eq_true rfl) ⟨Nat.le_refl _, Nat.le_refl _⟩ dX5_ask_109 (fun H locs hw hS => ?_)
        rw [← e15] at hw
        refine lv_iload hx hb dX5_ask_112 (lv_at hl 0 rfl) ?_
        have e1 := (t_ret h).1
        have e2 := (t_ret h).2
        exact e_i hx hb hr hlk hw hS e1 e2 dX5_ask_114
      · replace h := t_neg h q2
        refine lv_bipush (v := -3) hx hb dX5_ask_77 (by decide) ?_
        have e1 := (t_ret h).1
        have e2 := (t_ret h).2
        exact e_i hx hb hr hlk hw hS e1 e2 dX5_ask_79
    · replace h := t_pos h q1
      refine lv_bipush (v := -2) hx hb dX5_ask_62 (by decide) ?_
      have e1 := (t_ret h).1
      have e2 := (t_ret h).2
      exact e_i hx hb hr hlk hw hS e1 e2 dX5_ask_64
  have L54 : ∀ (M : MM), f_X5_ask_L54 p0 p1 p2 p3 M = some (r, x) → JL p l e ({ frames := 4, cells := 0, slots := 0, locals := 124 } : Room) s md args below meth c D cy ad (MQ below (QI D cy ad r x) args s 0 0 (AD ad)) (M) 7 [(0, .ref (ad 8 0)), (1, .int p0), (2, .int p1), (3, .int p2), (4, .int p3)] 54 [] := by
    intro M h H locs hw hS ls hl
    unfold f_X5_ask_L54 at h
    refine lv_iconst (v := nI 0) hx hb dX5_ask_54 (by decide) ?_
    exact L55 M (nI 0) h H locs hw hS ls (lv_sub hl [0, 1, 2, 3, 4] rfl)
  have L33 : ∀ (M : MM) (s2 : Int32), f_X5_ask_L33 p0 p1 p2 p3 M s2 = some (r, x) → JL p l e ({ frames := 4, cells := 0, slots := 0, locals := 124 } : Room) s md args below meth c D cy ad (MQ below (QI D cy ad r x) args s 0 0 (AD ad)) (M) 7 [(0, .ref (ad 8 0)), (1, .int p0), (2, .int p1), (3, .int p2), (4, .int p3)] 33 [.int s2, .int (nI 0), .int p2] := by
    intro M s2 h H locs hw hS ls hl
    unfold f_X5_ask_L33 at h
    obtain ⟨r2, y1, h⟩ := t_b1 h
    refine c_si hx hb hml hown hts hK hw hS (fun _ h => h) (As := [.int p2, .int (nI 0), .int s2]) (rest := []) (c_X5_isFromTo hcv (M0 := M) y1) cf_X5_isFromTo k_394 rfl rfl ⟨Nat.le_of_ble_eq_true rfl, Nat.le_of_ble_eq_true rfl⟩ rfl hl.1 rfl (Nat.le_of_ble_eq_true rfl) ⟨Nat.le_refl _, Nat.le_refl _⟩ dX5_ask_33 (fun H locs hw hS => ?_)
    refine lv_if_eq (tgt := 54) hx hb dX5_ask_36 (by decide) (fun q3 => ?_) (fun q3 => ?_)
    · replace h := t_pos h q3
      exact L54 M h H locs hw hS ls (lv_sub hl [0, 1, 2, 3, 4] rfl)
    · replace h := t_neg h q3
      refine lv_iload hx hb dX5_ask_39 (lv_at hl 4 rfl) ?_
      refine lv_iconst (v := nI 0) hx hb dX5_ask_41 (by decide) ?_
      refine lv_ldc (v := nI 99999) hx hb hown (hts _ k_395) dX5_ask_42 ?_
      obtain ⟨r5, y4, h⟩ := t_b1 h
      refine c_si hx hb hml hown hts hK hw hS (fun _ h => h) (As := [.int p3, .int (nI 0), .int (nI 99999)]) (rest := []) (c_X5_isFromTo hcv (M0 := M) y4) cf_X5_isFromTo k_394 rfl rfl ⟨Nat.le_of_ble_eq_true rfl, Nat.le_of_ble_eq_true rfl⟩ rfl hl.1 rfl (Nat.le_of_ble_eq_true rfl) ⟨Nat.le_refl _, Nat.le_refl _⟩ dX5_ask_44 (fun H locs hw hS => ?_)
      refine lv_if_eq (tgt := 54) hx hb dX5_ask_47 (by decide) (fun q6 => ?_) (fun q6 => ?_)
      · replace h := t_pos h q6
        exact L54 M h H locs hw hS ls (lv_sub hl [0, 1, 2, 3, 4] rfl)
      · replace h := t_neg h q6
        refine lv_iconst (v := nI 1) hx hb dX5_ask_50 (by decide) ?_
        refine lv_goto (tgt := 55) hx hb dX5_ask_51 (by decide) ?_
        exact L55 M (nI 1) h H locs hw hS ls (lv_sub hl [0, 1, 2, 3, 4] rfl)
  unfold f_X5_ask at h
  have main : JL p l e ({ frames := 4, cells := 0, slots := 0, locals := 124 } : Room) s md args below meth c D cy ad (MQ below (QI D cy ad r x) args s 0 0 (AD ad)) (M) 7 [(0, .ref (ad 8 0)), (1, .int p0), (2, .int p1), (3, .int p2), (4, .int p3)] 0 [] := by
    intro H locs hw hS ls hl
    refine lv_iload_n hx hb dX5_ask_0 rfl (lv_at hl 1 rfl) ?_
    refine lv_iconst (v := nI 0) hx hb dX5_ask_1 (by decide) ?_
    refine lv_iconst (v := nI 4) hx hb dX5_ask_2 (by decide) ?_
    obtain ⟨r2, y1, h⟩ := t_b1 h
    refine c_si hx hb hml hown hts hK hw hS (fun _ h => h) (As := [.int p0, .int (nI 0), .int (nI 4)]) (rest := []) (c_X5_isFromTo hcv (M0 := M) y1) cf_X5_isFromTo k_394 rfl rfl ⟨Nat.le_of_ble_eq_true rfl, Nat.le_of_ble_eq_true rfl⟩ rfl hl.1 rfl (Nat.le_of_ble_eq_true rfl) ⟨Nat.le_refl _, Nat.le_refl _⟩ dX5_ask_3 (fun H locs hw hS => ?_)
    refine lv_if_eq (tgt := 54) hx hb dX5_ask_6 (by decide) (fun q3 => ?_) (fun q3 => ?_)
    · replace h := t_pos h q3
      exact L54 M h H locs hw hS ls (lv_sub hl [0, 1, 2, 3, 4] rfl)
    · replace h := t_neg h q3
      refine lv_iload_n hx hb dX5_ask_9 rfl (lv_at hl 2 rfl) ?_
      refine lv_iconst (v := nI 1) hx hb dX5_ask_10 (by decide) ?_
      refine lv_bipush (v := nI 15) hx hb dX5_ask_11 (by decide) ?_
      obtain ⟨r5, y4, h⟩ := t_b1 h
      refine c_si hx hb hml hown hts hK hw hS (fun _ h => h) (As := [.int p1, .int (nI 1), .int (nI 15)]) (rest := []) (c_X5_isFromTo hcv (M0 := M) y4) cf_X5_isFromTo k_394 rfl rfl ⟨Nat.le_of_ble_eq_true rfl, Nat.le_of_ble_eq_true rfl⟩ rfl hl.1 rfl (Nat.le_of_ble_eq_true rfl) ⟨Nat.le_refl _, Nat.le_refl _⟩ dX5_ask_13 (fun H locs hw hS => ?_)
      refine lv_if_eq (tgt := 54) hx hb dX5_ask_16 (by decide) (fun q6 => ?_) (fun q6 => ?_)
      · replace h := t_pos h q6
        exact L54 M h H locs hw hS ls (lv_sub hl [0, 1, 2, 3, 4] rfl)
      · replace h := t_neg h q6
        refine lv_iload_n hx hb dX5_ask_19 rfl (lv_at hl 3 rfl) ?_
        refine lv_iconst (v := nI 0) hx hb dX5_ask_20 (by decide) ?_
        refine lv_iload_n hx hb dX5_ask_21 rfl (lv_at hl 1 rfl) ?_
        refine lv_iconst (v := nI 1) hx hb dX5_ask_22 (by decide) ?_
        refine lv_icmp_ne (tgt := 32) hx hb dX5_ask_23 (by decide) (fun q7 => ?_) (fun q7 => ?_)
        · replace h := t_neg h q7
          refine lv_iconst (v := nI 0) hx hb dX5_ask_32 (by decide) ?_
          exact L33 M (nI 0) h H locs hw hS ls (lv_sub hl [0, 1, 2, 3, 4] rfl)
        · replace h := t_pos h q7
          refine lv_sipush (v := nI 999) hx hb dX5_ask_26 (by decide) ?_
          refine lv_goto (tgt := 33) hx hb dX5_ask_29 (by decide) ?_
          exact L33 M (nI 999) h H locs hw hS ls (lv_sub hl [0, 1, 2, 3, 4] rfl)
  exact main _ _ hw hS ls hl

theorem cf_X5_setTolerance : cfV RX5 yX5_setTolerance cX5_setTolerance 5 (some .int) 2 := ⟨⟨k_401, k_402, k_1, k_403⟩, by decide +kernel⟩
def f_X5_setTolerance (M : MM) (p0 : Int32) (p1 : Int32) : Option (Int32 × MM) :=
  b1 (f_X4_hasQuestion (M 0) p0) fun r2 => (if r2 = (nI 0) then some ((-1 : Int32), M) else b1 (f_X5_isFromTo p1 (nI 0) (nI 99999)) fun r5 => (if r5 = (nI 0) then some ((-2 : Int32), M) else gd p0 6 ((if (M 0 (19 + p0.toNatClampNeg) 4) = (nI 0) then (if (M 0 (19 + p0.toNatClampNeg) 3) = p1 then some ((-5 : Int32), M) else bd (f_X2_record M) fun r11 M12 => lt1 (gs M12 0 (up (M12 0) (19 + p0.toNatClampNeg) 3 p1)) fun M14 => bd (f_X4_settle (M14 0)) fun r16 m17 => lt1 (gs M14 0 m17) fun M18 => some ((M 0 (19 + p0.toNatClampNeg) 3), M18)) else some ((-4 : Int32), M)))))
set_option maxHeartbeats 4000000 in
set_option maxRecDepth 100000 in
theorem c_X5_setTolerance {l : Launch} {D : va_G} {cy : Nat → ClassId} {ad : Nat → Nat → Nat} (hcv : CV ad) {M : MM} {p0 p1 : Int32} {r : Int32} {x : MM} (h : f_X5_setTolerance M p0 p1 = some (r, x)) : Met l yX5_setTolerance (.code yX5_setTolerance cX5_setTolerance 5 (some .int) :: TB) ({ frames := 4, cells := 0, slots := 0, locals := 124 } : Room) (PW D cy ad M [.ref (ad 8 0), .int p0, .int p1]) (QI D cy ad r x) 0 0 (AD ad) := by
  refine m_in (by decide +kernel) (Nat.le_of_ble_eq_true rfl) ?_
  intro p e s md args below meth c hC hw hS ls hl
  obtain ⟨hx, hb, hr, hml, hown, hts, hK, hlk⟩ := hC
  have hl : lv_has ls 5 [(0, .ref (ad 8 0)), (1, .int p0), (2, .int p1)] := hl
  unfold f_X5_setTolerance at h
  have main : JL p l e ({ frames := 4, cells := 0, slots := 0, locals := 124 } : Room) s md args below meth c D cy ad (MQ below (QI D cy ad r x) args s 0 0 (AD ad)) (M) 5 [(0, .ref (ad 8 0)), (1, .int p0), (2, .int p1)] 0 [] := by
    intro H locs hw hS ls hl
    refine lv_aload_n hx hb dX5_setTolerance_0 rfl (lv_at hl 0 rfl) ?_
    refine r_get hx hb hts hown hK hw (v_mn (by decide)) rfl E_mn inX5 rfl 1 (by decide) k_207 rfl rfl dX5_setTolerance_1 ?_
    refine lv_iload_n hx hb dX5_setTolerance_4 rfl (lv_at hl 1 rfl) ?_
    obtain ⟨r2, y1, h⟩ := t_b1 h
    refine c_vi hx hb hml hown hts hK hw hS (fun _ h => h) (As := [.int p0]) (rest := []) (c_X4_hasQuestion hcv (g := 0) (hg := (by decide)) (M0 := M) (m := M 0) (hm := rfl) y1) cf_X4_hasQuestion k_404 rfl rfl ⟨Nat.le_of_ble_eq_true rfl, Nat.le_of_ble_eq_true rfl⟩ (r_recv hK hw (v_st (by decide) (by decide)) (E_st (by decide)) rfl) rfl hl.1 rfl (Nat.le_of_ble_eq_true rfl) ⟨Nat.le_refl _, Nat.le_refl _⟩ dX5_setTolerance_5 (fun H locs hw hS => ?_)
    refine lv_if_ne (tgt := 13) hx hb dX5_setTolerance_8 (by decide) (fun q3 => ?_) (fun q3 => ?_)
    · replace h := t_neg h q3
      refine lv_iload_n hx hb dX5_setTolerance_13 rfl (lv_at hl 2 rfl) ?_
      refine lv_iconst (v := nI 0) hx hb dX5_setTolerance_14 (by decide) ?_
      refine lv_ldc (v := nI 99999) hx hb hown (hts _ k_395) dX5_setTolerance_15 ?_
      obtain ⟨r5, y4, h⟩ := t_b1 h
      refine c_si hx hb hml hown hts hK hw hS (fun _ h => h) (As := [.int p1, .int (nI 0), .int (nI 99999)]) (rest := []) (c_X5_isFromTo hcv (M0 := M) y4) cf_X5_isFromTo k_394 rfl rfl ⟨Nat.le_of_ble_eq_true rfl, Nat.le_of_ble_eq_true rfl⟩ rfl hl.1 rfl (Nat.le_of_ble_eq_true rfl) ⟨Nat.le_refl _, Nat.le_refl _⟩ dX5_setTolerance_17 (fun H locs hw hS => ?_)
      refine lv_if_ne (tgt := 26) hx hb dX5_setTolerance_20 (by decide) (fun q6 => ?_) (fun q6 => ?_)
      · replace h := t_neg h q6
        refine lv_aload_n hx hb dX5_setTolerance_26 rfl (lv_at hl 0 rfl) ?_
        refine r_get hx hb hts hown hK hw (v_mn (by decide)) rfl E_mn inX5 rfl 1 (by decide) k_207 rfl rfl dX5_setTolerance_27 ?_
        refine r_get hx hb hts hown hK hw (v_st (by decide) (by decide)) rfl (E_st (by decide)) inX4 rfl 1 (by decide) k_164 rfl rfl dX5_setTolerance_30 ?_
        refine lv_iload_n hx hb dX5_setTolerance_33 rfl (lv_at hl 1 rfl) ?_
        obtain ⟨q7, h⟩ := t_gd h
        refine r_aald hx hb hK hw (v_st (by decide) (by decide)) (t0 := 3) rfl (E_qa (by decide)) (v := .ref (ad 0 (19 + p0.toNatClampNeg))) rfl q7 dX5_setTolerance_34 ?_
        refine lv_astore_n (lv' := [(3, .ref (ad 0 (19 + p0.toNatClampNeg))), (0, .ref (ad 8 0)), (1, .int p0), (2, .int p1)]) hx hb dX5_setTolerance_35 rfl hl (by decide) rfl (fun ls hl => ?_)
        refine lv_aload_n hx hb dX5_setTolerance_36 rfl (lv_at hl 0 rfl) ?_
        refine r_get hx hb hts hown hK hw (v_qu (by decide) (vin q7)) rfl (E_qu (by decide)) inX3 rfl 4 (by decide) k_135 rfl rfl dX5_setTolerance_37 ?_
        refine lv_if_eq (tgt := 46) hx hb dX5_setTolerance_40 (by decide) (fun q8 => ?_) (fun q8 => ?_)
        · replace h := t_pos h q8
          refine lv_aload_n hx hb dX5_setTolerance_46 rfl (lv_at hl 0 rfl) ?_
          refine r_get hx hb hts hown hK hw (v_qu (by decide) (vin q7)) rfl (E_qu (by decide)) inX3 rfl 3 (by decide) k_132 rfl rfl dX5_setTolerance_47 ?_
          refine lv_istore (lv' := [(4, .int (M 0 (19 + p0.toNatClampNeg) 3)), (3, .ref (ad 0 (19 + p0.toNatClampNeg))), (0, .ref (ad 8 0)), (1, .int p0), (2, .int p1)]) hx hb dX5_setTolerance_50 hl (by decide) rfl (fun ls hl => ?_)
          refine lv_iload hx hb dX5_setTolerance_52 (lv_at hl 0 rfl) ?_
          refine lv_iload_n hx hb dX5_setTolerance_54 rfl (lv_at hl 4 rfl) ?_
          refine lv_icmp_ne (tgt := 61) hx hb dX5_setTolerance_55 (by decide) (fun q9 => ?_) (fun q9 => ?_)
          · replace h := t_neg h q9
            refine lv_aload_n hx hb dX5_setTolerance_61 rfl (lv_at hl 2 rfl) ?_
            refine r_get hx hb hts hown hK hw (v_mn (by decide)) rfl E_mn inX5 rfl 4 (by decide) k_210 rfl rfl dX5_setTolerance_62 ?_
            refine lv_aload_n hx hb dX5_setTolerance_65 rfl (lv_at hl 2 rfl) ?_
            refine r_get hx hb hts hown hK hw (v_mn (by decide)) rfl E_mn inX5 rfl 1 (by decide) k_207 rfl rfl dX5_setTolerance_66 ?_
            obtain ⟨r11, M12, y10, h⟩ := t_bd h
            refine c_vv hx hb hml hown hts hK hw hS (fun _ h => h) (As := [.ref (ad 0 0)]) (rest := []) (c_X2_record hcv (M := M) y10) cf_X2_record k_256 rfl rfl ⟨Nat.le_of_ble_eq_true rfl, Nat.le_of_ble_eq_true rfl⟩ (r_recv hK hw (v_mn (by decide)) E_hi rfl) rfl hl.1 rfl (Nat.le_of_ble_eq_true rfl) ⟨Nat.le_refl _, Nat.le_refl _⟩ dX5_setTolerance_69 (fun H locs hw hS => ?_)
            refine lv_aload_n hx hb dX5_setTolerance_72 rfl (lv_at hl 1 rfl) ?_
            refine lv_iload_n hx hb dX5_setTolerance_73 rfl (lv_at hl 4 rfl) ?_
            obtain ⟨M14, e13, h⟩ := t_lt h
            refine r_put hx hb hts hown hK hcv hw hS (v_qu (by decide) (vin q7)) rfl (E_qu (by decide)) inX3 rfl tyX3 tyX3_ok nmX3 3 (by decide) k_132 rfl rfl rfl rfl (Nat.le_of_ble_eq_true rfl) (E_qu (by decide)) e13.symm dX5_setTolerance_74 (fun H locs hw hS => ?_)
            refine lv_aload_n hx hb dX5_setTolerance_77 rfl (lv_at hl 2 rfl) ?_
            refine r_get hx hb hts hown hK hw (v_mn (by decide)) rfl E_mn inX5 rfl 1 (by decide) k_207 rfl rfl dX5_setTolerance_78 ?_
            obtain ⟨r16, m17, y15, h⟩ := t_bd h
            obtain ⟨M18, e19, h⟩ := t_lt h
            refine c_vv hx hb hml hown hts hK hw hS (fun _ h => h) (As := []) (rest := []) (c_X4_settle hcv (g := 0) (hg := (by decide)) (M0 := M14) (m := M14 0) (hm := rfl) y15) cf_X4_settle k_297 rfl rfl ⟨Nat.le_of_ble_eq_true rfl, Nat.le_of_ble_eq_true rfl⟩ (r_recv hK hw (v_st (by decide) (by decide)) (E_st (by decide)) rfl) rfl hl.1 rfl (Nat.le_of_ble_eq_true rfl) ⟨Nat.le_refl _, Nat.le_refl _⟩ dX5_setTolerance_81 (fun H locs hw hS => ?_)
            rw [← e19] at hw
            refine lv_iload hx hb dX5_setTolerance_84 (lv_at hl 0 rfl) ?_
            have e1 := (t_ret h).1
            have e2 := (t_ret h).2
            exact e_i hx hb hr hlk hw hS e1 e2 dX5_setTolerance_86
          · replace h := t_pos h q9
            refine lv_bipush (v := -5) hx hb dX5_setTolerance_58 (by decide) ?_
            have e1 := (t_ret h).1
            have e2 := (t_ret h).2
            exact e_i hx hb hr hlk hw hS e1 e2 dX5_setTolerance_60
        · replace h := t_neg h q8
          refine lv_bipush (v := -4) hx hb dX5_setTolerance_43 (by decide) ?_
          have e1 := (t_ret h).1
          have e2 := (t_ret h).2
          exact e_i hx hb hr hlk hw hS e1 e2 dX5_setTolerance_45
      · replace h := t_pos h q6
        refine lv_bipush (v := -2) hx hb dX5_setTolerance_23 (by decide) ?_
        have e1 := (t_ret h).1
        have e2 := (t_ret h).2
        exact e_i hx hb hr hlk hw hS e1 e2 dX5_setTolerance_25
    · replace h := t_pos h q3
      refine lv_iconst (v := -1) hx hb dX5_setTolerance_11 (by decide) ?_
      have e1 := (t_ret h).1
      have e2 := (t_ret h).2
      exact e_i hx hb hr hlk hw hS e1 e2 dX5_setTolerance_12
  exact main _ _ hw hS ls hl

theorem cf_X5_stop : cfV RX5 yX5_stop cX5_stop 3 (some .int) 1 := ⟨⟨k_409, k_410, k_1, k_411⟩, by decide +kernel⟩
def f_X5_stop (M : MM) (p0 : Int32) : Option (Int32 × MM) :=
  b1 (f_X4_hasQuestion (M 0) p0) fun r2 => (if r2 = (nI 0) then some ((-1 : Int32), M) else gd p0 6 ((if (M 0 (19 + p0.toNatClampNeg) 4) = (nI 0) then b1 (f_X4_rows (M 0) (M 0 (19 + p0.toNatClampNeg) 1)) fun r7 => (if r7 = (nI 0) then some ((-4 : Int32), M) else bd (f_X2_record M) fun r10 M11 => b1 (f_X4_answer (M11 0) p0.toNatClampNeg (nI 2)) fun r13 => bd (f_X3_finish (M11 0) p0.toNatClampNeg r13) fun r15 m16 => lt1 (gs M11 0 m16) fun M17 => bd (f_X4_settle (M17 0)) fun r20 m21 => lt1 (gs M17 0 m21) fun M22 => some ((M22 0 (19 + p0.toNatClampNeg) 7), M22)) else some ((-4 : Int32), M))))
set_option maxHeartbeats 4000000 in
set_option maxRecDepth 100000 in
theorem c_X5_stop {l : Launch} {D : va_G} {cy : Nat → ClassId} {ad : Nat → Nat → Nat} (hcv : CV ad) {M : MM} {p0 : Int32} {r : Int32} {x : MM} (h : f_X5_stop M p0 = some (r, x)) : Met l yX5_stop (.code yX5_stop cX5_stop 3 (some .int) :: TB) ({ frames := 4, cells := 0, slots := 0, locals := 124 } : Room) (PW D cy ad M [.ref (ad 8 0), .int p0]) (QI D cy ad r x) 0 0 (AD ad) := by
  refine m_in (by decide +kernel) (Nat.le_of_ble_eq_true rfl) ?_
  intro p e s md args below meth c hC hw hS ls hl
  obtain ⟨hx, hb, hr, hml, hown, hts, hK, hlk⟩ := hC
  have hl : lv_has ls 3 [(0, .ref (ad 8 0)), (1, .int p0)] := hl
  unfold f_X5_stop at h
  have main : JL p l e ({ frames := 4, cells := 0, slots := 0, locals := 124 } : Room) s md args below meth c D cy ad (MQ below (QI D cy ad r x) args s 0 0 (AD ad)) (M) 3 [(0, .ref (ad 8 0)), (1, .int p0)] 0 [] := by
    intro H locs hw hS ls hl
    refine lv_aload_n hx hb dX5_stop_0 rfl (lv_at hl 0 rfl) ?_
    refine r_get hx hb hts hown hK hw (v_mn (by decide)) rfl E_mn inX5 rfl 1 (by decide) k_207 rfl rfl dX5_stop_1 ?_
    refine lv_iload_n hx hb dX5_stop_4 rfl (lv_at hl 1 rfl) ?_
    obtain ⟨r2, y1, h⟩ := t_b1 h
    refine c_vi hx hb hml hown hts hK hw hS (fun _ h => h) (As := [.int p0]) (rest := []) (c_X4_hasQuestion hcv (g := 0) (hg := (by decide)) (M0 := M) (m := M 0) (hm := rfl) y1) cf_X4_hasQuestion k_404 rfl rfl ⟨Nat.le_of_ble_eq_true rfl, Nat.le_of_ble_eq_true rfl⟩ (r_recv hK hw (v_st (by decide) (by decide)) (E_st (by decide)) rfl) rfl hl.1 rfl (Nat.le_of_ble_eq_true rfl) ⟨Nat.le_refl _, Nat.le_refl _⟩ dX5_stop_5 (fun H locs hw hS => ?_)
    refine lv_if_ne (tgt := 13) hx hb dX5_stop_8 (by decide) (fun q3 => ?_) (fun q3 => ?_)
    · replace h := t_neg h q3
      refine lv_aload_n hx hb dX5_stop_13 rfl (lv_at hl 0 rfl) ?_
      refine r_get hx hb hts hown hK hw (v_mn (by decide)) rfl E_mn inX5 rfl 1 (by decide) k_207 rfl rfl dX5_stop_14 ?_
      refine r_get hx hb hts hown hK hw (v_st (by decide) (by decide)) rfl (E_st (by decide)) inX4 rfl 1 (by decide) k_164 rfl rfl dX5_stop_17 ?_
      refine lv_iload_n hx hb dX5_stop_20 rfl (lv_at hl 1 rfl) ?_
      obtain ⟨q4, h⟩ := t_gd h
      refine r_aald hx hb hK hw (v_st (by decide) (by decide)) (t0 := 3) rfl (E_qa (by decide)) (v := .ref (ad 0 (19 + p0.toNatClampNeg))) rfl q4 dX5_stop_21 ?_
      refine lv_astore_n (lv' := [(2, .ref (ad 0 (19 + p0.toNatClampNeg))), (0, .ref (ad 8 0)), (1, .int p0)]) hx hb dX5_stop_22 rfl hl (by decide) rfl (fun ls hl => ?_)
      refine lv_aload_n hx hb dX5_stop_23 rfl (lv_at hl 0 rfl) ?_
      refine r_get hx hb hts hown hK hw (v_qu (by decide) (vin q4)) rfl (E_qu (by decide)) inX3 rfl 4 (by decide) k_135 rfl rfl dX5_stop_24 ?_
      refine lv_if_ne (tgt := 44) hx hb dX5_stop_27 (by decide) (fun q5 => ?_) (fun q5 => ?_)
      · replace h := t_neg h q5
        refine lv_bipush (v := -4) hx hb dX5_stop_44 (by decide) ?_
        have e1 := (t_ret h).1
        have e2 := (t_ret h).2
        exact e_i hx hb hr hlk hw hS e1 e2 dX5_stop_46
      · replace h := t_pos h q5
        refine lv_aload_n hx hb dX5_stop_30 rfl (lv_at hl 1 rfl) ?_
        refine r_get hx hb hts hown hK hw (v_mn (by decide)) rfl E_mn inX5 rfl 1 (by decide) k_207 rfl rfl dX5_stop_31 ?_
        refine lv_aload_n hx hb dX5_stop_34 rfl (lv_at hl 0 rfl) ?_
        refine r_get hx hb hts hown hK hw (v_qu (by decide) (vin q4)) rfl (E_qu (by decide)) inX3 rfl 1 (by decide) k_126 rfl rfl dX5_stop_35 ?_
        obtain ⟨r7, y6, h⟩ := t_b1 h
        refine c_vi hx hb hml hown hts hK hw hS (fun _ h => h) (As := [.int (M 0 (19 + p0.toNatClampNeg) 1)]) (rest := []) (c_X4_rows hcv (g := 0) (hg := (by decide)) (M0 := M) (m := M 0) (hm := rfl) y6) cf_X4_rows k_412 rfl rfl ⟨Nat.le_of_ble_eq_true rfl, Nat.le_of_ble_eq_true rfl⟩ (r_recv hK hw (v_st (by decide) (by decide)) (E_st (by decide)) rfl) rfl hl.1 rfl (Nat.le_of_ble_eq_true rfl) ⟨Nat.le_refl _, Nat.le_refl _⟩ dX5_stop_38 (fun H locs hw hS => ?_)
        refine lv_if_ne (tgt := 47) hx hb dX5_stop_41 (by decide) (fun q8 => ?_) (fun q8 => ?_)
        · replace h := t_neg h q8
          refine lv_aload_n hx hb dX5_stop_47 rfl (lv_at hl 1 rfl) ?_
          refine r_get hx hb hts hown hK hw (v_mn (by decide)) rfl E_mn inX5 rfl 4 (by decide) k_210 rfl rfl dX5_stop_48 ?_
          refine lv_aload_n hx hb dX5_stop_51 rfl (lv_at hl 1 rfl) ?_
          refine r_get hx hb hts hown hK hw (v_mn (by decide)) rfl E_mn inX5 rfl 1 (by decide) k_207 rfl rfl dX5_stop_52 ?_
          obtain ⟨r10, M11, y9, h⟩ := t_bd h
          refine c_vv hx hb hml hown hts hK hw hS (fun _ h => h) (As := [.ref (ad 0 0)]) (rest := []) (c_X2_record hcv (M := M) y9) cf_X2_record k_256 rfl rfl ⟨Nat.le_of_ble_eq_true rfl, Nat.le_of_ble_eq_true rfl⟩ (r_recv hK hw (v_mn (by decide)) E_hi rfl) rfl hl.1 rfl (Nat.le_of_ble_eq_true rfl) ⟨Nat.le_refl _, Nat.le_refl _⟩ dX5_stop_55 (fun H locs hw hS => ?_)
          refine lv_aload_n hx hb dX5_stop_58 rfl (lv_at hl 0 rfl) ?_
          refine lv_aload_n hx hb dX5_stop_59 rfl (lv_at hl 1 rfl) ?_
          refine r_get hx hb hts hown hK hw (v_mn (by decide)) rfl E_mn inX5 rfl 1 (by decide) k_207 rfl rfl dX5_stop_60 ?_
          refine lv_aload_n hx hb dX5_stop_63 rfl (lv_at hl 0 rfl) ?_
          refine lv_iconst (v := nI 2) hx hb dX5_stop_64 (by decide) ?_
          obtain ⟨r13, y12, h⟩ := t_b1 h
          refine c_vi hx hb hml hown hts hK hw hS (fun _ h => h) (As := [.ref (ad 0 (19 + p0.toNatClampNeg)), .int (nI 2)]) (rest := [.ref (ad 0 (19 + p0.toNatClampNeg))]) (c_X4_answer hcv (g := 0) (hg := (by decide)) (i := p0.toNatClampNeg) (hi := (vin q4)) (M0 := M11) (m := M11 0) (hm := rfl) y12) cf_X4_answer k_413 rfl rfl ⟨Nat.le_of_ble_eq_true rfl, Nat.le_of_ble_eq_true rfl⟩ (r_recv hK hw (v_st (by decide) (by decide)) (E_st (by decide)) rfl) rfl hl.1 rfl (Nat.le_of_ble_eq_true rfl) ⟨Nat.le_refl _, Nat.le_refl _⟩ dX5_stop_65 (fun H locs hw hS => ?_)
          obtain ⟨r15, m16, y14, h⟩ := t_bd h
          obtain ⟨M17, e18, h⟩ := t_lt h
          refine c_vv hx hb hml hown hts hK hw hS (fun _ h => h) (As := [.int r13]) (rest := []) (c_X3_finish hcv (g := 0) (hg := (by decide)) (i := p0.toNatClampNeg) (hi := (vin q4)) (M0 := M11) (m := M11 0) (hm := rfl) y14) cf_X3_finish k_414 rfl rfl ⟨Nat.le_of_ble_eq_true rfl, Nat.le_of_ble_eq_true rfl⟩ (r_recv hK hw (v_qu (by decide) (vin q4)) (E_qu (by decide)) rfl) rfl hl.1 rfl (Nat.le_of_ble_eq_true rfl) ⟨Nat.le_refl _, Nat.le_refl _⟩ dX5_stop_68 (fun H locs hw hS => ?_)
          rw [← e18] at hw
          refine lv_aload_n hx hb dX5_stop_71 rfl (lv_at hl 1 rfl) ?_
          refine r_get hx hb hts hown hK hw (v_mn (by decide)) rfl E_mn inX5 rfl 1 (by decide) k_207 rfl rfl dX5_stop_72 ?_
          obtain ⟨r20, m21, y19, h⟩ := t_bd h
          obtain ⟨M22, e23, h⟩ := t_lt h
          refine c_vv hx hb hml hown hts hK hw hS (fun _ h => h) (As := []) (rest := []) (c_X4_settle hcv (g := 0) (hg := (by decide)) (M0 := M17) (m := M17 0) (hm := rfl) y19) cf_X4_settle k_297 rfl rfl ⟨Nat.le_of_ble_eq_true rfl, Nat.le_of_ble_eq_true rfl⟩ (r_recv hK hw (v_st (by decide) (by decide)) (E_st (by decide)) rfl) rfl hl.1 rfl (Nat.le_of_ble_eq_true rfl) ⟨Nat.le_refl _, Nat.le_refl _⟩ dX5_stop_75 (fun H locs hw hS => ?_)
          rw [← e23] at hw
          refine lv_aload_n hx hb dX5_stop_78 rfl (lv_at hl 0 rfl) ?_
          refine r_get hx hb hts hown hK hw (v_qu (by decide) (vin q4)) rfl (E_qu (by decide)) inX3 rfl 7 (by decide) k_143 rfl rfl dX5_stop_79 ?_
          have e1 := (t_ret h).1
          have e2 := (t_ret h).2
          exact e_i hx hb hr hlk hw hS e1 e2 dX5_stop_82
        · replace h := t_pos h q8
          refine lv_bipush (v := -4) hx hb dX5_stop_44 (by decide) ?_
          have e1 := (t_ret h).1
          have e2 := (t_ret h).2
          exact e_i hx hb hr hlk hw hS e1 e2 dX5_stop_46
    · replace h := t_pos h q3
      refine lv_iconst (v := -1) hx hb dX5_stop_11 (by decide) ?_
      have e1 := (t_ret h).1
      have e2 := (t_ret h).2
      exact e_i hx hb hr hlk hw hS e1 e2 dX5_stop_12
  exact main _ _ hw hS ls hl

theorem cf_X5_drop : cfV RX5 yX5_drop cX5_drop 2 (some .int) 1 := ⟨⟨k_416, k_417, k_1, k_418⟩, by decide +kernel⟩
def f_X5_drop (M : MM) (p0 : Int32) : Option (Int32 × MM) :=
  b1 (f_X4_hasQuestion (M 0) p0) fun r2 => (if r2 = (nI 0) then some ((-1 : Int32), M) else bd (f_X2_record M) fun r5 M6 => bd (f_X4_removeQuestion (M6 0) p0) fun r8 m9 => lt1 (gs M6 0 m9) fun M10 => bd (f_X4_settle (M10 0)) fun r13 m14 => lt1 (gs M10 0 m14) fun M15 => some ((M15 0 0 3), M15))
set_option maxHeartbeats 4000000 in
set_option maxRecDepth 100000 in
theorem c_X5_drop {l : Launch} {D : va_G} {cy : Nat → ClassId} {ad : Nat → Nat → Nat} (hcv : CV ad) {M : MM} {p0 : Int32} {r : Int32} {x : MM} (h : f_X5_drop M p0 = some (r, x)) : Met l yX5_drop (.code yX5_drop cX5_drop 2 (some .int) :: TB) ({ frames := 4, cells := 0, slots := 0, locals := 124 } : Room) (PW D cy ad M [.ref (ad 8 0), .int p0]) (QI D cy ad r x) 0 0 (AD ad) := by
  refine m_in (by decide +kernel) (Nat.le_of_ble_eq_true rfl) ?_
  intro p e s md args below meth c hC hw hS ls hl
  obtain ⟨hx, hb, hr, hml, hown, hts, hK, hlk⟩ := hC
  have hl : lv_has ls 2 [(0, .ref (ad 8 0)), (1, .int p0)] := hl
  unfold f_X5_drop at h
  have main : JL p l e ({ frames := 4, cells := 0, slots := 0, locals := 124 } : Room) s md args below meth c D cy ad (MQ below (QI D cy ad r x) args s 0 0 (AD ad)) (M) 2 [(0, .ref (ad 8 0)), (1, .int p0)] 0 [] := by
    intro H locs hw hS ls hl
    refine lv_aload_n hx hb dX5_drop_0 rfl (lv_at hl 0 rfl) ?_
    refine r_get hx hb hts hown hK hw (v_mn (by decide)) rfl E_mn inX5 rfl 1 (by decide) k_207 rfl rfl dX5_drop_1 ?_
    refine lv_iload_n hx hb dX5_drop_4 rfl (lv_at hl 1 rfl) ?_
    obtain ⟨r2, y1, h⟩ := t_b1 h
    refine c_vi hx hb hml hown hts hK hw hS (fun _ h => h) (As := [.int p0]) (rest := []) (c_X4_hasQuestion hcv (g := 0) (hg := (by decide)) (M0 := M) (m := M 0) (hm := rfl) y1) cf_X4_hasQuestion k_404 rfl rfl ⟨Nat.le_of_ble_eq_true rfl, Nat.le_of_ble_eq_true rfl⟩ (r_recv hK hw (v_st (by decide) (by decide)) (E_st (by decide)) rfl) rfl hl.1 rfl (Nat.le_of_ble_eq_true rfl) ⟨Nat.le_refl _, Nat.le_refl _⟩ dX5_drop_5 (fun H locs hw hS => ?_)
    refine lv_if_ne (tgt := 13) hx hb dX5_drop_8 (by decide) (fun q3 => ?_) (fun q3 => ?_)
    · replace h := t_neg h q3
      refine lv_aload_n hx hb dX5_drop_13 rfl (lv_at hl 0 rfl) ?_
      refine r_get hx hb hts hown hK hw (v_mn (by decide)) rfl E_mn inX5 rfl 4 (by decide) k_210 rfl rfl dX5_drop_14 ?_
      refine lv_aload_n hx hb dX5_drop_17 rfl (lv_at hl 0 rfl) ?_
      refine r_get hx hb hts hown hK hw (v_mn (by decide)) rfl E_mn inX5 rfl 1 (by decide) k_207 rfl rfl dX5_drop_18 ?_
      obtain ⟨r5, M6, y4, h⟩ := t_bd h
      refine c_vv hx hb hml hown hts hK hw hS (fun _ h => h) (As := [.ref (ad 0 0)]) (rest := []) (c_X2_record hcv (M := M) y4) cf_X2_record k_256 rfl rfl ⟨Nat.le_of_ble_eq_true rfl, Nat.le_of_ble_eq_true rfl⟩ (r_recv hK hw (v_mn (by decide)) E_hi rfl) rfl hl.1 rfl (Nat.le_of_ble_eq_true rfl) ⟨Nat.le_refl _, Nat.le_refl _⟩ dX5_drop_21 (fun H locs hw hS => ?_)
      refine lv_aload_n hx hb dX5_drop_24 rfl (lv_at hl 0 rfl) ?_
      refine r_get hx hb hts hown hK hw (v_mn (by decide)) rfl E_mn inX5 rfl 1 (by decide) k_207 rfl rfl dX5_drop_25 ?_
      refine lv_iload_n hx hb dX5_drop_28 rfl (lv_at hl 1 rfl) ?_
      obtain ⟨r8, m9, y7, h⟩ := t_bd h
      obtain ⟨M10, e11, h⟩ := t_lt h
      refine c_vv hx hb hml hown hts hK hw hS (fun _ h => h) (As := [.int p0]) (rest := []) (c_X4_removeQuestion hcv (g := 0) (hg := (by decide)) (M0 := M6) (m := M6 0) (hm := rfl) y7) cf_X4_removeQuestion k_419 rfl rfl ⟨Nat.le_of_ble_eq_true rfl, Nat.le_of_ble_eq_true rfl⟩ (r_recv hK hw (v_st (by decide) (by decide)) (E_st (by decide)) rfl) rfl hl.1 rfl (Nat.le_of_ble_eq_true rfl) ⟨Nat.le_refl _, Nat.le_refl _⟩ dX5_drop_29 (fun H locs hw hS => ?_)
      rw [← e11] at hw
      refine lv_aload_n hx hb dX5_drop_32 rfl (lv_at hl 0 rfl) ?_
      refine r_get hx hb hts hown hK hw (v_mn (by decide)) rfl E_mn inX5 rfl 1 (by decide) k_207 rfl rfl dX5_drop_33 ?_
      obtain ⟨r13, m14, y12, h⟩ := t_bd h
      obtain ⟨M15, e16, h⟩ := t_lt h
      refine c_vv hx hb hml hown hts hK hw hS (fun _ h => h) (As := []) (rest := []) (c_X4_settle hcv (g := 0) (hg := (by decide)) (M0 := M10) (m := M10 0) (hm := rfl) y12) cf_X4_settle k_297 rfl rfl ⟨Nat.le_of_ble_eq_true rfl, Nat.le_of_ble_eq_true rfl⟩ (r_recv hK hw (v_st (by decide) (by decide)) (E_st (by decide)) rfl) rfl hl.1 rfl (Nat.le_of_ble_eq_true rfl) ⟨Nat.le_refl _, Nat.le_refl _⟩ dX5_drop_36 (fun H locs hw hS => ?_)
      rw [← e16] at hw
      refine lv_aload_n hx hb dX5_drop_39 rfl (lv_at hl 0 rfl) ?_
      refine r_get hx hb hts hown hK hw (v_mn (by decide)) rfl E_mn inX5 rfl 1 (by decide) k_207 rfl rfl dX5_drop_40 ?_
      refine r_get hx hb hts hown hK hw (v_st (by decide) (by decide)) rfl (E_st (by decide)) inX4 rfl 3 (by decide) k_168 rfl rfl dX5_drop_43 ?_
      have e1 := (t_ret h).1
      have e2 := (t_ret h).2
      exact e_i hx hb hr hlk hw hS e1 e2 dX5_drop_46
    · replace h := t_pos h q3
      refine lv_iconst (v := -1) hx hb dX5_drop_11 (by decide) ?_
      have e1 := (t_ret h).1
      have e2 := (t_ret h).2
      exact e_i hx hb hr hlk hw hS e1 e2 dX5_drop_12
  exact main _ _ hw hS ls hl

theorem cf_X5_setPlan : cfV RX5 yX5_setPlan cX5_setPlan 3 (some .int) 1 := ⟨⟨k_425, k_426, k_1, k_427⟩, by decide +kernel⟩
def f_X5_setPlan (M : MM) (p0 : Int32) : Option (Int32 × MM) :=
  b1 (f_X5_isFromTo p0 (nI 0) (nI 2)) fun r2 => (if r2 = (nI 0) then some ((-2 : Int32), M) else (if (M 0 0 4) = p0 then some ((-5 : Int32), M) else bd (f_X2_record M) fun r6 M7 => lt1 (gs M7 0 (up (M7 0) 0 4 p0)) fun M9 => bd (f_X4_settle (M9 0)) fun r11 m12 => lt1 (gs M9 0 m12) fun M13 => some ((M 0 0 4), M13)))
set_option maxHeartbeats 4000000 in
set_option maxRecDepth 100000 in
theorem c_X5_setPlan {l : Launch} {D : va_G} {cy : Nat → ClassId} {ad : Nat → Nat → Nat} (hcv : CV ad) {M : MM} {p0 : Int32} {r : Int32} {x : MM} (h : f_X5_setPlan M p0 = some (r, x)) : Met l yX5_setPlan (.code yX5_setPlan cX5_setPlan 3 (some .int) :: TB) ({ frames := 4, cells := 0, slots := 0, locals := 124 } : Room) (PW D cy ad M [.ref (ad 8 0), .int p0]) (QI D cy ad r x) 0 0 (AD ad) := by
  refine m_in (by decide +kernel) (Nat.le_of_ble_eq_true rfl) ?_
  intro p e s md args below meth c hC hw hS ls hl
  obtain ⟨hx, hb, hr, hml, hown, hts, hK, hlk⟩ := hC
  have hl : lv_has ls 3 [(0, .ref (ad 8 0)), (1, .int p0)] := hl
  unfold f_X5_setPlan at h
  have main : JL p l e ({ frames := 4, cells := 0, slots := 0, locals := 124 } : Room) s md args below meth c D cy ad (MQ below (QI D cy ad r x) args s 0 0 (AD ad)) (M) 3 [(0, .ref (ad 8 0)), (1, .int p0)] 0 [] := by
    intro H locs hw hS ls hl
    refine lv_iload_n hx hb dX5_setPlan_0 rfl (lv_at hl 1 rfl) ?_
    refine lv_iconst (v := nI 0) hx hb dX5_setPlan_1 (by decide) ?_
    refine lv_iconst (v := nI 2) hx hb dX5_setPlan_2 (by decide) ?_
    obtain ⟨r2, y1, h⟩ := t_b1 h
    refine c_si hx hb hml hown hts hK hw hS (fun _ h => h) (As := [.int p0, .int (nI 0), .int (nI 2)]) (rest := []) (c_X5_isFromTo hcv (M0 := M) y1) cf_X5_isFromTo k_394 rfl rfl ⟨Nat.le_of_ble_eq_true rfl, Nat.le_of_ble_eq_true rfl⟩ rfl hl.1 rfl (Nat.le_of_ble_eq_true rfl) ⟨Nat.le_refl _, Nat.le_refl _⟩ dX5_setPlan_3 (fun H locs hw hS => ?_)
    refine lv_if_ne (tgt := 12) hx hb dX5_setPlan_6 (by decide) (fun q3 => ?_) (fun q3 => ?_)
    · replace h := t_neg h q3
      refine lv_aload_n hx hb dX5_setPlan_12 rfl (lv_at hl 0 rfl) ?_
      refine r_get hx hb hts hown hK hw (v_mn (by decide)) rfl E_mn inX5 rfl 1 (by decide) k_207 rfl rfl dX5_setPlan_13 ?_
      refine r_get hx hb hts hown hK hw (v_st (by decide) (by decide)) rfl (E_st (by decide)) inX4 rfl 4 (by decide) k_170 rfl rfl dX5_setPlan_16 ?_
      refine lv_istore_n (lv' := [(2, .int (M 0 0 4)), (0, .ref (ad 8 0)), (1, .int p0)]) hx hb dX5_setPlan_19 rfl hl (by decide) rfl (fun ls hl => ?_)
      refine lv_iload_n hx hb dX5_setPlan_20 rfl (lv_at hl 0 rfl) ?_
      refine lv_iload_n hx hb dX5_setPlan_21 rfl (lv_at hl 2 rfl) ?_
      refine lv_icmp_ne (tgt := 28) hx hb dX5_setPlan_22 (by decide) (fun q4 => ?_) (fun q4 => ?_)
      · replace h := t_neg h q4
        refine lv_aload_n hx hb dX5_setPlan_28 rfl (lv_at hl 1 rfl) ?_
        refine r_get hx hb hts hown hK hw (v_mn (by decide)) rfl E_mn inX5 rfl 4 (by decide) k_210 rfl rfl dX5_setPlan_29 ?_
        refine lv_aload_n hx hb dX5_setPlan_32 rfl (lv_at hl 1 rfl) ?_
        refine r_get hx hb hts hown hK hw (v_mn (by decide)) rfl E_mn inX5 rfl 1 (by decide) k_207 rfl rfl dX5_setPlan_33 ?_
        obtain ⟨r6, M7, y5, h⟩ := t_bd h
        refine c_vv hx hb hml hown hts hK hw hS (fun _ h => h) (As := [.ref (ad 0 0)]) (rest := []) (c_X2_record hcv (M := M) y5) cf_X2_record k_256 rfl rfl ⟨Nat.le_of_ble_eq_true rfl, Nat.le_of_ble_eq_true rfl⟩ (r_recv hK hw (v_mn (by decide)) E_hi rfl) rfl hl.1 rfl (Nat.le_of_ble_eq_true rfl) ⟨Nat.le_refl _, Nat.le_refl _⟩ dX5_setPlan_36 (fun H locs hw hS => ?_)
        refine lv_aload_n hx hb dX5_setPlan_39 rfl (lv_at hl 1 rfl) ?_
        refine r_get hx hb hts hown hK hw (v_mn (by decide)) rfl E_mn inX5 rfl 1 (by decide) k_207 rfl rfl dX5_setPlan_40 ?_
        refine lv_iload_n hx hb dX5_setPlan_43 rfl (lv_at hl 2 rfl) ?_
        obtain ⟨M9, e8, h⟩ := t_lt h
        refine r_put hx hb hts hown hK hcv hw hS (v_st (by decide) (by decide)) rfl (E_st (by decide)) inX4 rfl tyX4 tyX4_ok nmX4 4 (by decide) k_170 rfl rfl rfl rfl (Nat.le_of_ble_eq_true rfl) (E_st (by decide)) e8.symm dX5_setPlan_44 (fun H locs hw hS => ?_)
        refine lv_aload_n hx hb dX5_setPlan_47 rfl (lv_at hl 1 rfl) ?_
        refine r_get hx hb hts hown hK hw (v_mn (by decide)) rfl E_mn inX5 rfl 1 (by decide) k_207 rfl rfl dX5_setPlan_48 ?_
        obtain ⟨r11, m12, y10, h⟩ := t_bd h
        obtain ⟨M13, e14, h⟩ := t_lt h
        refine c_vv hx hb hml hown hts hK hw hS (fun _ h => h) (As := []) (rest := []) (c_X4_settle hcv (g := 0) (hg := (by decide)) (M0 := M9) (m := M9 0) (hm := rfl) y10) cf_X4_settle k_297 rfl rfl ⟨Nat.le_of_ble_eq_true rfl, Nat.le_of_ble_eq_true rfl⟩ (r_recv hK hw (v_st (by decide) (by decide)) (E_st (by decide)) rfl) rfl hl.1 rfl (Nat.le_of_ble_eq_true rfl) ⟨Nat.le_refl _, Nat.le_refl _⟩ dX5_setPlan_51 (fun H locs hw hS => ?_)
        rw [← e14] at hw
        refine lv_iload_n hx hb dX5_setPlan_54 rfl (lv_at hl 0 rfl) ?_
        have e1 := (t_ret h).1
        have e2 := (t_ret h).2
        exact e_i hx hb hr hlk hw hS e1 e2 dX5_setPlan_55
      · replace h := t_pos h q4
        refine lv_bipush (v := -5) hx hb dX5_setPlan_25 (by decide) ?_
        have e1 := (t_ret h).1
        have e2 := (t_ret h).2
        exact e_i hx hb hr hlk hw hS e1 e2 dX5_setPlan_27
    · replace h := t_pos h q3
      refine lv_bipush (v := -2) hx hb dX5_setPlan_9 (by decide) ?_
      have e1 := (t_ret h).1
      have e2 := (t_ret h).2
      exact e_i hx hb hr hlk hw hS e1 e2 dX5_setPlan_11
  exact main _ _ hw hS ls hl

theorem cf_X5_read : cfV RX5 yX5_read cX5_read 4 (some .int) 1 := ⟨⟨k_429, k_430, k_1, k_431⟩, by decide +kernel⟩
def f_X5_read_L44 (p0 : Int32) : Nat → MM → Int32 → Int32 → Option (Int32 × MM)
  | 0, _, _, _ => none
  | n + 1, M, x2, x3 => (if p0 ≤ x3 then some (x2, M) else bd (f_X4_readByPlan (M 0)) fun r3 m4 => lt1 (gs M 0 m4) fun M5 => (if r3 = (nI 0) then some (x2, M5) else f_X5_read_L44 p0 n M5 (x2 + (nI 1)) (x3 + (nI 1))))
def f_X5_read (M : MM) (p0 : Int32) : Option (Int32 × MM) :=
  b1 (f_X5_isFromTo p0 (nI 1) (nI 128)) fun r2 => (if r2 = (nI 0) then some ((-2 : Int32), M) else b1 (f_X4_nextBlock (M 0)) fun r5 => (if r5 = (-5 : Int32) then some ((-5 : Int32), M) else bd (f_X2_record M) fun r8 M9 => f_X5_read_L44 p0 FU M9 (nI 0) (nI 0)))
set_option maxHeartbeats 4000000 in
set_option maxRecDepth 100000 in
theorem c_X5_read {l : Launch} {D : va_G} {cy : Nat → ClassId} {ad : Nat → Nat → Nat} (hcv : CV ad) {M : MM} {p0 : Int32} {r : Int32} {x : MM} (h : f_X5_read M p0 = some (r, x)) : Met l yX5_read (.code yX5_read cX5_read 4 (some .int) :: TB) ({ frames := 5, cells := 0, slots := 0, locals := 124 } : Room) (PW D cy ad M [.ref (ad 8 0), .int p0]) (QI D cy ad r x) 0 0 (AD ad) := by
  refine m_in (by decide +kernel) (Nat.le_of_ble_eq_true rfl) ?_
  intro p e s md args below meth c hC hw hS ls hl
  obtain ⟨hx, hb, hr, hml, hown, hts, hK, hlk⟩ := hC
  have hl : lv_has ls 4 [(0, .ref (ad 8 0)), (1, .int p0)] := hl
  have L44 : ∀ (n : Nat), ∀ (M : MM) (x2 : Int32) (x3 : Int32), f_X5_read_L44 p0 n M x2 x3 = some (r, x) → JL p l e ({ frames := 5, cells := 0, slots := 0, locals := 124 } : Room) s md args below meth c D cy ad (MQ below (QI D cy ad r x) args s 0 0 (AD ad)) (M) 4 [(0, .ref (ad 8 0)), (1, .int p0), (2, .int x2), (3, .int x3)] 44 [] := by
    intro n
    induction n with
    | zero =>
      intro M x2 x3 h
      cases h
    | succ n ih =>
      intro M x2 x3 h H locs hw hS ls hl
      rw [f_X5_read_L44.eq_2] at h
      refine lv_iload_n hx hb dX5_read_44 rfl (lv_at hl 3 rfl) ?_
      refine lv_iload_n hx hb dX5_read_45 rfl (lv_at hl 1 rfl) ?_
      refine lv_icmp_ge (tgt := 68) hx hb dX5_read_46 (by decide) (fun q1 => ?_) (fun q1 => ?_)
      · replace h := t_pos h q1
        refine lv_iload_n hx hb dX5_read_68 rfl (lv_at hl 2 rfl) ?_
        have e1 := (t_ret h).1
        have e2 := (t_ret h).2
        exact e_i hx hb hr hlk hw hS e1 e2 dX5_read_69
      · replace h := t_neg h q1
        refine lv_aload_n hx hb dX5_read_49 rfl (lv_at hl 0 rfl) ?_
        refine r_get hx hb hts hown hK hw (v_mn (by decide)) rfl E_mn inX5 rfl 1 (by decide) k_207 rfl rfl dX5_read_50 ?_
        obtain ⟨r3, m4, y2, h⟩ := t_bd h
        obtain ⟨M5, e6, h⟩ := t_lt h
        refine c_vi hx hb hml hown hts hK hw hS (fun _ h => h) (As := []) (rest := []) (c_X4_readByPlan hcv (g := 0) (hg := (by decide)) (M0 := M) (m := M 0) (hm := rfl) y2) cf_X4_readByPlan k_453 rfl rfl ⟨Nat.le_of_ble_eq_true rfl, Nat.le_of_ble_eq_true rfl⟩ (r_recv hK hw (v_st (by decide) (by decide)) (E_st (by decide)) rfl) rfl hl.1 rfl (Nat.le_of_ble_eq_true rfl) ⟨Nat.le_refl _, Nat.le_refl _⟩ dX5_read_53 (fun H locs hw hS => ?_)
        rw [← e6] at hw
        refine lv_if_eq (tgt := 68) hx hb dX5_read_56 (by decide) (fun q7 => ?_) (fun q7 => ?_)
        · replace h := t_pos h q7
          refine lv_iload_n hx hb dX5_read_68 rfl (lv_at hl 2 rfl) ?_
          have e1 := (t_ret h).1
          have e2 := (t_ret h).2
          exact e_i hx hb hr hlk hw hS e1 e2 dX5_read_69
        · replace h := t_neg h q7
          refine lv_iinc (v := (x2 + (nI 1))) (lv' := [(2, .int (x2 + (nI 1))), (0, .ref (ad 8 0)), (1, .int p0), (3, .int x3)]) hx hb dX5_read_59 hl (k := 2) rfl rfl (by decide) rfl (fun ls hl => ?_)
          refine lv_iinc (v := (x3 + (nI 1))) (lv' := [(3, .int (x3 + (nI 1))), (2, .int (x2 + (nI 1))), (0, .ref (ad 8 0)), (1, .int p0)]) hx hb dX5_read_62 hl (k := 3) rfl rfl (by decide) rfl (fun ls hl => ?_)
          refine lv_goto (tgt := 44) hx hb dX5_read_65 (by decide) ?_
          exact ih M5 (x2 + (nI 1)) (x3 + (nI 1)) h H locs hw hS ls (lv_sub hl [2, 3, 1, 0] rfl)
  unfold f_X5_read at h
  have main : JL p l e ({ frames := 5, cells := 0, slots := 0, locals := 124 } : Room) s md args below meth c D cy ad (MQ below (QI D cy ad r x) args s 0 0 (AD ad)) (M) 4 [(0, .ref (ad 8 0)), (1, .int p0)] 0 [] := by
    intro H locs hw hS ls hl
    refine lv_iload_n hx hb dX5_read_0 rfl (lv_at hl 1 rfl) ?_
    refine lv_iconst (v := nI 1) hx hb dX5_read_1 (by decide) ?_
    refine lv_sipush (v := nI 128) hx hb dX5_read_2 (by decide) ?_
    obtain ⟨r2, y1, h⟩ := t_b1 h
    refine c_si hx hb hml hown hts hK hw hS (fun _ h => h) (As := [.int p0, .int (nI 1), .int (nI 128)]) (rest := []) (c_X5_isFromTo hcv (M0 := M) y1) cf_X5_isFromTo k_394 rfl rfl ⟨Nat.le_of_ble_eq_true rfl, Nat.le_of_ble_eq_true rfl⟩ rfl hl.1 rfl (Nat.le_of_ble_eq_true rfl) ⟨Nat.le_refl _, Nat.le_refl _⟩ dX5_read_5 (fun H locs hw hS => ?_)
    refine lv_if_ne (tgt := 14) hx hb dX5_read_8 (by decide) (fun q3 => ?_) (fun q3 => ?_)
    · replace h := t_neg h q3
      refine lv_aload_n hx hb dX5_read_14 rfl (lv_at hl 0 rfl) ?_
      refine r_get hx hb hts hown hK hw (v_mn (by decide)) rfl E_mn inX5 rfl 1 (by decide) k_207 rfl rfl dX5_read_15 ?_
      obtain ⟨r5, y4, h⟩ := t_b1 h
      refine c_vi hx hb hml hown hts hK hw hS (fun _ h => h) (As := []) (rest := []) (c_X4_nextBlock hcv (g := 0) (hg := (by decide)) (M0 := M) (m := M 0) (hm := rfl) y4) cf_X4_nextBlock k_432 rfl rfl ⟨Nat.le_of_ble_eq_true rfl, Nat.le_of_ble_eq_true rfl⟩ (r_recv hK hw (v_st (by decide) (by decide)) (E_st (by decide)) rfl) rfl hl.1 rfl (Nat.le_of_ble_eq_true rfl) ⟨Nat.le_refl _, Nat.le_refl _⟩ dX5_read_18 (fun H locs hw hS => ?_)
      refine lv_bipush (v := -5) hx hb dX5_read_21 (by decide) ?_
      refine lv_icmp_ne (tgt := 29) hx hb dX5_read_23 (by decide) (fun q6 => ?_) (fun q6 => ?_)
      · replace h := t_neg h q6
        refine lv_aload_n hx hb dX5_read_29 rfl (lv_at hl 0 rfl) ?_
        refine r_get hx hb hts hown hK hw (v_mn (by decide)) rfl E_mn inX5 rfl 4 (by decide) k_210 rfl rfl dX5_read_30 ?_
        refine lv_aload_n hx hb dX5_read_33 rfl (lv_at hl 0 rfl) ?_
        refine r_get hx hb hts hown hK hw (v_mn (by decide)) rfl E_mn inX5 rfl 1 (by decide) k_207 rfl rfl dX5_read_34 ?_
        obtain ⟨r8, M9, y7, h⟩ := t_bd h
        refine c_vv hx hb hml hown hts hK hw hS (fun _ h => h) (As := [.ref (ad 0 0)]) (rest := []) (c_X2_record hcv (M := M) y7) cf_X2_record k_256 rfl rfl ⟨Nat.le_of_ble_eq_true rfl, Nat.le_of_ble_eq_true rfl⟩ (r_recv hK hw (v_mn (by decide)) E_hi rfl) rfl hl.1 rfl (Nat.le_of_ble_eq_true rfl) ⟨Nat.le_refl _, Nat.le_refl _⟩ dX5_read_37 (fun H locs hw hS => ?_)
        refine lv_iconst (v := nI 0) hx hb dX5_read_40 (by decide) ?_
        refine lv_istore_n (lv' := [(2, .int (nI 0)), (0, .ref (ad 8 0)), (1, .int p0)]) hx hb dX5_read_41 rfl hl (by decide) rfl (fun ls hl => ?_)
        refine lv_iconst (v := nI 0) hx hb dX5_read_42 (by decide) ?_
        refine lv_istore_n (lv' := [(3, .int (nI 0)), (2, .int (nI 0)), (0, .ref (ad 8 0)), (1, .int p0)]) hx hb dX5_read_43 rfl hl (by decide) rfl (fun ls hl => ?_)
        exact L44 FU M9 (nI 0) (nI 0) h H locs hw hS ls (lv_sub hl [2, 3, 1, 0] rfl)
      · replace h := t_pos h q6
        refine lv_bipush (v := -5) hx hb dX5_read_26 (by decide) ?_
        have e1 := (t_ret h).1
        have e2 := (t_ret h).2
        exact e_i hx hb hr hlk hw hS e1 e2 dX5_read_28
    · replace h := t_pos h q3
      refine lv_bipush (v := -2) hx hb dX5_read_11 (by decide) ?_
      have e1 := (t_ret h).1
      have e2 := (t_ret h).2
      exact e_i hx hb hr hlk hw hS e1 e2 dX5_read_13
  exact main _ _ hw hS ls hl

theorem cf_X5_readOn : cfV RX5 yX5_readOn cX5_readOn 1 (some .int) 0 := ⟨⟨k_461, k_462, k_1, k_463⟩, by decide +kernel⟩
def f_X5_readOn (M : MM) : Option (Int32 × MM) :=
  b1 (f_X4_openQuestions (M 0)) fun r2 => (if r2 = (nI 0) then some ((-4 : Int32), M) else b1 (f_X4_nextBlock (M 0)) fun r5 => (if r5 = (-5 : Int32) then some ((-5 : Int32), M) else bd (f_X2_record M) fun r8 M9 => bd (f_X4_readWhileOpen (M9 0)) fun r11 m12 => lt1 (gs M9 0 m12) fun M13 => some (r11, M13)))
set_option maxHeartbeats 4000000 in
set_option maxRecDepth 100000 in
theorem c_X5_readOn {l : Launch} {D : va_G} {cy : Nat → ClassId} {ad : Nat → Nat → Nat} (hcv : CV ad) {M : MM} {r : Int32} {x : MM} (h : f_X5_readOn M = some (r, x)) : Met l yX5_readOn (.code yX5_readOn cX5_readOn 1 (some .int) :: TB) ({ frames := 6, cells := 0, slots := 0, locals := 141 } : Room) (PW D cy ad M [.ref (ad 8 0)]) (QI D cy ad r x) 0 0 (AD ad) := by
  refine m_in (by decide +kernel) (Nat.le_of_ble_eq_true rfl) ?_
  intro p e s md args below meth c hC hw hS ls hl
  obtain ⟨hx, hb, hr, hml, hown, hts, hK, hlk⟩ := hC
  have hl : lv_has ls 1 [(0, .ref (ad 8 0))] := hl
  unfold f_X5_readOn at h
  have main : JL p l e ({ frames := 6, cells := 0, slots := 0, locals := 141 } : Room) s md args below meth c D cy ad (MQ below (QI D cy ad r x) args s 0 0 (AD ad)) (M) 1 [(0, .ref (ad 8 0))] 0 [] := by
    intro H locs hw hS ls hl
    refine lv_aload_n hx hb dX5_readOn_0 rfl (lv_at hl 0 rfl) ?_
    refine r_get hx hb hts hown hK hw (v_mn (by decide)) rfl E_mn inX5 rfl 1 (by decide) k_207 rfl rfl dX5_readOn_1 ?_
    obtain ⟨r2, y1, h⟩ := t_b1 h
    refine c_vi hx hb hml hown hts hK hw hS (fun _ h => h) (As := []) (rest := []) (c_X4_openQuestions hcv (g := 0) (hg := (by decide)) (M0 := M) (m := M 0) (hm := rfl) y1) cf_X4_openQuestions k_464 rfl rfl ⟨Nat.le_of_ble_eq_true rfl, Nat.le_of_ble_eq_true rfl⟩ (r_recv hK hw (v_st (by decide) (by decide)) (E_st (by decide)) rfl) rfl hl.1 rfl (Nat.le_of_ble_eq_true rfl) ⟨Nat.le_refl _, Nat.le_refl _⟩ dX5_readOn_4 (fun H locs hw hS => ?_)
    refine lv_if_ne (tgt := 13) hx hb dX5_readOn_7 (by decide) (fun q3 => ?_) (fun q3 => ?_)
    · replace h := t_neg h q3
      refine lv_aload_n hx hb dX5_readOn_13 rfl (lv_at hl 0 rfl) ?_
      refine r_get hx hb hts hown hK hw (v_mn (by decide)) rfl E_mn inX5 rfl 1 (by decide) k_207 rfl rfl dX5_readOn_14 ?_
      obtain ⟨r5, y4, h⟩ := t_b1 h
      refine c_vi hx hb hml hown hts hK hw hS (fun _ h => h) (As := []) (rest := []) (c_X4_nextBlock hcv (g := 0) (hg := (by decide)) (M0 := M) (m := M 0) (hm := rfl) y4) cf_X4_nextBlock k_432 rfl rfl ⟨Nat.le_of_ble_eq_true rfl, Nat.le_of_ble_eq_true rfl⟩ (r_recv hK hw (v_st (by decide) (by decide)) (E_st (by decide)) rfl) rfl hl.1 rfl (Nat.le_of_ble_eq_true rfl) ⟨Nat.le_refl _, Nat.le_refl _⟩ dX5_readOn_17 (fun H locs hw hS => ?_)
      refine lv_bipush (v := -5) hx hb dX5_readOn_20 (by decide) ?_
      refine lv_icmp_ne (tgt := 28) hx hb dX5_readOn_22 (by decide) (fun q6 => ?_) (fun q6 => ?_)
      · replace h := t_neg h q6
        refine lv_aload_n hx hb dX5_readOn_28 rfl (lv_at hl 0 rfl) ?_
        refine r_get hx hb hts hown hK hw (v_mn (by decide)) rfl E_mn inX5 rfl 4 (by decide) k_210 rfl rfl dX5_readOn_29 ?_
        refine lv_aload_n hx hb dX5_readOn_32 rfl (lv_at hl 0 rfl) ?_
        refine r_get hx hb hts hown hK hw (v_mn (by decide)) rfl E_mn inX5 rfl 1 (by decide) k_207 rfl rfl dX5_readOn_33 ?_
        obtain ⟨r8, M9, y7, h⟩ := t_bd h
        refine c_vv hx hb hml hown hts hK hw hS (fun _ h => h) (As := [.ref (ad 0 0)]) (rest := []) (c_X2_record hcv (M := M) y7) cf_X2_record k_256 rfl rfl ⟨Nat.le_of_ble_eq_true rfl, Nat.le_of_ble_eq_true rfl⟩ (r_recv hK hw (v_mn (by decide)) E_hi rfl) rfl hl.1 rfl (Nat.le_of_ble_eq_true rfl) ⟨Nat.le_refl _, Nat.le_refl _⟩ dX5_readOn_36 (fun H locs hw hS => ?_)
        refine lv_aload_n hx hb dX5_readOn_39 rfl (lv_at hl 0 rfl) ?_
        refine r_get hx hb hts hown hK hw (v_mn (by decide)) rfl E_mn inX5 rfl 1 (by decide) k_207 rfl rfl dX5_readOn_40 ?_
        obtain ⟨r11, m12, y10, h⟩ := t_bd h
        obtain ⟨M13, e14, h⟩ := t_lt h
        refine c_vi hx hb hml hown hts hK hw hS (fun _ h => h) (As := []) (rest := []) (c_X4_readWhileOpen hcv (g := 0) (hg := (by decide)) (M0 := M9) (m := M9 0) (hm := rfl) y10) cf_X4_readWhileOpen k_468 rfl rfl ⟨Nat.le_of_ble_eq_true rfl, Nat.le_of_ble_eq_true rfl⟩ (r_recv hK hw (v_st (by decide) (by decide)) (E_st (by decide)) rfl) rfl hl.1 rfl (Nat.le_of_ble_eq_true rfl) ⟨Nat.le_refl _, Nat.le_refl _⟩ dX5_readOn_43 (fun H locs hw hS => ?_)
        rw [← e14] at hw
        have e1 := (t_ret h).1
        have e2 := (t_ret h).2
        exact e_i hx hb hr hlk hw hS e1 e2 dX5_readOn_46
      · replace h := t_pos h q6
        refine lv_bipush (v := -5) hx hb dX5_readOn_25 (by decide) ?_
        have e1 := (t_ret h).1
        have e2 := (t_ret h).2
        exact e_i hx hb hr hlk hw hS e1 e2 dX5_readOn_27
    · replace h := t_pos h q3
      refine lv_bipush (v := -4) hx hb dX5_readOn_10 (by decide) ?_
      have e1 := (t_ret h).1
      have e2 := (t_ret h).2
      exact e_i hx hb hr hlk hw hS e1 e2 dX5_readOn_12
  exact main _ _ hw hS ls hl

theorem cf_X5_readFrom : cfV RX5 yX5_readFrom cX5_readFrom 4 (some .int) 1 := ⟨⟨k_475, k_476, k_1, k_477⟩, by decide +kernel⟩
def f_X5_readFrom (M : MM) (p0 : Int32) : Option (Int32 × MM) :=
  b1 (f_X4_hasBlock (M 0) p0) fun r2 => (if r2 = (nI 0) then some ((-1 : Int32), M) else gd p0 8 (b1 (f_X0_unread (M 0) p0.toNatClampNeg) fun r6 => (if r6 = (nI 0) then some ((-5 : Int32), M) else bd (f_X2_record M) fun r9 M10 => bd (f_X0_readRow (M10 0) p0.toNatClampNeg) fun r12 m13 => lt1 (gs M10 0 m13) fun M14 => bd (f_X4_settle (M14 0)) fun r17 m18 => lt1 (gs M14 0 m18) fun M19 => some (r12, M19))))
set_option maxHeartbeats 4000000 in
set_option maxRecDepth 100000 in
theorem c_X5_readFrom {l : Launch} {D : va_G} {cy : Nat → ClassId} {ad : Nat → Nat → Nat} (hcv : CV ad) {M : MM} {p0 : Int32} {r : Int32} {x : MM} (h : f_X5_readFrom M p0 = some (r, x)) : Met l yX5_readFrom (.code yX5_readFrom cX5_readFrom 4 (some .int) :: TB) ({ frames := 4, cells := 0, slots := 0, locals := 124 } : Room) (PW D cy ad M [.ref (ad 8 0), .int p0]) (QI D cy ad r x) 0 0 (AD ad) := by
  refine m_in (by decide +kernel) (Nat.le_of_ble_eq_true rfl) ?_
  intro p e s md args below meth c hC hw hS ls hl
  obtain ⟨hx, hb, hr, hml, hown, hts, hK, hlk⟩ := hC
  have hl : lv_has ls 4 [(0, .ref (ad 8 0)), (1, .int p0)] := hl
  unfold f_X5_readFrom at h
  have main : JL p l e ({ frames := 4, cells := 0, slots := 0, locals := 124 } : Room) s md args below meth c D cy ad (MQ below (QI D cy ad r x) args s 0 0 (AD ad)) (M) 4 [(0, .ref (ad 8 0)), (1, .int p0)] 0 [] := by
    intro H locs hw hS ls hl
    refine lv_aload_n hx hb dX5_readFrom_0 rfl (lv_at hl 0 rfl) ?_
    refine r_get hx hb hts hown hK hw (v_mn (by decide)) rfl E_mn inX5 rfl 1 (by decide) k_207 rfl rfl dX5_readFrom_1 ?_
    refine lv_iload_n hx hb dX5_readFrom_4 rfl (lv_at hl 1 rfl) ?_
    obtain ⟨r2, y1, h⟩ := t_b1 h
    refine c_vi hx hb hml hown hts hK hw hS (fun _ h => h) (As := [.int p0]) (rest := []) (c_X4_hasBlock hcv (g := 0) (hg := (by decide)) (M0 := M) (m := M 0) (hm := rfl) y1) cf_X4_hasBlock k_338 rfl rfl ⟨Nat.le_of_ble_eq_true rfl, Nat.le_of_ble_eq_true rfl⟩ (r_recv hK hw (v_st (by decide) (by decide)) (E_st (by decide)) rfl) rfl hl.1 rfl (Nat.le_of_ble_eq_true rfl) ⟨Nat.le_refl _, Nat.le_refl _⟩ dX5_readFrom_5 (fun H locs hw hS => ?_)
    refine lv_if_ne (tgt := 13) hx hb dX5_readFrom_8 (by decide) (fun q3 => ?_) (fun q3 => ?_)
    · replace h := t_neg h q3
      refine lv_aload_n hx hb dX5_readFrom_13 rfl (lv_at hl 0 rfl) ?_
      refine r_get hx hb hts hown hK hw (v_mn (by decide)) rfl E_mn inX5 rfl 1 (by decide) k_207 rfl rfl dX5_readFrom_14 ?_
      refine r_get hx hb hts hown hK hw (v_st (by decide) (by decide)) rfl (E_st (by decide)) inX4 rfl 0 (by decide) k_162 rfl rfl dX5_readFrom_17 ?_
      refine lv_iload_n hx hb dX5_readFrom_20 rfl (lv_at hl 1 rfl) ?_
      obtain ⟨q4, h⟩ := t_gd h
      refine r_aald hx hb hK hw (v_st (by decide) (by decide)) (t0 := 2) rfl (E_ba (by decide)) (v := .ref (ad 0 (3 + p0.toNatClampNeg))) rfl q4 dX5_readFrom_21 ?_
      refine lv_astore_n (lv' := [(2, .ref (ad 0 (3 + p0.toNatClampNeg))), (0, .ref (ad 8 0)), (1, .int p0)]) hx hb dX5_readFrom_22 rfl hl (by decide) rfl (fun ls hl => ?_)
      refine lv_aload_n hx hb dX5_readFrom_23 rfl (lv_at hl 0 rfl) ?_
      obtain ⟨r6, y5, h⟩ := t_b1 h
      refine c_vi hx hb hml hown hts hK hw hS (fun _ h => h) (As := []) (rest := []) (c_X0_unread hcv (g := 0) (hg := (by decide)) (i := p0.toNatClampNeg) (hi := (vin q4)) (M0 := M) (m := M 0) (hm := rfl) y5) cf_X0_unread k_478 rfl rfl ⟨Nat.le_of_ble_eq_true rfl, Nat.le_of_ble_eq_true rfl⟩ (r_recv hK hw (v_bk (by decide) (vin q4)) (E_bk (by decide) (vin q4)) rfl) rfl hl.1 rfl (Nat.le_of_ble_eq_true rfl) ⟨Nat.le_refl _, Nat.le_refl _⟩ dX5_readFrom_24 (fun H locs hw hS => ?_)
      refine lv_if_ne (tgt := 33) hx hb dX5_readFrom_27 (by decide) (fun q7 => ?_) (fun q7 => ?_)
      · replace h := t_neg h q7
        refine lv_aload_n hx hb dX5_readFrom_33 rfl (lv_at hl 1 rfl) ?_
        refine r_get hx hb hts hown hK hw (v_mn (by decide)) rfl E_mn inX5 rfl 4 (by decide) k_210 rfl rfl dX5_readFrom_34 ?_
        refine lv_aload_n hx hb dX5_readFrom_37 rfl (lv_at hl 1 rfl) ?_
        refine r_get hx hb hts hown hK hw (v_mn (by decide)) rfl E_mn inX5 rfl 1 (by decide) k_207 rfl rfl dX5_readFrom_38 ?_
        obtain ⟨r9, M10, y8, h⟩ := t_bd h
        refine c_vv hx hb hml hown hts hK hw hS (fun _ h => h) (As := [.ref (ad 0 0)]) (rest := []) (c_X2_record hcv (M := M) y8) cf_X2_record k_256 rfl rfl ⟨Nat.le_of_ble_eq_true rfl, Nat.le_of_ble_eq_true rfl⟩ (r_recv hK hw (v_mn (by decide)) E_hi rfl) rfl hl.1 rfl (Nat.le_of_ble_eq_true rfl) ⟨Nat.le_refl _, Nat.le_refl _⟩ dX5_readFrom_41 (fun H locs hw hS => ?_)
        refine lv_aload_n hx hb dX5_readFrom_44 rfl (lv_at hl 0 rfl) ?_
        obtain ⟨r12, m13, y11, h⟩ := t_bd h
        obtain ⟨M14, e15, h⟩ := t_lt h
        refine c_vi hx hb hml hown hts hK hw hS (fun _ h => h) (As := []) (rest := []) (c_X0_readRow hcv (g := 0) (hg := (by decide)) (i := p0.toNatClampNeg) (hi := (vin q4)) (M0 := M10) (m := M10 0) (hm := rfl) y11) cf_X0_readRow k_479 rfl rfl ⟨Nat.le_of_ble_eq_true rfl, Nat.le_of_ble_eq_true rfl⟩ (r_recv hK hw (v_bk (by decide) (vin q4)) (E_bk (by decide) (vin q4)) rfl) rfl hl.1 rfl (Nat.le_of_ble_eq_true rfl) ⟨Nat.le_refl _, Nat.le_refl _⟩ dX5_readFrom_45 (fun H locs hw hS => ?_)
        rw [← e15] at hw
        refine lv_istore_n (lv' := [(3, .int r12), (2, .ref (ad 0 (3 + p0.toNatClampNeg))), (0, .ref (ad 8 0)), (1, .int p0)]) hx hb dX5_readFrom_48 rfl hl (by decide) rfl (fun ls hl => ?_)
        refine lv_aload_n hx hb dX5_readFrom_49 rfl (lv_at hl 2 rfl) ?_
        refine r_get hx hb hts hown hK hw (v_mn (by decide)) rfl E_mn inX5 rfl 1 (by decide) k_207 rfl rfl dX5_readFrom_50 ?_
        obtain ⟨r17, m18, y16, h⟩ := t_bd h
        obtain ⟨M19, e20, h⟩ := t_lt h
        refine c_vv hx hb hml hown hts hK hw hS (fun _ h => h) (As := []) (rest := []) (c_X4_settle hcv (g := 0) (hg := (by decide)) (M0 := M14) (m := M14 0) (hm := rfl) y16) cf_X4_settle k_297 rfl rfl ⟨Nat.le_of_ble_eq_true rfl, Nat.le_of_ble_eq_true rfl⟩ (r_recv hK hw (v_st (by decide) (by decide)) (E_st (by decide)) rfl) rfl hl.1 rfl (Nat.le_of_ble_eq_true rfl) ⟨Nat.le_refl _, Nat.le_refl _⟩ dX5_readFrom_53 (fun H locs hw hS => ?_)
        rw [← e20] at hw
        refine lv_iload_n hx hb dX5_readFrom_56 rfl (lv_at hl 0 rfl) ?_
        have e1 := (t_ret h).1
        have e2 := (t_ret h).2
        exact e_i hx hb hr hlk hw hS e1 e2 dX5_readFrom_57
      · replace h := t_pos h q7
        refine lv_bipush (v := -5) hx hb dX5_readFrom_30 (by decide) ?_
        have e1 := (t_ret h).1
        have e2 := (t_ret h).2
        exact e_i hx hb hr hlk hw hS e1 e2 dX5_readFrom_32
    · replace h := t_pos h q3
      refine lv_iconst (v := -1) hx hb dX5_readFrom_11 (by decide) ?_
      have e1 := (t_ret h).1
      have e2 := (t_ret h).2
      exact e_i hx hb hr hlk hw hS e1 e2 dX5_readFrom_12
  exact main _ _ hw hS ls hl

theorem cf_X5_type : cfV RX5 yX5_type cX5_type 2 (some .int) 1 := ⟨⟨k_481, k_482, k_1, k_483⟩, by decide +kernel⟩
def f_X5_type (M : MM) (p0 : Int32) : Option (Int32 × MM) :=
  (if (M 7 0 2) < (nI 80) then bd (f_X1_append (M 7) p0) fun r3 m4 => lt1 (gs M 7 m4) fun M5 => some ((M5 7 0 2), M5) else some ((-3 : Int32), M))
set_option maxHeartbeats 4000000 in
set_option maxRecDepth 100000 in
theorem c_X5_type {l : Launch} {D : va_G} {cy : Nat → ClassId} {ad : Nat → Nat → Nat} (hcv : CV ad) {M : MM} {p0 : Int32} {r : Int32} {x : MM} (h : f_X5_type M p0 = some (r, x)) : Met l yX5_type (.code yX5_type cX5_type 2 (some .int) :: TB) ({ frames := 1, cells := 0, slots := 0, locals := 21 } : Room) (PW D cy ad M [.ref (ad 8 0), .int p0]) (QI D cy ad r x) 0 0 (AD ad) := by
  refine m_in (by decide +kernel) (Nat.le_of_ble_eq_true rfl) ?_
  intro p e s md args below meth c hC hw hS ls hl
  obtain ⟨hx, hb, hr, hml, hown, hts, hK, hlk⟩ := hC
  have hl : lv_has ls 2 [(0, .ref (ad 8 0)), (1, .int p0)] := hl
  unfold f_X5_type at h
  have main : JL p l e ({ frames := 1, cells := 0, slots := 0, locals := 21 } : Room) s md args below meth c D cy ad (MQ below (QI D cy ad r x) args s 0 0 (AD ad)) (M) 2 [(0, .ref (ad 8 0)), (1, .int p0)] 0 [] := by
    intro H locs hw hS ls hl
    refine lv_aload_n hx hb dX5_type_0 rfl (lv_at hl 0 rfl) ?_
    refine r_get hx hb hts hown hK hw (v_mn (by decide)) rfl E_mn inX5 rfl 0 (by decide) k_206 rfl rfl dX5_type_1 ?_
    refine r_get hx hb hts hown hK hw (v_tx (by decide)) rfl E_tx inX1 rfl 2 (by decide) k_28 rfl rfl dX5_type_4 ?_
    refine lv_bipush (v := nI 80) hx hb dX5_type_7 (by decide) ?_
    refine lv_icmp_lt (tgt := 15) hx hb dX5_type_9 (by decide) (fun q1 => ?_) (fun q1 => ?_)
    · replace h := t_pos h q1
      refine lv_aload_n hx hb dX5_type_15 rfl (lv_at hl 0 rfl) ?_
      refine r_get hx hb hts hown hK hw (v_mn (by decide)) rfl E_mn inX5 rfl 0 (by decide) k_206 rfl rfl dX5_type_16 ?_
      refine lv_iload_n hx hb dX5_type_19 rfl (lv_at hl 1 rfl) ?_
      obtain ⟨r3, m4, y2, h⟩ := t_bd h
      obtain ⟨M5, e6, h⟩ := t_lt h
      refine c_vv hx hb hml hown hts hK hw hS (fun _ h => h) (As := [.int p0]) (rest := []) (c_X1_append hcv (M0 := M) (m := M 7) (hm := rfl) y2) cf_X1_append k_484 rfl rfl ⟨Nat.le_of_ble_eq_true rfl, Nat.le_of_ble_eq_true rfl⟩ (r_recv hK hw (v_tx (by decide)) E_tx rfl) rfl hl.1 rfl (Nat.le_of_ble_eq_true rfl) ⟨Nat.le_refl _, Nat.le_refl _⟩ dX5_type_20 (fun H locs hw hS => ?_)
      rw [← e6] at hw
      refine lv_aload_n hx hb dX5_type_23 rfl (lv_at hl 0 rfl) ?_
      refine r_get hx hb hts hown hK hw (v_mn (by decide)) rfl E_mn inX5 rfl 0 (by decide) k_206 rfl rfl dX5_type_24 ?_
      refine r_get hx hb hts hown hK hw (v_tx (by decide)) rfl E_tx inX1 rfl 2 (by decide) k_28 rfl rfl dX5_type_27 ?_
      have e1 := (t_ret h).1
      have e2 := (t_ret h).2
      exact e_i hx hb hr hlk hw hS e1 e2 dX5_type_30
    · replace h := t_neg h q1
      refine lv_bipush (v := -3) hx hb dX5_type_12 (by decide) ?_
      have e1 := (t_ret h).1
      have e2 := (t_ret h).2
      exact e_i hx hb hr hlk hw hS e1 e2 dX5_type_14
  exact main _ _ hw hS ls hl

theorem cf_X5_clearText : cfV RX5 yX5_clearText cX5_clearText 2 (some .int) 0 := ⟨⟨k_489, k_490, k_1, k_491⟩, by decide +kernel⟩
def f_X5_clearText (M : MM) : Option (Int32 × MM) :=
  lt1 (gs M 7 (up (M 7) 0 2 (nI 0))) fun M2 => some ((M 7 0 2), M2)
set_option maxHeartbeats 4000000 in
set_option maxRecDepth 100000 in
theorem c_X5_clearText {l : Launch} {D : va_G} {cy : Nat → ClassId} {ad : Nat → Nat → Nat} (hcv : CV ad) {M : MM} {r : Int32} {x : MM} (h : f_X5_clearText M = some (r, x)) : Met l yX5_clearText (.code yX5_clearText cX5_clearText 2 (some .int) :: TB) ({ frames := 0, cells := 0, slots := 0, locals := 0 } : Room) (PW D cy ad M [.ref (ad 8 0)]) (QI D cy ad r x) 0 0 (AD ad) := by
  refine m_in (by decide +kernel) (Nat.le_of_ble_eq_true rfl) ?_
  intro p e s md args below meth c hC hw hS ls hl
  obtain ⟨hx, hb, hr, hml, hown, hts, hK, hlk⟩ := hC
  have hl : lv_has ls 2 [(0, .ref (ad 8 0))] := hl
  unfold f_X5_clearText at h
  have main : JL p l e ({ frames := 0, cells := 0, slots := 0, locals := 0 } : Room) s md args below meth c D cy ad (MQ below (QI D cy ad r x) args s 0 0 (AD ad)) (M) 2 [(0, .ref (ad 8 0))] 0 [] := by
    intro H locs hw hS ls hl
    refine lv_aload_n hx hb dX5_clearText_0 rfl (lv_at hl 0 rfl) ?_
    refine r_get hx hb hts hown hK hw (v_mn (by decide)) rfl E_mn inX5 rfl 0 (by decide) k_206 rfl rfl dX5_clearText_1 ?_
    refine r_get hx hb hts hown hK hw (v_tx (by decide)) rfl E_tx inX1 rfl 2 (by decide) k_28 rfl rfl dX5_clearText_4 ?_
    refine lv_istore_n (lv' := [(1, .int (M 7 0 2)), (0, .ref (ad 8 0))]) hx hb dX5_clearText_7 rfl hl (by decide) rfl (fun ls hl => ?_)
    refine lv_aload_n hx hb dX5_clearText_8 rfl (lv_at hl 1 rfl) ?_
    refine r_get hx hb hts hown hK hw (v_mn (by decide)) rfl E_mn inX5 rfl 0 (by decide) k_206 rfl rfl dX5_clearText_9 ?_
    refine lv_iconst (v := nI 0) hx hb dX5_clearText_12 (by decide) ?_
    obtain ⟨M2, e1, h⟩ := t_lt h
    refine r_put hx hb hts hown hK hcv hw hS (v_tx (by decide)) rfl E_tx inX1 rfl tyX1 tyX1_ok nmX1 2 (by decide) k_28 rfl rfl rfl rfl (Nat.le_of_ble_eq_true rfl) E_tx e1.symm dX5_clearText_13 (fun H locs hw hS => ?_)
    refine lv_iload_n hx hb dX5_clearText_16 rfl (lv_at hl 0 rfl) ?_
    have e1 := (t_ret h).1
    have e2 := (t_ret h).2
    exact e_i hx hb hr hlk hw hS e1 e2 dX5_clearText_17
  exact main _ _ hw hS ls hl

theorem cf_X5_undo : cfV RX5 yX5_undo cX5_undo 1 (some .int) 0 := ⟨⟨k_493, k_494, k_1, k_495⟩, by decide +kernel⟩
def f_X5_undo (M : MM) : Option (Int32 × MM) :=
  (if (M 8 1 2) = (nI 0) then some ((-5 : Int32), M) else bd (f_X2_takeLatest M) fun r3 M4 => some ((M4 8 1 2), M4))
set_option maxHeartbeats 4000000 in
set_option maxRecDepth 100000 in
theorem c_X5_undo {l : Launch} {D : va_G} {cy : Nat → ClassId} {ad : Nat → Nat → Nat} (hcv : CV ad) {M : MM} {r : Int32} {x : MM} (h : f_X5_undo M = some (r, x)) : Met l yX5_undo (.code yX5_undo cX5_undo 1 (some .int) :: TB) ({ frames := 4, cells := 0, slots := 0, locals := 124 } : Room) (PW D cy ad M [.ref (ad 8 0)]) (QI D cy ad r x) 0 0 (AD ad) := by
  refine m_in (by decide +kernel) (Nat.le_of_ble_eq_true rfl) ?_
  intro p e s md args below meth c hC hw hS ls hl
  obtain ⟨hx, hb, hr, hml, hown, hts, hK, hlk⟩ := hC
  have hl : lv_has ls 1 [(0, .ref (ad 8 0))] := hl
  unfold f_X5_undo at h
  have main : JL p l e ({ frames := 4, cells := 0, slots := 0, locals := 124 } : Room) s md args below meth c D cy ad (MQ below (QI D cy ad r x) args s 0 0 (AD ad)) (M) 1 [(0, .ref (ad 8 0))] 0 [] := by
    intro H locs hw hS ls hl
    refine lv_aload_n hx hb dX5_undo_0 rfl (lv_at hl 0 rfl) ?_
    refine r_get hx hb hts hown hK hw (v_mn (by decide)) rfl E_mn inX5 rfl 4 (by decide) k_210 rfl rfl dX5_undo_1 ?_
    refine r_get hx hb hts hown hK hw (v_mn (by decide)) rfl E_hi inX2 rfl 2 (by decide) k_198 rfl rfl dX5_undo_4 ?_
    refine lv_if_ne (tgt := 13) hx hb dX5_undo_7 (by decide) (fun q1 => ?_) (fun q1 => ?_)
    · replace h := t_neg h q1
      refine lv_aload_n hx hb dX5_undo_13 rfl (lv_at hl 0 rfl) ?_
      refine r_get hx hb hts hown hK hw (v_mn (by decide)) rfl E_mn inX5 rfl 4 (by decide) k_210 rfl rfl dX5_undo_14 ?_
      refine lv_aload_n hx hb dX5_undo_17 rfl (lv_at hl 0 rfl) ?_
      refine r_get hx hb hts hown hK hw (v_mn (by decide)) rfl E_mn inX5 rfl 1 (by decide) k_207 rfl rfl dX5_undo_18 ?_
      obtain ⟨r3, M4, y2, h⟩ := t_bd h
      refine c_vv hx hb hml hown hts hK hw hS (fun _ h => h) (As := [.ref (ad 0 0)]) (rest := []) (c_X2_takeLatest hcv (M := M) y2) cf_X2_takeLatest k_496 rfl rfl ⟨Nat.le_of_ble_eq_true rfl, Nat.le_of_ble_eq_true rfl⟩ (r_recv hK hw (v_mn (by decide)) E_hi rfl) rfl hl.1 rfl (Nat.le_of_ble_eq_true rfl) ⟨Nat.le_refl _, Nat.le_refl _⟩ dX5_undo_21 (fun H locs hw hS => ?_)
      refine lv_aload_n hx hb dX5_undo_24 rfl (lv_at hl 0 rfl) ?_
      refine r_get hx hb hts hown hK hw (v_mn (by decide)) rfl E_mn inX5 rfl 4 (by decide) k_210 rfl rfl dX5_undo_25 ?_
      refine r_get hx hb hts hown hK hw (v_mn (by decide)) rfl E_hi inX2 rfl 2 (by decide) k_198 rfl rfl dX5_undo_28 ?_
      have e1 := (t_ret h).1
      have e2 := (t_ret h).2
      exact e_i hx hb hr hlk hw hS e1 e2 dX5_undo_31
    · replace h := t_pos h q1
      refine lv_bipush (v := -5) hx hb dX5_undo_10 (by decide) ?_
      have e1 := (t_ret h).1
      have e2 := (t_ret h).2
      exact e_i hx hb hr hlk hw hS e1 e2 dX5_undo_12
  exact main _ _ hw hS ls hl

theorem cf_X5_keep : cfV RX5 yX5_keep cX5_keep 1 (some .int) 0 := ⟨⟨k_501, k_502, k_1, k_503⟩, by decide +kernel⟩
def f_X5_keep (M : MM) : Option (Int32 × MM) :=
  bd (f_X4_copyFrom (M 2) (M 0)) fun r2 m3 => lt1 (gs M 2 m3) fun M4 => lt1 (gs M4 8 (up (M4 8) 0 5 (nI 1))) fun M7 => b1 (f_X4_readRows (M7 0) (nI 15)) fun r9 => some (r9, M7)
set_option maxHeartbeats 4000000 in
set_option maxRecDepth 100000 in
theorem c_X5_keep {l : Launch} {D : va_G} {cy : Nat → ClassId} {ad : Nat → Nat → Nat} (hcv : CV ad) {M : MM} {r : Int32} {x : MM} (h : f_X5_keep M = some (r, x)) : Met l yX5_keep (.code yX5_keep cX5_keep 1 (some .int) :: TB) ({ frames := 3, cells := 0, slots := 0, locals := 103 } : Room) (PW D cy ad M [.ref (ad 8 0)]) (QI D cy ad r x) 0 0 (AD ad) := by
  refine m_in (by decide +kernel) (Nat.le_of_ble_eq_true rfl) ?_
  intro p e s md args below meth c hC hw hS ls hl
  obtain ⟨hx, hb, hr, hml, hown, hts, hK, hlk⟩ := hC
  have hl : lv_has ls 1 [(0, .ref (ad 8 0))] := hl
  unfold f_X5_keep at h
  have main : JL p l e ({ frames := 3, cells := 0, slots := 0, locals := 103 } : Room) s md args below meth c D cy ad (MQ below (QI D cy ad r x) args s 0 0 (AD ad)) (M) 1 [(0, .ref (ad 8 0))] 0 [] := by
    intro H locs hw hS ls hl
    refine lv_aload_n hx hb dX5_keep_0 rfl (lv_at hl 0 rfl) ?_
    refine r_get hx hb hts hown hK hw (v_mn (by decide)) rfl E_mn inX5 rfl 3 (by decide) k_209 rfl rfl dX5_keep_1 ?_
    refine lv_aload_n hx hb dX5_keep_4 rfl (lv_at hl 0 rfl) ?_
    refine r_get hx hb hts hown hK hw (v_mn (by decide)) rfl E_mn inX5 rfl 1 (by decide) k_207 rfl rfl dX5_keep_5 ?_
    obtain ⟨r2, m3, y1, h⟩ := t_bd h
    obtain ⟨M4, e5, h⟩ := t_lt h
    refine c_vv hx hb hml hown hts hK hw hS (fun _ h => h) (As := [.ref (ad 0 0)]) (rest := []) (c_X4_copyFrom hcv (g := 2) (hg := (by decide)) (g2 := 0) (hg2 := (by decide)) (M0 := M) (m := M 2) (hm := rfl) (mz := M 0) (hne := by omega) (hm2 := rfl) y1) cf_X4_copyFrom k_504 rfl rfl ⟨Nat.le_of_ble_eq_true rfl, Nat.le_of_ble_eq_true rfl⟩ (r_recv hK hw (v_st (by decide) (by decide)) (E_st (by decide)) rfl) rfl hl.1 rfl (Nat.le_of_ble_eq_true rfl) ⟨Nat.le_refl _, Nat.le_refl _⟩ dX5_keep_8 (fun H locs hw hS => ?_)
    rw [← e5] at hw
    refine lv_aload_n hx hb dX5_keep_11 rfl (lv_at hl 0 rfl) ?_
    refine lv_iconst (v := nI 1) hx hb dX5_keep_12 (by decide) ?_
    obtain ⟨M7, e6, h⟩ := t_lt h
    refine r_put hx hb hts hown hK hcv hw hS (v_mn (by decide)) rfl E_mn inX5 rfl tyX5 tyX5_ok nmX5 5 (by decide) k_211 rfl rfl rfl rfl (Nat.le_of_ble_eq_true rfl) E_mn e6.symm dX5_keep_13 (fun H locs hw hS => ?_)
    refine lv_aload_n hx hb dX5_keep_16 rfl (lv_at hl 0 rfl) ?_
    refine r_get hx hb hts hown hK hw (v_mn (by decide)) rfl E_mn inX5 rfl 1 (by decide) k_207 rfl rfl dX5_keep_17 ?_
    refine lv_bipush (v := nI 15) hx hb dX5_keep_20 (by decide) ?_
    obtain ⟨r9, y8, h⟩ := t_b1 h
    refine c_vi hx hb hml hown hts hK hw hS (fun _ h => h) (As := [.int (nI 15)]) (rest := []) (c_X4_readRows hcv (g := 0) (hg := (by decide)) (M0 := M7) (m := M7 0) (hm := rfl) y8) cf_X4_readRows k_381 rfl rfl ⟨Nat.le_of_ble_eq_true rfl, Nat.le_of_ble_eq_true rfl⟩ (r_recv hK hw (v_st (by decide) (by decide)) (E_st (by decide)) rfl) rfl hl.1 rfl (Nat.le_of_ble_eq_true rfl) ⟨Nat.le_refl _, Nat.le_refl _⟩ dX5_keep_22 (fun H locs hw hS => ?_)
    have e1 := (t_ret h).1
    have e2 := (t_ret h).2
    exact e_i hx hb hr hlk hw hS e1 e2 dX5_keep_25
  exact main _ _ hw hS ls hl

theorem cf_X5_restore : cfV RX5 yX5_restore cX5_restore 1 (some .int) 0 := ⟨⟨k_506, k_507, k_1, k_508⟩, by decide +kernel⟩
def f_X5_restore (M : MM) : Option (Int32 × MM) :=
  (if (M 8 0 5) = (nI 0) then some ((-5 : Int32), M) else bd (f_X2_record M) fun r3 M4 => bd (f_X4_copyFrom (M4 0) (M4 2)) fun r6 m7 => lt1 (gs M4 0 m7) fun M8 => bd (f_X4_settle (M8 0)) fun r11 m12 => lt1 (gs M8 0 m12) fun M13 => b1 (f_X4_readRows (M13 0) (nI 15)) fun r16 => some (r16, M13))
set_option maxHeartbeats 4000000 in
set_option maxRecDepth 100000 in
theorem c_X5_restore {l : Launch} {D : va_G} {cy : Nat → ClassId} {ad : Nat → Nat → Nat} (hcv : CV ad) {M : MM} {r : Int32} {x : MM} (h : f_X5_restore M = some (r, x)) : Met l yX5_restore (.code yX5_restore cX5_restore 1 (some .int) :: TB) ({ frames := 4, cells := 0, slots := 0, locals := 124 } : Room) (PW D cy ad M [.ref (ad 8 0)]) (QI D cy ad r x) 0 0 (AD ad) := by
  refine m_in (by decide +kernel) (Nat.le_of_ble_eq_true rfl) ?_
  intro p e s md args below meth c hC hw hS ls hl
  obtain ⟨hx, hb, hr, hml, hown, hts, hK, hlk⟩ := hC
  have hl : lv_has ls 1 [(0, .ref (ad 8 0))] := hl
  unfold f_X5_restore at h
  have main : JL p l e ({ frames := 4, cells := 0, slots := 0, locals := 124 } : Room) s md args below meth c D cy ad (MQ below (QI D cy ad r x) args s 0 0 (AD ad)) (M) 1 [(0, .ref (ad 8 0))] 0 [] := by
    intro H locs hw hS ls hl
    refine lv_aload_n hx hb dX5_restore_0 rfl (lv_at hl 0 rfl) ?_
    refine r_get hx hb hts hown hK hw (v_mn (by decide)) rfl E_mn inX5 rfl 5 (by decide) k_211 rfl rfl dX5_restore_1 ?_
    refine lv_if_ne (tgt := 10) hx hb dX5_restore_4 (by decide) (fun q1 => ?_) (fun q1 => ?_)
    · replace h := t_neg h q1
      refine lv_aload_n hx hb dX5_restore_10 rfl (lv_at hl 0 rfl) ?_
      refine r_get hx hb hts hown hK hw (v_mn (by decide)) rfl E_mn inX5 rfl 4 (by decide) k_210 rfl rfl dX5_restore_11 ?_
      refine lv_aload_n hx hb dX5_restore_14 rfl (lv_at hl 0 rfl) ?_
      refine r_get hx hb hts hown hK hw (v_mn (by decide)) rfl E_mn inX5 rfl 1 (by decide) k_207 rfl rfl dX5_restore_15 ?_
      obtain ⟨r3, M4, y2, h⟩ := t_bd h
      refine c_vv hx hb hml hown hts hK hw hS (fun _ h => h) (As := [.ref (ad 0 0)]) (rest := []) (c_X2_record hcv (M := M) y2) cf_X2_record k_256 rfl rfl ⟨Nat.le_of_ble_eq_true rfl, Nat.le_of_ble_eq_true rfl⟩ (r_recv hK hw (v_mn (by decide)) E_hi rfl) rfl hl.1 rfl (Nat.le_of_ble_eq_true rfl) ⟨Nat.le_refl _, Nat.le_refl _⟩ dX5_restore_18 (fun H locs hw hS => ?_)
      refine lv_aload_n hx hb dX5_restore_21 rfl (lv_at hl 0 rfl) ?_
      refine r_get hx hb hts hown hK hw (v_mn (by decide)) rfl E_mn inX5 rfl 1 (by decide) k_207 rfl rfl dX5_restore_22 ?_
      refine lv_aload_n hx hb dX5_restore_25 rfl (lv_at hl 0 rfl) ?_
      refine r_get hx hb hts hown hK hw (v_mn (by decide)) rfl E_mn inX5 rfl 3 (by decide) k_209 rfl rfl dX5_restore_26 ?_
      obtain ⟨r6, m7, y5, h⟩ := t_bd h
      obtain ⟨M8, e9, h⟩ := t_lt h
      refine c_vv hx hb hml hown hts hK hw hS (fun _ h => h) (As := [.ref (ad 2 0)]) (rest := []) (c_X4_copyFrom hcv (g := 0) (hg := (by decide)) (g2 := 2) (hg2 := (by decide)) (M0 := M4) (m := M4 0) (hm := rfl) (mz := M4 2) (hne := by omega) (hm2 := rfl) y5) cf_X4_copyFrom k_504 rfl rfl ⟨Nat.le_of_ble_eq_true rfl, Nat.le_of_ble_eq_true rfl⟩ (r_recv hK hw (v_st (by decide) (by decide)) (E_st (by decide)) rfl) rfl hl.1 rfl (Nat.le_of_ble_eq_true rfl) ⟨Nat.le_refl _, Nat.le_refl _⟩ dX5_restore_29 (fun H locs hw hS => ?_)
      rw [← e9] at hw
      refine lv_aload_n hx hb dX5_restore_32 rfl (lv_at hl 0 rfl) ?_
      refine r_get hx hb hts hown hK hw (v_mn (by decide)) rfl E_mn inX5 rfl 1 (by decide) k_207 rfl rfl dX5_restore_33 ?_
      obtain ⟨r11, m12, y10, h⟩ := t_bd h
      obtain ⟨M13, e14, h⟩ := t_lt h
      refine c_vv hx hb hml hown hts hK hw hS (fun _ h => h) (As := []) (rest := []) (c_X4_settle hcv (g := 0) (hg := (by decide)) (M0 := M8) (m := M8 0) (hm := rfl) y10) cf_X4_settle k_297 rfl rfl ⟨Nat.le_of_ble_eq_true rfl, Nat.le_of_ble_eq_true rfl⟩ (r_recv hK hw (v_st (by decide) (by decide)) (E_st (by decide)) rfl) rfl hl.1 rfl (Nat.le_of_ble_eq_true rfl) ⟨Nat.le_refl _, Nat.le_refl _⟩ dX5_restore_36 (fun H locs hw hS => ?_)
      rw [← e14] at hw
      refine lv_aload_n hx hb dX5_restore_39 rfl (lv_at hl 0 rfl) ?_
      refine r_get hx hb hts hown hK hw (v_mn (by decide)) rfl E_mn inX5 rfl 1 (by decide) k_207 rfl rfl dX5_restore_40 ?_
      refine lv_bipush (v := nI 15) hx hb dX5_restore_43 (by decide) ?_
      obtain ⟨r16, y15, h⟩ := t_b1 h
      refine c_vi hx hb hml hown hts hK hw hS (fun _ h => h) (As := [.int (nI 15)]) (rest := []) (c_X4_readRows hcv (g := 0) (hg := (by decide)) (M0 := M13) (m := M13 0) (hm := rfl) y15) cf_X4_readRows k_381 rfl rfl ⟨Nat.le_of_ble_eq_true rfl, Nat.le_of_ble_eq_true rfl⟩ (r_recv hK hw (v_st (by decide) (by decide)) (E_st (by decide)) rfl) rfl hl.1 rfl (Nat.le_of_ble_eq_true rfl) ⟨Nat.le_refl _, Nat.le_refl _⟩ dX5_restore_45 (fun H locs hw hS => ?_)
      have e1 := (t_ret h).1
      have e2 := (t_ret h).2
      exact e_i hx hb hr hlk hw hS e1 e2 dX5_restore_48
    · replace h := t_pos h q1
      refine lv_bipush (v := -5) hx hb dX5_restore_7 (by decide) ?_
      have e1 := (t_ret h).1
      have e2 := (t_ret h).2
      exact e_i hx hb hr hlk hw hS e1 e2 dX5_restore_9
  exact main _ _ hw hS ls hl

theorem cf_X5_block : cfV RX5 yX5_block cX5_block 4 (some .int) 2 := ⟨⟨k_510, k_511, k_1, k_512⟩, by decide +kernel⟩
def f_X5_block (M : MM) (p0 : Int32) (p1 : Int32) : Option (Int32) :=
  b1 (f_X4_hasBlock (M 0) p0) fun r2 => (if r2 = (nI 0) then some (-1 : Int32) else gd p0 8 ((if p1 = (nI 0) then some (M 0 (3 + p0.toNatClampNeg) 1) else (if p1 = (nI 1) then some (M 0 (3 + p0.toNatClampNeg) 2) else (if p1 = (nI 2) then some (M 0 (3 + p0.toNatClampNeg) 3) else (if p1 = (nI 3) then some (M 0 (3 + p0.toNatClampNeg) 4) else (if p1 = (nI 4) then some (M 0 (3 + p0.toNatClampNeg) 5) else (if p1 = (nI 5) then b1 (f_X4_weight (M 0) p0.toNatClampNeg) fun r13 => some r13 else (if p1 = (nI 6) then some (M 0 (3 + p0.toNatClampNeg) 6) else (some (-2 : Int32)))))))))))
set_option maxHeartbeats 4000000 in
set_option maxRecDepth 100000 in
theorem c_X5_block {l : Launch} {D : va_G} {cy : Nat → ClassId} {ad : Nat → Nat → Nat} (hcv : CV ad) {M : MM} {p0 p1 : Int32} {r : Int32} (h : f_X5_block M p0 p1 = some r) : Met l yX5_block (.code yX5_block cX5_block 4 (some .int) :: TB) ({ frames := 2, cells := 0, slots := 0, locals := 45 } : Room) (PW D cy ad M [.ref (ad 8 0), .int p0, .int p1]) (QI D cy ad r M) 0 0 (AD ad) := by
  refine m_in (by decide +kernel) (Nat.le_of_ble_eq_true rfl) ?_
  intro p e s md args below meth c hC hw hS ls hl
  obtain ⟨hx, hb, hr, hml, hown, hts, hK, hlk⟩ := hC
  have hl : lv_has ls 4 [(0, .ref (ad 8 0)), (1, .int p0), (2, .int p1)] := hl
  unfold f_X5_block at h
  have main : JL p l e ({ frames := 2, cells := 0, slots := 0, locals := 45 } : Room) s md args below meth c D cy ad (MQ below (QI D cy ad r M) args s 0 0 (AD ad)) (M) 4 [(0, .ref (ad 8 0)), (1, .int p0), (2, .int p1)] 0 [] := by
    intro H locs hw hS ls hl
    refine lv_aload_n hx hb dX5_block_0 rfl (lv_at hl 0 rfl) ?_
    refine r_get hx hb hts hown hK hw (v_mn (by decide)) rfl E_mn inX5 rfl 1 (by decide) k_207 rfl rfl dX5_block_1 ?_
    refine lv_iload_n hx hb dX5_block_4 rfl (lv_at hl 1 rfl) ?_
    obtain ⟨r2, y1, h⟩ := t_b1 h
    refine c_vi hx hb hml hown hts hK hw hS (fun _ h => h) (As := [.int p0]) (rest := []) (c_X4_hasBlock hcv (g := 0) (hg := (by decide)) (M0 := M) (m := M 0) (hm := rfl) y1) cf_X4_hasBlock k_338 rfl rfl ⟨Nat.le_of_ble_eq_true rfl, Nat.le_of_ble_eq_true rfl⟩ (r_recv hK hw (v_st (by decide) (by decide)) (E_st (by decide)) rfl) rfl hl.1 rfl (Nat.le_of_ble_eq_true rfl) ⟨Nat.le_refl _, Nat.le_refl _⟩ dX5_block_5 (fun H locs hw hS => ?_)
    refine lv_if_ne (tgt := 13) hx hb dX5_block_8 (by decide) (fun q3 => ?_) (fun q3 => ?_)
    · replace h := t_neg h q3
      refine lv_aload_n hx hb dX5_block_13 rfl (lv_at hl 0 rfl) ?_
      refine r_get hx hb hts hown hK hw (v_mn (by decide)) rfl E_mn inX5 rfl 1 (by decide) k_207 rfl rfl dX5_block_14 ?_
      refine r_get hx hb hts hown hK hw (v_st (by decide) (by decide)) rfl (E_st (by decide)) inX4 rfl 0 (by decide) k_162 rfl rfl dX5_block_17 ?_
      refine lv_iload_n hx hb dX5_block_20 rfl (lv_at hl 1 rfl) ?_
      obtain ⟨q4, h⟩ := t_gd h
      refine r_aald hx hb hK hw (v_st (by decide) (by decide)) (t0 := 2) rfl (E_ba (by decide)) (v := .ref (ad 0 (3 + p0.toNatClampNeg))) rfl q4 dX5_block_21 ?_
      refine lv_astore_n (lv' := [(3, .ref (ad 0 (3 + p0.toNatClampNeg))), (0, .ref (ad 8 0)), (1, .int p0), (2, .int p1)]) hx hb dX5_block_22 rfl hl (by decide) rfl (fun ls hl => ?_)
      refine lv_iload_n hx hb dX5_block_23 rfl (lv_at hl 3 rfl) ?_
      by_cases q5 : p1 = (nI 0)
      · replace h := t_pos h q5
        refine lv_tableIn (off := 44) (tgt := 68) hx hb dX5_block_24 (by rw [q5]; decide) (by rw [q5]; decide) (by rw [q5]; rfl) (by decide) ?_
        refine lv_aload_n hx hb dX5_block_68 rfl (lv_at hl 0 rfl) ?_
        refine r_get hx hb hts hown hK hw (v_bk (by decide) (vin q4)) rfl (E_bk (by decide) (vin q4)) inX0 rfl 1 (by decide) k_77 rfl rfl dX5_block_69 ?_
        have e1 := Option.some.inj h
        exact e_i hx hb hr hlk hw hS e1 rfl dX5_block_72
      · replace h := t_neg h q5
        by_cases q6 : p1 = (nI 1)
        · replace h := t_pos h q6
          refine lv_tableIn (off := 49) (tgt := 73) hx hb dX5_block_24 (by rw [q6]; decide) (by rw [q6]; decide) (by rw [q6]; rfl) (by decide) ?_
          refine lv_aload_n hx hb dX5_block_73 rfl (lv_at hl 0 rfl) ?_
          refine r_get hx hb hts hown hK hw (v_bk (by decide) (vin q4)) rfl (E_bk (by decide) (vin q4)) inX0 rfl 2 (by decide) k_80 rfl rfl dX5_block_74 ?_
          have e1 := Option.some.inj h
          exact e_i hx hb hr hlk hw hS e1 rfl dX5_block_77
        · replace h := t_neg h q6
          by_cases q7 : p1 = (nI 2)
          · replace h := t_pos h q7
            refine lv_tableIn (off := 54) (tgt := 78) hx hb dX5_block_24 (by rw [q7]; decide) (by rw [q7]; decide) (by rw [q7]; rfl) (by decide) ?_
            refine lv_aload_n hx hb dX5_block_78 rfl (lv_at hl 0 rfl) ?_
            refine r_get hx hb hts hown hK hw (v_bk (by decide) (vin q4)) rfl (E_bk (by decide) (vin q4)) inX0 rfl 3 (by decide) k_84 rfl rfl dX5_block_79 ?_
            have e1 := Option.some.inj h
            exact e_i hx hb hr hlk hw hS e1 rfl dX5_block_82
          · replace h := t_neg h q7
            by_cases q8 : p1 = (nI 3)
            · replace h := t_pos h q8
              refine lv_tableIn (off := 59) (tgt := 83) hx hb dX5_block_24 (by rw [q8]; decide) (by rw [q8]; decide) (by rw [q8]; rfl) (by decide) ?_
              refine lv_aload_n hx hb dX5_block_83 rfl (lv_at hl 0 rfl) ?_
              refine r_get hx hb hts hown hK hw (v_bk (by decide) (vin q4)) rfl (E_bk (by decide) (vin q4)) inX0 rfl 4 (by decide) k_87 rfl rfl dX5_block_84 ?_
              have e1 := Option.some.inj h
              exact e_i hx hb hr hlk hw hS e1 rfl dX5_block_87
            · replace h := t_neg h q8
              by_cases q9 : p1 = (nI 4)
              · replace h := t_pos h q9
                refine lv_tableIn (off := 64) (tgt := 88) hx hb dX5_block_24 (by rw [q9]; decide) (by rw [q9]; decide) (by rw [q9]; rfl) (by decide) ?_
                refine lv_aload_n hx hb dX5_block_88 rfl (lv_at hl 0 rfl) ?_
                refine r_get hx hb hts hown hK hw (v_bk (by decide) (vin q4)) rfl (E_bk (by decide) (vin q4)) inX0 rfl 5 (by decide) k_90 rfl rfl dX5_block_89 ?_
                have e1 := Option.some.inj h
                exact e_i hx hb hr hlk hw hS e1 rfl dX5_block_92
              · replace h := t_neg h q9
                by_cases q10 : p1 = (nI 5)
                · replace h := t_pos h q10
                  refine lv_tableIn (off := 69) (tgt := 93) hx hb dX5_block_24 (by rw [q10]; decide) (by rw [q10]; decide) (by rw [q10]; rfl) (by decide) ?_
                  refine lv_aload_n hx hb dX5_block_93 rfl (lv_at hl 1 rfl) ?_
                  refine r_get hx hb hts hown hK hw (v_mn (by decide)) rfl E_mn inX5 rfl 1 (by decide) k_207 rfl rfl dX5_block_94 ?_
                  refine lv_aload_n hx hb dX5_block_97 rfl (lv_at hl 0 rfl) ?_
                  obtain ⟨r13, y12, h⟩ := t_b1 h
                  refine c_vi hx hb hml hown hts hK hw hS (fun _ h => h) (As := [.ref (ad 0 (3 + p0.toNatClampNeg))]) (rest := []) (c_X4_weight hcv (g := 0) (hg := (by decide)) (i := p0.toNatClampNeg) (hi := (vin q4)) (M0 := M) (m := M 0) (hm := rfl) y12) cf_X4_weight k_513 rfl rfl ⟨Nat.le_of_ble_eq_true rfl, Nat.le_of_ble_eq_true rfl⟩ (r_recv hK hw (v_st (by decide) (by decide)) (E_st (by decide)) rfl) rfl hl.1 rfl (Nat.le_of_ble_eq_true rfl) ⟨Nat.le_refl _, Nat.le_refl _⟩ dX5_block_98 (fun H locs hw hS => ?_)
                  have e1 := Option.some.inj h
                  exact e_i hx hb hr hlk hw hS e1 rfl dX5_block_101
                · replace h := t_neg h q10
                  by_cases q11 : p1 = (nI 6)
                  · replace h := t_pos h q11
                    refine lv_tableIn (off := 78) (tgt := 102) hx hb dX5_block_24 (by rw [q11]; decide) (by rw [q11]; decide) (by rw [q11]; rfl) (by decide) ?_
                    refine lv_aload_n hx hb dX5_block_102 rfl (lv_at hl 0 rfl) ?_
                    refine r_get hx hb hts hown hK hw (v_bk (by decide) (vin q4)) rfl (E_bk (by decide) (vin q4)) inX0 rfl 6 (by decide) k_94 rfl rfl dX5_block_103 ?_
                    have e1 := Option.some.inj h
                    exact e_i hx hb hr hlk hw hS e1 rfl dX5_block_106
                  · replace h := t_neg h q11
                    refine lv_tableOut (tgt := 107) hx hb dX5_block_24 (tab_out (lo := 0) (n := 7) (by decide) (lt_s (lt_s (lt_s (lt_s (lt_s (lt_s (lt_s lt_0 q5) q6) q7) q8) q9) q10) q11)) (by decide) ?_
                    refine lv_bipush (v := -2) hx hb dX5_block_107 (by decide) ?_
                    have e1 := Option.some.inj h
                    exact e_i hx hb hr hlk hw hS e1 rfl dX5_block_109
    · replace h := t_pos h q3
      refine lv_iconst (v := -1) hx hb dX5_block_11 (by decide) ?_
      have e1 := Option.some.inj h
      exact e_i hx hb hr hlk hw hS e1 rfl dX5_block_12
  exact main _ _ hw hS ls hl

theorem cf_X5_value : cfV RX5 yX5_value cX5_value 4 (some .int) 2 := ⟨⟨k_515, k_516, k_1, k_517⟩, by decide +kernel⟩
def f_X5_value (M : MM) (p0 : Int32) (p1 : Int32) : Option (Int32) :=
  b1 (f_X4_hasRow (M 0) p0 p1) fun r2 => (if r2 = (nI 0) then some (-1 : Int32) else gd p0 8 ((if (M 0 (3 + p0.toNatClampNeg) 5) ≤ p1 then some (-4 : Int32) else gd p1 16 (some (M 0 (11 + p0.toNatClampNeg) p1.toNatClampNeg)))))
set_option maxHeartbeats 4000000 in
set_option maxRecDepth 100000 in
theorem c_X5_value {l : Launch} {D : va_G} {cy : Nat → ClassId} {ad : Nat → Nat → Nat} (hcv : CV ad) {M : MM} {p0 p1 : Int32} {r : Int32} (h : f_X5_value M p0 p1 = some r) : Met l yX5_value (.code yX5_value cX5_value 4 (some .int) :: TB) ({ frames := 3, cells := 0, slots := 0, locals := 65 } : Room) (PW D cy ad M [.ref (ad 8 0), .int p0, .int p1]) (QI D cy ad r M) 0 0 (AD ad) := by
  refine m_in (by decide +kernel) (Nat.le_of_ble_eq_true rfl) ?_
  intro p e s md args below meth c hC hw hS ls hl
  obtain ⟨hx, hb, hr, hml, hown, hts, hK, hlk⟩ := hC
  have hl : lv_has ls 4 [(0, .ref (ad 8 0)), (1, .int p0), (2, .int p1)] := hl
  unfold f_X5_value at h
  have main : JL p l e ({ frames := 3, cells := 0, slots := 0, locals := 65 } : Room) s md args below meth c D cy ad (MQ below (QI D cy ad r M) args s 0 0 (AD ad)) (M) 4 [(0, .ref (ad 8 0)), (1, .int p0), (2, .int p1)] 0 [] := by
    intro H locs hw hS ls hl
    refine lv_aload_n hx hb dX5_value_0 rfl (lv_at hl 0 rfl) ?_
    refine r_get hx hb hts hown hK hw (v_mn (by decide)) rfl E_mn inX5 rfl 1 (by decide) k_207 rfl rfl dX5_value_1 ?_
    refine lv_iload_n hx hb dX5_value_4 rfl (lv_at hl 1 rfl) ?_
    refine lv_iload_n hx hb dX5_value_5 rfl (lv_at hl 2 rfl) ?_
    obtain ⟨r2, y1, h⟩ := t_b1 h
    refine c_vi hx hb hml hown hts hK hw hS (fun _ h => h) (As := [.int p0, .int p1]) (rest := []) (c_X4_hasRow hcv (g := 0) (hg := (by decide)) (M0 := M) (m := M 0) (hm := rfl) y1) cf_X4_hasRow k_356 rfl rfl ⟨Nat.le_of_ble_eq_true rfl, Nat.le_of_ble_eq_true rfl⟩ (r_recv hK hw (v_st (by decide) (by decide)) (E_st (by decide)) rfl) rfl hl.1 rfl (Nat.le_of_ble_eq_true rfl) ⟨Nat.le_refl _, Nat.le_refl _⟩ dX5_value_6 (fun H locs hw hS => ?_)
    refine lv_if_ne (tgt := 14) hx hb dX5_value_9 (by decide) (fun q3 => ?_) (fun q3 => ?_)
    · replace h := t_neg h q3
      refine lv_aload_n hx hb dX5_value_14 rfl (lv_at hl 0 rfl) ?_
      refine r_get hx hb hts hown hK hw (v_mn (by decide)) rfl E_mn inX5 rfl 1 (by decide) k_207 rfl rfl dX5_value_15 ?_
      refine r_get hx hb hts hown hK hw (v_st (by decide) (by decide)) rfl (E_st (by decide)) inX4 rfl 0 (by decide) k_162 rfl rfl dX5_value_18 ?_
      refine lv_iload_n hx hb dX5_value_21 rfl (lv_at hl 1 rfl) ?_
      obtain ⟨q4, h⟩ := t_gd h
      refine r_aald hx hb hK hw (v_st (by decide) (by decide)) (t0 := 2) rfl (E_ba (by decide)) (v := .ref (ad 0 (3 + p0.toNatClampNeg))) rfl q4 dX5_value_22 ?_
      refine lv_astore_n (lv' := [(3, .ref (ad 0 (3 + p0.toNatClampNeg))), (0, .ref (ad 8 0)), (1, .int p0), (2, .int p1)]) hx hb dX5_value_23 rfl hl (by decide) rfl (fun ls hl => ?_)
      refine lv_iload_n hx hb dX5_value_24 rfl (lv_at hl 3 rfl) ?_
      refine lv_aload_n hx hb dX5_value_25 rfl (lv_at hl 0 rfl) ?_
      refine r_get hx hb hts hown hK hw (v_bk (by decide) (vin q4)) rfl (E_bk (by decide) (vin q4)) inX0 rfl 5 (by decide) k_90 rfl rfl dX5_value_26 ?_
      refine lv_icmp_ge (tgt := 41) hx hb dX5_value_29 (by decide) (fun q5 => ?_) (fun q5 => ?_)
      · replace h := t_pos h q5
        refine lv_bipush (v := -4) hx hb dX5_value_41 (by decide) ?_
        have e1 := Option.some.inj h
        exact e_i hx hb hr hlk hw hS e1 rfl dX5_value_43
      · replace h := t_neg h q5
        refine lv_aload_n hx hb dX5_value_32 rfl (lv_at hl 0 rfl) ?_
        refine r_get hx hb hts hown hK hw (v_bk (by decide) (vin q4)) rfl (E_bk (by decide) (vin q4)) inX0 rfl 0 (by decide) k_74 rfl rfl dX5_value_33 ?_
        refine lv_iload_n hx hb dX5_value_36 rfl (lv_at hl 3 rfl) ?_
        obtain ⟨q6, h⟩ := t_gd h
        refine r_iald hx hb hK hw (v_va (by decide) (vin q4)) rfl (E_va (by decide) (vin q4)) q6 dX5_value_37 ?_
        refine lv_goto (tgt := 43) hx hb dX5_value_38 (by decide) ?_
        have e1 := Option.some.inj h
        exact e_i hx hb hr hlk hw hS e1 rfl dX5_value_43
    · replace h := t_pos h q3
      refine lv_iconst (v := -1) hx hb dX5_value_12 (by decide) ?_
      have e1 := Option.some.inj h
      exact e_i hx hb hr hlk hw hS e1 rfl dX5_value_13
  exact main _ _ hw hS ls hl

theorem cf_X5_question : cfV RX5 yX5_question cX5_question 4 (some .int) 2 := ⟨⟨k_519, k_520, k_1, k_521⟩, by decide +kernel⟩
def f_X5_question (M : MM) (p0 : Int32) (p1 : Int32) : Option (Int32) :=
  b1 (f_X4_hasQuestion (M 0) p0) fun r2 => (if r2 = (nI 0) then some (-1 : Int32) else gd p0 6 ((if p1 = (nI 0) then some (M 0 (19 + p0.toNatClampNeg) 0) else (if p1 = (nI 1) then some (M 0 (19 + p0.toNatClampNeg) 1) else (if p1 = (nI 2) then some (M 0 (19 + p0.toNatClampNeg) 2) else (if p1 = (nI 3) then some (M 0 (19 + p0.toNatClampNeg) 3) else (if p1 = (nI 4) then (if (M 0 (19 + p0.toNatClampNeg) 4) = (nI 0) then some (nI 0) else some (nI 1)) else (if p1 = (nI 5) then b1 (f_X4_answer (M 0) p0.toNatClampNeg (nI 0)) fun r30 => some r30 else (if p1 = (nI 6) then b1 (f_X4_answer (M 0) p0.toNatClampNeg (nI 1)) fun r28 => some r28 else (if p1 = (nI 7) then b1 (f_X4_answer (M 0) p0.toNatClampNeg (nI 2)) fun r26 => some r26 else (if p1 = (nI 8) then (if (M 0 (19 + p0.toNatClampNeg) 4) = (nI 0) then some (-5 : Int32) else some (M 0 (19 + p0.toNatClampNeg) 5)) else (if p1 = (nI 9) then (if (M 0 (19 + p0.toNatClampNeg) 4) = (nI 0) then some (-5 : Int32) else some (M 0 (19 + p0.toNatClampNeg) 6)) else (if p1 = (nI 10) then (if (M 0 (19 + p0.toNatClampNeg) 4) = (nI 0) then some (-5 : Int32) else some (M 0 (19 + p0.toNatClampNeg) 7)) else (if p1 = (nI 11) then b1 (f_X4_rows (M 0) (M 0 (19 + p0.toNatClampNeg) 1)) fun r21 => some r21 else (if p1 = (nI 12) then b1 (f_X4_readRows (M 0) (M 0 (19 + p0.toNatClampNeg) 1)) fun r19 => some r19 else (some (-2 : Int32)))))))))))))))))
set_option maxHeartbeats 4000000 in
set_option maxRecDepth 100000 in
theorem c_X5_question {l : Launch} {D : va_G} {cy : Nat → ClassId} {ad : Nat → Nat → Nat} (hcv : CV ad) {M : MM} {p0 p1 : Int32} {r : Int32} (h : f_X5_question M p0 p1 = some r) : Met l yX5_question (.code yX5_question cX5_question 4 (some .int) :: TB) ({ frames := 3, cells := 0, slots := 0, locals := 76 } : Room) (PW D cy ad M [.ref (ad 8 0), .int p0, .int p1]) (QI D cy ad r M) 0 0 (AD ad) := by
  refine m_in (by decide +kernel) (Nat.le_of_ble_eq_true rfl) ?_
  intro p e s md args below meth c hC hw hS ls hl
  obtain ⟨hx, hb, hr, hml, hown, hts, hK, hlk⟩ := hC
  have hl : lv_has ls 4 [(0, .ref (ad 8 0)), (1, .int p0), (2, .int p1)] := hl
  unfold f_X5_question at h
  have main : JL p l e ({ frames := 3, cells := 0, slots := 0, locals := 76 } : Room) s md args below meth c D cy ad (MQ below (QI D cy ad r M) args s 0 0 (AD ad)) (M) 4 [(0, .ref (ad 8 0)), (1, .int p0), (2, .int p1)] 0 [] := by
    intro H locs hw hS ls hl
    refine lv_aload_n hx hb dX5_question_0 rfl (lv_at hl 0 rfl) ?_
    refine r_get hx hb hts hown hK hw (v_mn (by decide)) rfl E_mn inX5 rfl 1 (by decide) k_207 rfl rfl dX5_question_1 ?_
    refine lv_iload_n hx hb dX5_question_4 rfl (lv_at hl 1 rfl) ?_
    obtain ⟨r2, y1, h⟩ := t_b1 h
    refine c_vi hx hb hml hown hts hK hw hS (fun _ h => h) (As := [.int p0]) (rest := []) (c_X4_hasQuestion hcv (g := 0) (hg := (by decide)) (M0 := M) (m := M 0) (hm := rfl) y1) cf_X4_hasQuestion k_404 rfl rfl ⟨Nat.le_of_ble_eq_true rfl, Nat.le_of_ble_eq_true rfl⟩ (r_recv hK hw (v_st (by decide) (by decide)) (E_st (by decide)) rfl) rfl hl.1 rfl (Nat.le_of_ble_eq_true rfl) ⟨Nat.le_refl _, Nat.le_refl _⟩ dX5_question_5 (fun H locs hw hS => ?_)
    refine lv_if_ne (tgt := 13) hx hb dX5_question_8 (by decide) (fun q3 => ?_) (fun q3 => ?_)
    · replace h := t_neg h q3
      refine lv_aload_n hx hb dX5_question_13 rfl (lv_at hl 0 rfl) ?_
      refine r_get hx hb hts hown hK hw (v_mn (by decide)) rfl E_mn inX5 rfl 1 (by decide) k_207 rfl rfl dX5_question_14 ?_
      refine r_get hx hb hts hown hK hw (v_st (by decide) (by decide)) rfl (E_st (by decide)) inX4 rfl 1 (by decide) k_164 rfl rfl dX5_question_17 ?_
      refine lv_iload_n hx hb dX5_question_20 rfl (lv_at hl 1 rfl) ?_
      obtain ⟨q4, h⟩ := t_gd h
      refine r_aald hx hb hK hw (v_st (by decide) (by decide)) (t0 := 3) rfl (E_qa (by decide)) (v := .ref (ad 0 (19 + p0.toNatClampNeg))) rfl q4 dX5_question_21 ?_
      refine lv_astore_n (lv' := [(3, .ref (ad 0 (19 + p0.toNatClampNeg))), (0, .ref (ad 8 0)), (1, .int p0), (2, .int p1)]) hx hb dX5_question_22 rfl hl (by decide) rfl (fun ls hl => ?_)
      refine lv_iload_n hx hb dX5_question_23 rfl (lv_at hl 3 rfl) ?_
      by_cases q5 : p1 = (nI 0)
      · replace h := t_pos h q5
        refine lv_tableIn (off := 68) (tgt := 92) hx hb dX5_question_24 (by rw [q5]; decide) (by rw [q5]; decide) (by rw [q5]; rfl) (by decide) ?_
        refine lv_aload_n hx hb dX5_question_92 rfl (lv_at hl 0 rfl) ?_
        refine r_get hx hb hts hown hK hw (v_qu (by decide) (vin q4)) rfl (E_qu (by decide)) inX3 rfl 0 (by decide) k_123 rfl rfl dX5_question_93 ?_
        have e1 := Option.some.inj h
        exact e_i hx hb hr hlk hw hS e1 rfl dX5_question_96
      · replace h := t_neg h q5
        by_cases q6 : p1 = (nI 1)
        · replace h := t_pos h q6
          refine lv_tableIn (off := 73) (tgt := 97) hx hb dX5_question_24 (by rw [q6]; decide) (by rw [q6]; decide) (by rw [q6]; rfl) (by decide) ?_
          refine lv_aload_n hx hb dX5_question_97 rfl (lv_at hl 0 rfl) ?_
          refine r_get hx hb hts hown hK hw (v_qu (by decide) (vin q4)) rfl (E_qu (by decide)) inX3 rfl 1 (by decide) k_126 rfl rfl dX5_question_98 ?_
          have e1 := Option.some.inj h
          exact e_i hx hb hr hlk hw hS e1 rfl dX5_question_101
        · replace h := t_neg h q6
          by_cases q7 : p1 = (nI 2)
          · replace h := t_pos h q7
            refine lv_tableIn (off := 78) (tgt := 102) hx hb dX5_question_24 (by rw [q7]; decide) (by rw [q7]; decide) (by rw [q7]; rfl) (by decide) ?_
            refine lv_aload_n hx hb dX5_question_102 rfl (lv_at hl 0 rfl) ?_
            refine r_get hx hb hts hown hK hw (v_qu (by decide) (vin q4)) rfl (E_qu (by decide)) inX3 rfl 2 (by decide) k_129 rfl rfl dX5_question_103 ?_
            have e1 := Option.some.inj h
            exact e_i hx hb hr hlk hw hS e1 rfl dX5_question_106
          · replace h := t_neg h q7
            by_cases q8 : p1 = (nI 3)
            · replace h := t_pos h q8
              refine lv_tableIn (off := 83) (tgt := 107) hx hb dX5_question_24 (by rw [q8]; decide) (by rw [q8]; decide) (by rw [q8]; rfl) (by decide) ?_
              refine lv_aload_n hx hb dX5_question_107 rfl (lv_at hl 0 rfl) ?_
              refine r_get hx hb hts hown hK hw (v_qu (by decide) (vin q4)) rfl (E_qu (by decide)) inX3 rfl 3 (by decide) k_132 rfl rfl dX5_question_108 ?_
              have e1 := Option.some.inj h
              exact e_i hx hb hr hlk hw hS e1 rfl dX5_question_111
            · replace h := t_neg h q8
              by_cases q9 : p1 = (nI 4)
              · replace h := t_pos h q9
                refine lv_tableIn (off := 88) (tgt := 112) hx hb dX5_question_24 (by rw [q9]; decide) (by rw [q9]; decide) (by rw [q9]; rfl) (by decide) ?_
                refine lv_aload_n hx hb dX5_question_112 rfl (lv_at hl 0 rfl) ?_
                refine r_get hx hb hts hown hK hw (v_qu (by decide) (vin q4)) rfl (E_qu (by decide)) inX3 rfl 4 (by decide) k_135 rfl rfl dX5_question_113 ?_
                refine lv_if_eq (tgt := 123) hx hb dX5_question_116 (by decide) (fun q31 => ?_) (fun q31 => ?_)
                · replace h := t_pos h q31
                  refine lv_iconst (v := nI 0) hx hb dX5_question_123 (by decide) ?_
                  have e1 := Option.some.inj h
                  exact e_i hx hb hr hlk hw hS e1 rfl dX5_question_124
                · replace h := t_neg h q31
                  refine lv_iconst (v := nI 1) hx hb dX5_question_119 (by decide) ?_
                  refine lv_goto (tgt := 124) hx hb dX5_question_120 (by decide) ?_
                  have e1 := Option.some.inj h
                  exact e_i hx hb hr hlk hw hS e1 rfl dX5_question_124
              · replace h := t_neg h q9
                by_cases q10 : p1 = (nI 5)
                · replace h := t_pos h q10
                  refine lv_tableIn (off := 101) (tgt := 125) hx hb dX5_question_24 (by rw [q10]; decide) (by rw [q10]; decide) (by rw [q10]; rfl) (by decide) ?_
                  refine lv_aload_n hx hb dX5_question_125 rfl (lv_at hl 1 rfl) ?_
                  refine r_get hx hb hts hown hK hw (v_mn (by decide)) rfl E_mn inX5 rfl 1 (by decide) k_207 rfl rfl dX5_question_126 ?_
                  refine lv_aload_n hx hb dX5_question_129 rfl (lv_at hl 0 rfl) ?_
                  refine lv_iconst (v := nI 0) hx hb dX5_question_130 (by decide) ?_
                  obtain ⟨r30, y29, h⟩ := t_b1 h
                  refine c_vi hx hb hml hown hts hK hw hS (fun _ h => h) (As := [.ref (ad 0 (19 + p0.toNatClampNeg)), .int (nI 0)]) (rest := []) (c_X4_answer hcv (g := 0) (hg := (by decide)) (i := p0.toNatClampNeg) (hi := (vin q4)) (M0 := M) (m := M 0) (hm := rfl) y29) cf_X4_answer k_413 rfl rfl ⟨Nat.le_of_ble_eq_true rfl, Nat.le_of_ble_eq_true rfl⟩ (r_recv hK hw (v_st (by decide) (by decide)) (E_st (by decide)) rfl) rfl hl.1 rfl (Nat.le_of_ble_eq_true rfl) ⟨Nat.le_refl _, Nat.le_refl _⟩ dX5_question_131 (fun H locs hw hS => ?_)
                  have e1 := Option.some.inj h
                  exact e_i hx hb hr hlk hw hS e1 rfl dX5_question_134
                · replace h := t_neg h q10
                  by_cases q11 : p1 = (nI 6)
                  · replace h := t_pos h q11
                    refine lv_tableIn (off := 111) (tgt := 135) hx hb dX5_question_24 (by rw [q11]; decide) (by rw [q11]; decide) (by rw [q11]; rfl) (by decide) ?_
                    refine lv_aload_n hx hb dX5_question_135 rfl (lv_at hl 1 rfl) ?_
                    refine r_get hx hb hts hown hK hw (v_mn (by decide)) rfl E_mn inX5 rfl 1 (by decide) k_207 rfl rfl dX5_question_136 ?_
                    refine lv_aload_n hx hb dX5_question_139 rfl (lv_at hl 0 rfl) ?_
                    refine lv_iconst (v := nI 1) hx hb dX5_question_140 (by decide) ?_
                    obtain ⟨r28, y27, h⟩ := t_b1 h
                    refine c_vi hx hb hml hown hts hK hw hS (fun _ h => h) (As := [.ref (ad 0 (19 + p0.toNatClampNeg)), .int (nI 1)]) (rest := []) (c_X4_answer hcv (g := 0) (hg := (by decide)) (i := p0.toNatClampNeg) (hi := (vin q4)) (M0 := M) (m := M 0) (hm := rfl) y27) cf_X4_answer k_413 rfl rfl ⟨Nat.le_of_ble_eq_true rfl, Nat.le_of_ble_eq_true rfl⟩ (r_recv hK hw (v_st (by decide) (by decide)) (E_st (by decide)) rfl) rfl hl.1 rfl (Nat.le_of_ble_eq_true rfl) ⟨Nat.le_refl _, Nat.le_refl _⟩ dX5_question_141 (fun H locs hw hS => ?_)
                    have e1 := Option.some.inj h
                    exact e_i hx hb hr hlk hw hS e1 rfl dX5_question_144
                  · replace h := t_neg h q11
                    by_cases q12 : p1 = (nI 7)
                    · replace h := t_pos h q12
                      refine lv_tableIn (off := 121) (tgt := 145) hx hb dX5_question_24 (by rw [q12]; decide) (by rw [q12]; decide) (by rw [q12]; rfl) (by decide) ?_
                      refine lv_aload_n hx hb dX5_question_145 rfl (lv_at hl 1 rfl) ?_
                      refine r_get hx hb hts hown hK hw (v_mn (by decide)) rfl E_mn inX5 rfl 1 (by decide) k_207 rfl rfl dX5_question_146 ?_
                      refine lv_aload_n hx hb dX5_question_149 rfl (lv_at hl 0 rfl) ?_
                      refine lv_iconst (v := nI 2) hx hb dX5_question_150 (by decide) ?_
                      obtain ⟨r26, y25, h⟩ := t_b1 h
                      refine c_vi hx hb hml hown hts hK hw hS (fun _ h => h) (As := [.ref (ad 0 (19 + p0.toNatClampNeg)), .int (nI 2)]) (rest := []) (c_X4_answer hcv (g := 0) (hg := (by decide)) (i := p0.toNatClampNeg) (hi := (vin q4)) (M0 := M) (m := M 0) (hm := rfl) y25) cf_X4_answer k_413 rfl rfl ⟨Nat.le_of_ble_eq_true rfl, Nat.le_of_ble_eq_true rfl⟩ (r_recv hK hw (v_st (by decide) (by decide)) (E_st (by decide)) rfl) rfl hl.1 rfl (Nat.le_of_ble_eq_true rfl) ⟨Nat.le_refl _, Nat.le_refl _⟩ dX5_question_151 (fun H locs hw hS => ?_)
                      have e1 := Option.some.inj h
                      exact e_i hx hb hr hlk hw hS e1 rfl dX5_question_154
                    · replace h := t_neg h q12
                      by_cases q13 : p1 = (nI 8)
                      · replace h := t_pos h q13
                        refine lv_tableIn (off := 131) (tgt := 155) hx hb dX5_question_24 (by rw [q13]; decide) (by rw [q13]; decide) (by rw [q13]; rfl) (by decide) ?_
                        refine lv_aload_n hx hb dX5_question_155 rfl (lv_at hl 0 rfl) ?_
                        refine r_get hx hb hts hown hK hw (v_qu (by decide) (vin q4)) rfl (E_qu (by decide)) inX3 rfl 4 (by decide) k_135 rfl rfl dX5_question_156 ?_
                        refine lv_if_eq (tgt := 169) hx hb dX5_question_159 (by decide) (fun q24 => ?_) (fun q24 => ?_)
                        · replace h := t_pos h q24
                          refine lv_bipush (v := -5) hx hb dX5_question_169 (by decide) ?_
                          have e1 := Option.some.inj h
                          exact e_i hx hb hr hlk hw hS e1 rfl dX5_question_171
                        · replace h := t_neg h q24
                          refine lv_aload_n hx hb dX5_question_162 rfl (lv_at hl 0 rfl) ?_
                          refine r_get hx hb hts hown hK hw (v_qu (by decide) (vin q4)) rfl (E_qu (by decide)) inX3 rfl 5 (by decide) k_138 rfl rfl dX5_question_163 ?_
                          refine lv_goto (tgt := 171) hx hb dX5_question_166 (by decide) ?_
                          have e1 := Option.some.inj h
                          exact e_i hx hb hr hlk hw hS e1 rfl dX5_question_171
                      · replace h := t_neg h q13
                        by_cases q14 : p1 = (nI 9)
                        · replace h := t_pos h q14
                          refine lv_tableIn (off := 148) (tgt := 172) hx hb dX5_question_24 (by rw [q14]; decide) (by rw [q14]; decide) (by rw [q14]; rfl) (by decide) ?_
                          refine lv_aload_n hx hb dX5_question_172 rfl (lv_at hl 0 rfl) ?_
                          refine r_get hx hb hts hown hK hw (v_qu (by decide) (vin q4)) rfl (E_qu (by decide)) inX3 rfl 4 (by decide) k_135 rfl rfl dX5_question_173 ?_
                          refine lv_if_eq (tgt := 186) hx hb dX5_question_176 (by decide) (fun q23 => ?_) (fun q23 => ?_)
                          · replace h := t_pos h q23
                            refine lv_bipush (v := -5) hx hb dX5_question_186 (by decide) ?_
                            have e1 := Option.some.inj h
                            exact e_i hx hb hr hlk hw hS e1 rfl dX5_question_188
                          · replace h := t_neg h q23
                            refine lv_aload_n hx hb dX5_question_179 rfl (lv_at hl 0 rfl) ?_
                            refine r_get hx hb hts hown hK hw (v_qu (by decide) (vin q4)) rfl (E_qu (by decide)) inX3 rfl 6 (by decide) k_141 rfl rfl dX5_question_180 ?_
                            refine lv_goto (tgt := 188) hx hb dX5_question_183 (by decide) ?_
                            have e1 := Option.some.inj h
                            exact e_i hx hb hr hlk hw hS e1 rfl dX5_question_188
                        · replace h := t_neg h q14
                          by_cases q15 : p1 = (nI 10)
                          · replace h := t_pos h q15
                            refine lv_tableIn (off := 165) (tgt := 189) hx hb dX5_question_24 (by rw [q15]; decide) (by rw [q15]; decide) (by rw [q15]; rfl) (by decide) ?_
                            refine lv_aload_n hx hb dX5_question_189 rfl (lv_at hl 0 rfl) ?_
                            refine r_get hx hb hts hown hK hw (v_qu (by decide) (vin q4)) rfl (E_qu (by decide)) inX3 rfl 4 (by decide) k_135 rfl rfl dX5_question_190 ?_
                            refine lv_if_eq (tgt := 203) hx hb dX5_question_193 (by decide) (fun q22 => ?_) (fun q22 => ?_)
                            · replace h := t_pos h q22
                              refine lv_bipush (v := -5) hx hb dX5_question_203 (by decide) ?_
                              have e1 := Option.some.inj h
                              exact e_i hx hb hr hlk hw hS e1 rfl dX5_question_205
                            · replace h := t_neg h q22
                              refine lv_aload_n hx hb dX5_question_196 rfl (lv_at hl 0 rfl) ?_
                              refine r_get hx hb hts hown hK hw (v_qu (by decide) (vin q4)) rfl (E_qu (by decide)) inX3 rfl 7 (by decide) k_143 rfl rfl dX5_question_197 ?_
                              refine lv_goto (tgt := 205) hx hb dX5_question_200 (by decide) ?_
                              have e1 := Option.some.inj h
                              exact e_i hx hb hr hlk hw hS e1 rfl dX5_question_205
                          · replace h := t_neg h q15
                            by_cases q16 : p1 = (nI 11)
                            · replace h := t_pos h q16
                              refine lv_tableIn (off := 182) (tgt := 206) hx hb dX5_question_24 (by rw [q16]; decide) (by rw [q16]; decide) (by rw [q16]; rfl) (by decide) ?_
                              refine lv_aload_n hx hb dX5_question_206 rfl (lv_at hl 1 rfl) ?_
                              refine r_get hx hb hts hown hK hw (v_mn (by decide)) rfl E_mn inX5 rfl 1 (by decide) k_207 rfl rfl dX5_question_207 ?_
                              refine lv_aload_n hx hb dX5_question_210 rfl (lv_at hl 0 rfl) ?_
                              refine r_get hx hb hts hown hK hw (v_qu (by decide) (vin q4)) rfl (E_qu (by decide)) inX3 rfl 1 (by decide) k_126 rfl rfl dX5_question_211 ?_
                              obtain ⟨r21, y20, h⟩ := t_b1 h
                              refine c_vi hx hb hml hown hts hK hw hS (fun _ h => h) (As := [.int (M 0 (19 + p0.toNatClampNeg) 1)]) (rest := []) (c_X4_rows hcv (g := 0) (hg := (by decide)) (M0 := M) (m := M 0) (hm := rfl) y20) cf_X4_rows k_412 rfl rfl ⟨Nat.le_of_ble_eq_true rfl, Nat.le_of_ble_eq_true rfl⟩ (r_recv hK hw (v_st (by decide) (by decide)) (E_st (by decide)) rfl) rfl hl.1 rfl (Nat.le_of_ble_eq_true rfl) ⟨Nat.le_refl _, Nat.le_refl _⟩ dX5_question_214 (fun H locs hw hS => ?_)
                              have e1 := Option.some.inj h
                              exact e_i hx hb hr hlk hw hS e1 rfl dX5_question_217
                            · replace h := t_neg h q16
                              by_cases q17 : p1 = (nI 12)
                              · replace h := t_pos h q17
                                refine lv_tableIn (off := 194) (tgt := 218) hx hb dX5_question_24 (by rw [q17]; decide) (by rw [q17]; decide) (by rw [q17]; rfl) (by decide) ?_
                                refine lv_aload_n hx hb dX5_question_218 rfl (lv_at hl 1 rfl) ?_
                                refine r_get hx hb hts hown hK hw (v_mn (by decide)) rfl E_mn inX5 rfl 1 (by decide) k_207 rfl rfl dX5_question_219 ?_
                                refine lv_aload_n hx hb dX5_question_222 rfl (lv_at hl 0 rfl) ?_
                                refine r_get hx hb hts hown hK hw (v_qu (by decide) (vin q4)) rfl (E_qu (by decide)) inX3 rfl 1 (by decide) k_126 rfl rfl dX5_question_223 ?_
                                obtain ⟨r19, y18, h⟩ := t_b1 h
                                refine c_vi hx hb hml hown hts hK hw hS (fun _ h => h) (As := [.int (M 0 (19 + p0.toNatClampNeg) 1)]) (rest := []) (c_X4_readRows hcv (g := 0) (hg := (by decide)) (M0 := M) (m := M 0) (hm := rfl) y18) cf_X4_readRows k_381 rfl rfl ⟨Nat.le_of_ble_eq_true rfl, Nat.le_of_ble_eq_true rfl⟩ (r_recv hK hw (v_st (by decide) (by decide)) (E_st (by decide)) rfl) rfl hl.1 rfl (Nat.le_of_ble_eq_true rfl) ⟨Nat.le_refl _, Nat.le_refl _⟩ dX5_question_226 (fun H locs hw hS => ?_)
                                have e1 := Option.some.inj h
                                exact e_i hx hb hr hlk hw hS e1 rfl dX5_question_229
                              · replace h := t_neg h q17
                                refine lv_tableOut (tgt := 230) hx hb dX5_question_24 (tab_out (lo := 0) (n := 13) (by decide) (lt_s (lt_s (lt_s (lt_s (lt_s (lt_s (lt_s (lt_s (lt_s (lt_s (lt_s (lt_s (lt_s lt_0 q5) q6) q7) q8) q9) q10) q11) q12) q13) q14) q15) q16) q17)) (by decide) ?_
                                refine lv_bipush (v := -2) hx hb dX5_question_230 (by decide) ?_
                                have e1 := Option.some.inj h
                                exact e_i hx hb hr hlk hw hS e1 rfl dX5_question_232
    · replace h := t_pos h q3
      refine lv_iconst (v := -1) hx hb dX5_question_11 (by decide) ?_
      have e1 := Option.some.inj h
      exact e_i hx hb hr hlk hw hS e1 rfl dX5_question_12
  exact main _ _ hw hS ls hl

theorem cf_X5_next : cfV RX5 yX5_next cX5_next 3 (some .int) 1 := ⟨⟨k_523, k_524, k_1, k_525⟩, by decide +kernel⟩
def f_X5_next (M : MM) (p0 : Int32) : Option (Int32) :=
  b1 (f_X5_isFromTo p0 (nI 0) (nI 1)) fun r2 => (if r2 = (nI 0) then some (-2 : Int32) else b1 (f_X4_nextBlock (M 0)) fun r5 => b1 (f_X4_hasBlock (M 0) r5) fun r7 => (if r7 = (nI 0) then some (-5 : Int32) else (if p0 = (nI 0) then some r5 else gd r5 8 (some (M 0 (3 + r5.toNatClampNeg) 5)))))
set_option maxHeartbeats 4000000 in
set_option maxRecDepth 100000 in
theorem c_X5_next {l : Launch} {D : va_G} {cy : Nat → ClassId} {ad : Nat → Nat → Nat} (hcv : CV ad) {M : MM} {p0 : Int32} {r : Int32} (h : f_X5_next M p0 = some r) : Met l yX5_next (.code yX5_next cX5_next 3 (some .int) :: TB) ({ frames := 4, cells := 0, slots := 0, locals := 90 } : Room) (PW D cy ad M [.ref (ad 8 0), .int p0]) (QI D cy ad r M) 0 0 (AD ad) := by
  refine m_in (by decide +kernel) (Nat.le_of_ble_eq_true rfl) ?_
  intro p e s md args below meth c hC hw hS ls hl
  obtain ⟨hx, hb, hr, hml, hown, hts, hK, hlk⟩ := hC
  have hl : lv_has ls 3 [(0, .ref (ad 8 0)), (1, .int p0)] := hl
  unfold f_X5_next at h
  have main : JL p l e ({ frames := 4, cells := 0, slots := 0, locals := 90 } : Room) s md args below meth c D cy ad (MQ below (QI D cy ad r M) args s 0 0 (AD ad)) (M) 3 [(0, .ref (ad 8 0)), (1, .int p0)] 0 [] := by
    intro H locs hw hS ls hl
    refine lv_iload_n hx hb dX5_next_0 rfl (lv_at hl 1 rfl) ?_
    refine lv_iconst (v := nI 0) hx hb dX5_next_1 (by decide) ?_
    refine lv_iconst (v := nI 1) hx hb dX5_next_2 (by decide) ?_
    obtain ⟨r2, y1, h⟩ := t_b1 h
    refine c_si hx hb hml hown hts hK hw hS (fun _ h => h) (As := [.int p0, .int (nI 0), .int (nI 1)]) (rest := []) (c_X5_isFromTo hcv (M0 := M) y1) cf_X5_isFromTo k_394 rfl rfl ⟨Nat.le_of_ble_eq_true rfl, Nat.le_of_ble_eq_true rfl⟩ rfl hl.1 rfl (Nat.le_of_ble_eq_true rfl) ⟨Nat.le_refl _, Nat.le_refl _⟩ dX5_next_3 (fun H locs hw hS => ?_)
    refine lv_if_ne (tgt := 12) hx hb dX5_next_6 (by decide) (fun q3 => ?_) (fun q3 => ?_)
    · replace h := t_neg h q3
      refine lv_aload_n hx hb dX5_next_12 rfl (lv_at hl 0 rfl) ?_
      refine r_get hx hb hts hown hK hw (v_mn (by decide)) rfl E_mn inX5 rfl 1 (by decide) k_207 rfl rfl dX5_next_13 ?_
      obtain ⟨r5, y4, h⟩ := t_b1 h
      refine c_vi hx hb hml hown hts hK hw hS (fun _ h => h) (As := []) (rest := []) (c_X4_nextBlock hcv (g := 0) (hg := (by decide)) (M0 := M) (m := M 0) (hm := rfl) y4) cf_X4_nextBlock k_432 rfl rfl ⟨Nat.le_of_ble_eq_true rfl, Nat.le_of_ble_eq_true rfl⟩ (r_recv hK hw (v_st (by decide) (by decide)) (E_st (by decide)) rfl) rfl hl.1 rfl (Nat.le_of_ble_eq_true rfl) ⟨Nat.le_refl _, Nat.le_refl _⟩ dX5_next_16 (fun H locs hw hS => ?_)
      refine lv_istore_n (lv' := [(2, .int r5), (0, .ref (ad 8 0)), (1, .int p0)]) hx hb dX5_next_19 rfl hl (by decide) rfl (fun ls hl => ?_)
      refine lv_aload_n hx hb dX5_next_20 rfl (lv_at hl 1 rfl) ?_
      refine r_get hx hb hts hown hK hw (v_mn (by decide)) rfl E_mn inX5 rfl 1 (by decide) k_207 rfl rfl dX5_next_21 ?_
      refine lv_iload_n hx hb dX5_next_24 rfl (lv_at hl 0 rfl) ?_
      obtain ⟨r7, y6, h⟩ := t_b1 h
      refine c_vi hx hb hml hown hts hK hw hS (fun _ h => h) (As := [.int r5]) (rest := []) (c_X4_hasBlock hcv (g := 0) (hg := (by decide)) (M0 := M) (m := M 0) (hm := rfl) y6) cf_X4_hasBlock k_338 rfl rfl ⟨Nat.le_of_ble_eq_true rfl, Nat.le_of_ble_eq_true rfl⟩ (r_recv hK hw (v_st (by decide) (by decide)) (E_st (by decide)) rfl) rfl hl.1 rfl (Nat.le_of_ble_eq_true rfl) ⟨Nat.le_refl _, Nat.le_refl _⟩ dX5_next_25 (fun H locs hw hS => ?_)
      refine lv_if_ne (tgt := 34) hx hb dX5_next_28 (by decide) (fun q8 => ?_) (fun q8 => ?_)
      · replace h := t_neg h q8
        refine lv_iload_n hx hb dX5_next_34 rfl (lv_at hl 2 rfl) ?_
        refine lv_if_ne (tgt := 42) hx hb dX5_next_35 (by decide) (fun q9 => ?_) (fun q9 => ?_)
        · replace h := t_neg h q9
          refine lv_aload_n hx hb dX5_next_42 rfl (lv_at hl 1 rfl) ?_
          refine r_get hx hb hts hown hK hw (v_mn (by decide)) rfl E_mn inX5 rfl 1 (by decide) k_207 rfl rfl dX5_next_43 ?_
          refine r_get hx hb hts hown hK hw (v_st (by decide) (by decide)) rfl (E_st (by decide)) inX4 rfl 0 (by decide) k_162 rfl rfl dX5_next_46 ?_
          refine lv_iload_n hx hb dX5_next_49 rfl (lv_at hl 0 rfl) ?_
          obtain ⟨q10, h⟩ := t_gd h
          refine r_aald hx hb hK hw (v_st (by decide) (by decide)) (t0 := 2) rfl (E_ba (by decide)) (v := .ref (ad 0 (3 + r5.toNatClampNeg))) rfl q10 dX5_next_50 ?_
          refine r_get hx hb hts hown hK hw (v_bk (by decide) (vin q10)) rfl (E_bk (by decide) (vin q10)) inX0 rfl 5 (by decide) k_90 rfl rfl dX5_next_51 ?_
          have e1 := Option.some.inj h
          exact e_i hx hb hr hlk hw hS e1 rfl dX5_next_54
        · replace h := t_pos h q9
          refine lv_iload_n hx hb dX5_next_38 rfl (lv_at hl 0 rfl) ?_
          refine lv_goto (tgt := 54) hx hb dX5_next_39 (by decide) ?_
          have e1 := Option.some.inj h
          exact e_i hx hb hr hlk hw hS e1 rfl dX5_next_54
      · replace h := t_pos h q8
        refine lv_bipush (v := -5) hx hb dX5_next_31 (by decide) ?_
        have e1 := Option.some.inj h
        exact e_i hx hb hr hlk hw hS e1 rfl dX5_next_33
    · replace h := t_pos h q3
      refine lv_bipush (v := -2) hx hb dX5_next_9 (by decide) ?_
      have e1 := Option.some.inj h
      exact e_i hx hb hr hlk hw hS e1 rfl dX5_next_11
  exact main _ _ hw hS ls hl

theorem cf_X5_stopsIn : cfV RX5 yX5_stopsIn cX5_stopsIn 4 (some .int) 1 := ⟨⟨k_527, k_528, k_1, k_529⟩, by decide +kernel⟩
def f_X5_stopsIn_L54 (p0 : Int32) : Nat → MM → Nat → Int32 → Option (Int32 × MM)
  | 0, _, _, _ => none
  | n + 1, M, i2, x3 => (if (nI 128) < x3 then some ((-5 : Int32), M) else bd (f_X4_readByPlan (M 1)) fun r3 m4 => lt1 (gs M 1 m4) fun M5 => (if r3 = (nI 0) then some ((-5 : Int32), M5) else (if (M5 1 (19 + i2) 4) = (nI 0) then f_X5_stopsIn_L54 p0 n M5 i2 (x3 + (nI 1)) else some (x3, M5))))
def f_X5_stopsIn (M : MM) (p0 : Int32) : Option (Int32 × MM) :=
  b1 (f_X4_hasQuestion (M 0) p0) fun r2 => (if r2 = (nI 0) then some ((-1 : Int32), M) else gd p0 6 ((if (M 0 (19 + p0.toNatClampNeg) 4) = (nI 0) then bd (f_X4_copyFrom (M 1) (M 0)) fun r7 m8 => lt1 (gs M 1 m8) fun M9 => gd p0 6 (f_X5_stopsIn_L54 p0 FU M9 p0.toNatClampNeg (nI 1)) else some ((-4 : Int32), M))))
set_option maxHeartbeats 4000000 in
set_option maxRecDepth 100000 in
theorem c_X5_stopsIn {l : Launch} {D : va_G} {cy : Nat → ClassId} {ad : Nat → Nat → Nat} (hcv : CV ad) {M : MM} {p0 : Int32} {r : Int32} {x : MM} (h : f_X5_stopsIn M p0 = some (r, x)) : Met l yX5_stopsIn (.code yX5_stopsIn cX5_stopsIn 4 (some .int) :: TB) ({ frames := 5, cells := 0, slots := 0, locals := 119 } : Room) (PW D cy ad M [.ref (ad 8 0), .int p0]) (QI D cy ad r x) 0 0 (AD ad) := by
  refine m_in (by decide +kernel) (Nat.le_of_ble_eq_true rfl) ?_
  intro p e s md args below meth c hC hw hS ls hl
  obtain ⟨hx, hb, hr, hml, hown, hts, hK, hlk⟩ := hC
  have hl : lv_has ls 4 [(0, .ref (ad 8 0)), (1, .int p0)] := hl
  have L54 : ∀ (n : Nat), ∀ (M : MM) (i2 : Nat) (hi2 : i2 < 6) (x3 : Int32), f_X5_stopsIn_L54 p0 n M i2 x3 = some (r, x) → JL p l e ({ frames := 5, cells := 0, slots := 0, locals := 119 } : Room) s md args below meth c D cy ad (MQ below (QI D cy ad r x) args s 0 0 (AD ad)) (M) 4 [(0, .ref (ad 8 0)), (2, .ref (ad 1 (19 + i2))), (3, .int x3)] 54 [] := by
    intro n
    induction n with
    | zero =>
      intro M i2 hi2 x3 h
      cases h
    | succ n ih =>
      intro M i2 hi2 x3 h H locs hw hS ls hl
      rw [f_X5_stopsIn_L54.eq_2] at h
      refine lv_iload_n hx hb dX5_stopsIn_54 rfl (lv_at hl 2 rfl) ?_
      refine lv_sipush (v := nI 128) hx hb dX5_stopsIn_55 (by decide) ?_
      refine lv_icmp_gt (tgt := 86) hx hb dX5_stopsIn_58 (by decide) (fun q1 => ?_) (fun q1 => ?_)
      · replace h := t_pos h q1
        refine lv_bipush (v := -5) hx hb dX5_stopsIn_86 (by decide) ?_
        have e1 := (t_ret h).1
        have e2 := (t_ret h).2
        exact e_i hx hb hr hlk hw hS e1 e2 dX5_stopsIn_88
      · replace h := t_neg h q1
        refine lv_aload_n hx hb dX5_stopsIn_61 rfl (lv_at hl 0 rfl) ?_
        refine r_get hx hb hts hown hK hw (v_mn (by decide)) rfl E_mn inX5 rfl 2 (by decide) k_208 rfl rfl dX5_stopsIn_62 ?_
        obtain ⟨r3, m4, y2, h⟩ := t_bd h
        obtain ⟨M5, e6, h⟩ := t_lt h
        refine c_vi hx hb hml hown hts hK hw hS (fun _ h => h) (As := []) (rest := []) (c_X4_readByPlan hcv (g := 1) (hg := (by decide)) (M0 := M) (m := M 1) (hm := rfl) y2) cf_X4_readByPlan k_453 rfl rfl ⟨Nat.le_of_ble_eq_true rfl, Nat.le_of_ble_eq_true rfl⟩ (r_recv hK hw (v_st (by decide) (by decide)) (E_st (by decide)) rfl) rfl hl.1 rfl (Nat.le_of_ble_eq_true rfl) ⟨Nat.le_refl _, Nat.le_refl _⟩ dX5_stopsIn_65 (fun H locs hw hS => ?_)
        rw [← e6] at hw
        refine lv_if_eq (tgt := 86) hx hb dX5_stopsIn_68 (by decide) (fun q7 => ?_) (fun q7 => ?_)
        · replace h := t_pos h q7
          refine lv_bipush (v := -5) hx hb dX5_stopsIn_86 (by decide) ?_
          have e1 := (t_ret h).1
          have e2 := (t_ret h).2
          exact e_i hx hb hr hlk hw hS e1 e2 dX5_stopsIn_88
        · replace h := t_neg h q7
          refine lv_aload_n hx hb dX5_stopsIn_71 rfl (lv_at hl 1 rfl) ?_
          refine r_get hx hb hts hown hK hw (v_qu (by decide) hi2) rfl (E_qu (by decide)) inX3 rfl 4 (by decide) k_135 rfl rfl dX5_stopsIn_72 ?_
          refine lv_if_eq (tgt := 80) hx hb dX5_stopsIn_75 (by decide) (fun q8 => ?_) (fun q8 => ?_)
          · replace h := t_pos h q8
            refine lv_iinc (v := (x3 + (nI 1))) (lv' := [(3, .int (x3 + (nI 1))), (0, .ref (ad 8 0)), (2, .ref (ad 1 (19 + i2)))]) hx hb dX5_stopsIn_80 hl (k := 2) rfl rfl (by decide) rfl (fun ls hl => ?_)
            refine lv_goto (tgt := 54) hx hb dX5_stopsIn_83 (by decide) ?_
            exact ih M5 i2 hi2 (x3 + (nI 1)) h H locs hw hS ls (lv_sub hl [1, 2, 0] rfl)
          · replace h := t_neg h q8
            refine lv_iload_n hx hb dX5_stopsIn_78 rfl (lv_at hl 2 rfl) ?_
            have e1 := (t_ret h).1
            have e2 := (t_ret h).2
            exact e_i hx hb hr hlk hw hS e1 e2 dX5_stopsIn_79
  unfold f_X5_stopsIn at h
  have main : JL p l e ({ frames := 5, cells := 0, slots := 0, locals := 119 } : Room) s md args below meth c D cy ad (MQ below (QI D cy ad r x) args s 0 0 (AD ad)) (M) 4 [(0, .ref (ad 8 0)), (1, .int p0)] 0 [] := by
    intro H locs hw hS ls hl
    refine lv_aload_n hx hb dX5_stopsIn_0 rfl (lv_at hl 0 rfl) ?_
    refine r_get hx hb hts hown hK hw (v_mn (by decide)) rfl E_mn inX5 rfl 1 (by decide) k_207 rfl rfl dX5_stopsIn_1 ?_
    refine lv_iload_n hx hb dX5_stopsIn_4 rfl (lv_at hl 1 rfl) ?_
    obtain ⟨r2, y1, h⟩ := t_b1 h
    refine c_vi hx hb hml hown hts hK hw hS (fun _ h => h) (As := [.int p0]) (rest := []) (c_X4_hasQuestion hcv (g := 0) (hg := (by decide)) (M0 := M) (m := M 0) (hm := rfl) y1) cf_X4_hasQuestion k_404 rfl rfl ⟨Nat.le_of_ble_eq_true rfl, Nat.le_of_ble_eq_true rfl⟩ (r_recv hK hw (v_st (by decide) (by decide)) (E_st (by decide)) rfl) rfl hl.1 rfl (Nat.le_of_ble_eq_true rfl) ⟨Nat.le_refl _, Nat.le_refl _⟩ dX5_stopsIn_5 (fun H locs hw hS => ?_)
    refine lv_if_ne (tgt := 13) hx hb dX5_stopsIn_8 (by decide) (fun q3 => ?_) (fun q3 => ?_)
    · replace h := t_neg h q3
      refine lv_aload_n hx hb dX5_stopsIn_13 rfl (lv_at hl 0 rfl) ?_
      refine r_get hx hb hts hown hK hw (v_mn (by decide)) rfl E_mn inX5 rfl 1 (by decide) k_207 rfl rfl dX5_stopsIn_14 ?_
      refine r_get hx hb hts hown hK hw (v_st (by decide) (by decide)) rfl (E_st (by decide)) inX4 rfl 1 (by decide) k_164 rfl rfl dX5_stopsIn_17 ?_
      refine lv_iload_n hx hb dX5_stopsIn_20 rfl (lv_at hl 1 rfl) ?_
      obtain ⟨q4, h⟩ := t_gd h
      refine r_aald hx hb hK hw (v_st (by decide) (by decide)) (t0 := 3) rfl (E_qa (by decide)) (v := .ref (ad 0 (19 + p0.toNatClampNeg))) rfl q4 dX5_stopsIn_21 ?_
      refine r_get hx hb hts hown hK hw (v_qu (by decide) (vin q4)) rfl (E_qu (by decide)) inX3 rfl 4 (by decide) k_135 rfl rfl dX5_stopsIn_22 ?_
      refine lv_if_eq (tgt := 31) hx hb dX5_stopsIn_25 (by decide) (fun q5 => ?_) (fun q5 => ?_)
      · replace h := t_pos h q5
        refine lv_aload_n hx hb dX5_stopsIn_31 rfl (lv_at hl 0 rfl) ?_
        refine r_get hx hb hts hown hK hw (v_mn (by decide)) rfl E_mn inX5 rfl 2 (by decide) k_208 rfl rfl dX5_stopsIn_32 ?_
        refine lv_aload_n hx hb dX5_stopsIn_35 rfl (lv_at hl 0 rfl) ?_
        refine r_get hx hb hts hown hK hw (v_mn (by decide)) rfl E_mn inX5 rfl 1 (by decide) k_207 rfl rfl dX5_stopsIn_36 ?_
        obtain ⟨r7, m8, y6, h⟩ := t_bd h
        obtain ⟨M9, e10, h⟩ := t_lt h
        refine c_vv hx hb hml hown hts hK hw hS (fun _ h => h) (As := [.ref (ad 0 0)]) (rest := []) (c_X4_copyFrom hcv (g := 1) (hg := (by decide)) (g2 := 0) (hg2 := (by decide)) (M0 := M) (m := M 1) (hm := rfl) (mz := M 0) (hne := by omega) (hm2 := rfl) y6) cf_X4_copyFrom k_504 rfl rfl ⟨Nat.le_of_ble_eq_true rfl, Nat.le_of_ble_eq_true rfl⟩ (r_recv hK hw (v_st (by decide) (by decide)) (E_st (by decide)) rfl) rfl hl.1 rfl (Nat.le_of_ble_eq_true rfl) ⟨Nat.le_refl _, Nat.le_refl _⟩ dX5_stopsIn_39 (fun H locs hw hS => ?_)
        rw [← e10] at hw
        refine lv_aload_n hx hb dX5_stopsIn_42 rfl (lv_at hl 0 rfl) ?_
        refine r_get hx hb hts hown hK hw (v_mn (by decide)) rfl E_mn inX5 rfl 2 (by decide) k_208 rfl rfl dX5_stopsIn_43 ?_
        refine r_get hx hb hts hown hK hw (v_st (by decide) (by decide)) rfl (E_st (by decide)) inX4 rfl 1 (by decide) k_164 rfl rfl dX5_stopsIn_46 ?_
        refine lv_iload_n hx hb dX5_stopsIn_49 rfl (lv_at hl 1 rfl) ?_
        obtain ⟨q11, h⟩ := t_gd h
        refine r_aald hx hb hK hw (v_st (by decide) (by decide)) (t0 := 3) rfl (E_qa (by decide)) (v := .ref (ad 1 (19 + p0.toNatClampNeg))) rfl q11 dX5_stopsIn_50 ?_
        refine lv_astore_n (lv' := [(2, .ref (ad 1 (19 + p0.toNatClampNeg))), (0, .ref (ad 8 0)), (1, .int p0)]) hx hb dX5_stopsIn_51 rfl hl (by decide) rfl (fun ls hl => ?_)
        refine lv_iconst (v := nI 1) hx hb dX5_stopsIn_52 (by decide) ?_
        refine lv_istore_n (lv' := [(3, .int (nI 1)), (2, .ref (ad 1 (19 + p0.toNatClampNeg))), (0, .ref (ad 8 0)), (1, .int p0)]) hx hb dX5_stopsIn_53 rfl hl (by decide) rfl (fun ls hl => ?_)
        exact L54 FU M9 p0.toNatClampNeg (vin q11) (nI 1) h H locs hw hS ls (lv_sub hl [2, 1, 0] rfl)
      · replace h := t_neg h q5
        refine lv_bipush (v := -4) hx hb dX5_stopsIn_28 (by decide) ?_
        have e1 := (t_ret h).1
        have e2 := (t_ret h).2
        exact e_i hx hb hr hlk hw hS e1 e2 dX5_stopsIn_30
    · replace h := t_pos h q3
      refine lv_iconst (v := -1) hx hb dX5_stopsIn_11 (by decide) ?_
      have e1 := (t_ret h).1
      have e2 := (t_ret h).2
      exact e_i hx hb hr hlk hw hS e1 e2 dX5_stopsIn_12
  exact main _ _ hw hS ls hl

theorem cf_X5_best : cfV RX5 yX5_best cX5_best 6 (some .int) 1 := ⟨⟨k_531, k_532, k_1, k_533⟩, by decide +kernel⟩
def f_X5_best_L98 (p0 : Int32) (M : MM) (x2 : Int32) (x3 : Int32) : Option (Int32 × MM) :=
  (if x2 = (-5 : Int32) then some ((-5 : Int32), M) else (if p0 = (nI 0) then some (x2, M) else some (x3, M)))
def f_X5_best_L35 (p0 : Int32) : Nat → MM → Int32 → Int32 → Int32 → Option (Int32 × MM)
  | 0, _, _, _, _ => none
  | n + 1, M, x2, x3, x4 => (if (nI 2) < x4 then f_X5_best_L98 p0 M x2 x3 else bd (f_X4_copyFrom (M 1) (M 0)) fun r3 m4 => lt1 (gs M 1 m4) fun M5 => lt1 (gs M5 1 (up (M5 1) 0 4 x4)) fun M8 => bd (f_X4_readWhileOpen (M8 1)) fun r10 m11 => lt1 (gs M8 1 m11) fun M12 => b1 (f_X4_openQuestions (M12 1)) fun r15 => (if r15 = (nI 0) then (if x3 ≤ r10 then f_X5_best_L35 p0 n M12 x2 x3 (x4 + (nI 1)) else f_X5_best_L35 p0 n M12 x4 r10 (x4 + (nI 1))) else f_X5_best_L35 p0 n M12 x2 x3 (x4 + (nI 1))))
def f_X5_best (M : MM) (p0 : Int32) : Option (Int32 × MM) :=
  b1 (f_X5_isFromTo p0 (nI 0) (nI 1)) fun r2 => (if r2 = (nI 0) then some ((-2 : Int32), M) else b1 (f_X4_openQuestions (M 0)) fun r5 => (if r5 = (nI 0) then some ((-4 : Int32), M) else f_X5_best_L35 p0 FU M (-5 : Int32) (nI 129) (nI 0)))
set_option maxHeartbeats 4000000 in
set_option maxRecDepth 100000 in
theorem c_X5_best {l : Launch} {D : va_G} {cy : Nat → ClassId} {ad : Nat → Nat → Nat} (hcv : CV ad) {M : MM} {p0 : Int32} {r : Int32} {x : MM} (h : f_X5_best M p0 = some (r, x)) : Met l yX5_best (.code yX5_best cX5_best 6 (some .int) :: TB) ({ frames := 6, cells := 0, slots := 0, locals := 141 } : Room) (PW D cy ad M [.ref (ad 8 0), .int p0]) (QI D cy ad r x) 0 0 (AD ad) := by
  refine m_in (by decide +kernel) (Nat.le_of_ble_eq_true rfl) ?_
  intro p e s md args below meth c hC hw hS ls hl
  obtain ⟨hx, hb, hr, hml, hown, hts, hK, hlk⟩ := hC
  have hl : lv_has ls 6 [(0, .ref (ad 8 0)), (1, .int p0)] := hl
  have L98 : ∀ (M : MM) (x2 : Int32) (x3 : Int32), f_X5_best_L98 p0 M x2 x3 = some (r, x) → JL p l e ({ frames := 6, cells := 0, slots := 0, locals := 141 } : Room) s md args below meth c D cy ad (MQ below (QI D cy ad r x) args s 0 0 (AD ad)) (M) 6 [(1, .int p0), (2, .int x2), (3, .int x3)] 98 [] := by
    intro M x2 x3 h H locs hw hS ls hl
    unfold f_X5_best_L98 at h
    refine lv_iload_n hx hb dX5_best_98 rfl (lv_at hl 1 rfl) ?_
    refine lv_bipush (v := -5) hx hb dX5_best_99 (by decide) ?_
    refine lv_icmp_ne (tgt := 107) hx hb dX5_best_101 (by decide) (fun q1 => ?_) (fun q1 => ?_)
    · replace h := t_neg h q1
      refine lv_iload_n hx hb dX5_best_107 rfl (lv_at hl 0 rfl) ?_
      refine lv_if_ne (tgt := 115) hx hb dX5_best_108 (by decide) (fun q2 => ?_) (fun q2 => ?_)
      · replace h := t_neg h q2
        refine lv_iload_n hx hb dX5_best_115 rfl (lv_at hl 2 rfl) ?_
        have e1 := (t_ret h).1
        have e2 := (t_ret h).2
        exact e_i hx hb hr hlk hw hS e1 e2 dX5_best_116
      · replace h := t_pos h q2
        refine lv_iload_n hx hb dX5_best_111 rfl (lv_at hl 1 rfl) ?_
        refine lv_goto (tgt := 116) hx hb dX5_best_112 (by decide) ?_
        have e1 := (t_ret h).1
        have e2 := (t_ret h).2
        exact e_i hx hb hr hlk hw hS e1 e2 dX5_best_116
    · replace h := t_pos h q1
      refine lv_bipush (v := -5) hx hb dX5_best_104 (by decide) ?_
      have e1 := (t_ret h).1
      have e2 := (t_ret h).2
      exact e_i hx hb hr hlk hw hS e1 e2 dX5_best_106
  have L35 : ∀ (n : Nat), ∀ (M : MM) (x2 : Int32) (x3 : Int32) (x4 : Int32), f_X5_best_L35 p0 n M x2 x3 x4 = some (r, x) → JL p l e ({ frames := 6, cells := 0, slots := 0, locals := 141 } : Room) s md args below meth c D cy ad (MQ below (QI D cy ad r x) args s 0 0 (AD ad)) (M) 6 [(0, .ref (ad 8 0)), (1, .int p0), (2, .int x2), (3, .int x3), (4, .int x4)] 35 [] := by
    intro n
    induction n with
    | zero =>
      intro M x2 x3 x4 h
      cases h
    | succ n ih =>
      intro M x2 x3 x4 h H locs hw hS ls hl
      rw [f_X5_best_L35.eq_2] at h
      refine lv_iload hx hb dX5_best_35 (lv_at hl 4 rfl) ?_
      refine lv_iconst (v := nI 2) hx hb dX5_best_37 (by decide) ?_
      refine lv_icmp_gt (tgt := 98) hx hb dX5_best_38 (by decide) (fun q1 => ?_) (fun q1 => ?_)
      · replace h := t_pos h q1
        exact L98 M x2 x3 h H locs hw hS ls (lv_sub hl [1, 2, 3] rfl)
      · replace h := t_neg h q1
        refine lv_aload_n hx hb dX5_best_41 rfl (lv_at hl 0 rfl) ?_
        refine r_get hx hb hts hown hK hw (v_mn (by decide)) rfl E_mn inX5 rfl 2 (by decide) k_208 rfl rfl dX5_best_42 ?_
        refine lv_aload_n hx hb dX5_best_45 rfl (lv_at hl 0 rfl) ?_
        refine r_get hx hb hts hown hK hw (v_mn (by decide)) rfl E_mn inX5 rfl 1 (by decide) k_207 rfl rfl dX5_best_46 ?_
        obtain ⟨r3, m4, y2, h⟩ := t_bd h
        obtain ⟨M5, e6, h⟩ := t_lt h
        refine c_vv hx hb hml hown hts hK hw hS (fun _ h => h) (As := [.ref (ad 0 0)]) (rest := []) (c_X4_copyFrom hcv (g := 1) (hg := (by decide)) (g2 := 0) (hg2 := (by decide)) (M0 := M) (m := M 1) (hm := rfl) (mz := M 0) (hne := by omega) (hm2 := rfl) y2) cf_X4_copyFrom k_504 rfl rfl ⟨Nat.le_of_ble_eq_true rfl, Nat.le_of_ble_eq_true rfl⟩ (r_recv hK hw (v_st (by decide) (by decide)) (E_st (by decide)) rfl) rfl hl.1 rfl (Nat.le_of_ble_eq_true rfl) ⟨Nat.le_refl _, Nat.le_refl _⟩ dX5_best_49 (fun H locs hw hS => ?_)
        rw [← e6] at hw
        refine lv_aload_n hx hb dX5_best_52 rfl (lv_at hl 0 rfl) ?_
        refine r_get hx hb hts hown hK hw (v_mn (by decide)) rfl E_mn inX5 rfl 2 (by decide) k_208 rfl rfl dX5_best_53 ?_
        refine lv_iload hx hb dX5_best_56 (lv_at hl 4 rfl) ?_
        obtain ⟨M8, e7, h⟩ := t_lt h
        refine r_put hx hb hts hown hK hcv hw hS (v_st (by decide) (by decide)) rfl (E_st (by decide)) inX4 rfl tyX4 tyX4_ok nmX4 4 (by decide) k_170 rfl rfl rfl rfl (Nat.le_of_ble_eq_true rfl) (E_st (by decide)) e7.symm dX5_best_58 (fun H locs hw hS => ?_)
        refine lv_aload_n hx hb dX5_best_61 rfl (lv_at hl 0 rfl) ?_
        refine r_get hx hb hts hown hK hw (v_mn (by decide)) rfl E_mn inX5 rfl 2 (by decide) k_208 rfl rfl dX5_best_62 ?_
        obtain ⟨r10, m11, y9, h⟩ := t_bd h
        obtain ⟨M12, e13, h⟩ := t_lt h
        refine c_vi hx hb hml hown hts hK hw hS (fun _ h => h) (As := []) (rest := []) (c_X4_readWhileOpen hcv (g := 1) (hg := (by decide)) (M0 := M8) (m := M8 1) (hm := rfl) y9) cf_X4_readWhileOpen k_468 rfl rfl ⟨Nat.le_of_ble_eq_true rfl, Nat.le_of_ble_eq_true rfl⟩ (r_recv hK hw (v_st (by decide) (by decide)) (E_st (by decide)) rfl) rfl hl.1 rfl (Nat.le_of_ble_eq_true rfl) ⟨Nat.le_refl _, Nat.le_refl _⟩ dX5_best_65 (fun H locs hw hS => ?_)
        rw [← e13] at hw
        refine lv_istore (lv' := [(5, .int r10), (0, .ref (ad 8 0)), (1, .int p0), (2, .int x2), (3, .int x3), (4, .int x4)]) hx hb dX5_best_68 hl (by decide) rfl (fun ls hl => ?_)
        refine lv_aload_n hx hb dX5_best_70 rfl (lv_at hl 1 rfl) ?_
        refine r_get hx hb hts hown hK hw (v_mn (by decide)) rfl E_mn inX5 rfl 2 (by decide) k_208 rfl rfl dX5_best_71 ?_
        obtain ⟨r15, y14, h⟩ := t_b1 h
        refine c_vi hx hb hml hown hts hK hw hS (fun _ h => h) (As := []) (rest := []) (c_X4_openQuestions hcv (g := 1) (hg := (by decide)) (M0 := M12) (m := M12 1) (hm := rfl) y14) cf_X4_openQuestions k_464 rfl rfl ⟨Nat.le_of_ble_eq_true rfl, Nat.le_of_ble_eq_true rfl⟩ (r_recv hK hw (v_st (by decide) (by decide)) (E_st (by decide)) rfl) rfl hl.1 rfl (Nat.le_of_ble_eq_true rfl) ⟨Nat.le_refl _, Nat.le_refl _⟩ dX5_best_74 (fun H locs hw hS => ?_)
        refine lv_if_ne (tgt := 92) hx hb dX5_best_77 (by decide) (fun q16 => ?_) (fun q16 => ?_)
        · replace h := t_neg h q16
          refine lv_iinc (v := (x4 + (nI 1))) (lv' := [(4, .int (x4 + (nI 1))), (5, .int r10), (0, .ref (ad 8 0)), (1, .int p0), (2, .int x2), (3, .int x3)]) hx hb dX5_best_92 hl (k := 5) rfl rfl (by decide) rfl (fun ls hl => ?_)
          refine lv_goto (tgt := 35) hx hb dX5_best_95 (by decide) ?_
          exact ih M12 x2 x3 (x4 + (nI 1)) h H locs hw hS ls (lv_sub hl [2, 3, 4, 5, 0] rfl)
        · replace h := t_pos h q16
          refine lv_iload hx hb dX5_best_80 (lv_at hl 0 rfl) ?_
          refine lv_iload_n hx hb dX5_best_82 rfl (lv_at hl 4 rfl) ?_
          refine lv_icmp_ge (tgt := 92) hx hb dX5_best_83 (by decide) (fun q17 => ?_) (fun q17 => ?_)
          · replace h := t_pos h q17
            refine lv_iinc (v := (x4 + (nI 1))) (lv' := [(4, .int (x4 + (nI 1))), (5, .int r10), (0, .ref (ad 8 0)), (1, .int p0), (2, .int x2), (3, .int x3)]) hx hb dX5_best_92 hl (k := 5) rfl rfl (by decide) rfl (fun ls hl => ?_)
            refine lv_goto (tgt := 35) hx hb dX5_best_95 (by decide) ?_
            exact ih M12 x2 x3 (x4 + (nI 1)) h H locs hw hS ls (lv_sub hl [2, 3, 4, 5, 0] rfl)
          · replace h := t_neg h q17
            refine lv_iload hx hb dX5_best_86 (lv_at hl 5 rfl) ?_
            refine lv_istore_n (lv' := [(2, .int x4), (5, .int r10), (0, .ref (ad 8 0)), (1, .int p0), (3, .int x3), (4, .int x4)]) hx hb dX5_best_88 rfl hl (by decide) rfl (fun ls hl => ?_)
            refine lv_iload hx hb dX5_best_89 (lv_at hl 1 rfl) ?_
            refine lv_istore_n (lv' := [(3, .int r10), (2, .int x4), (5, .int r10), (0, .ref (ad 8 0)), (1, .int p0), (4, .int x4)]) hx hb dX5_best_91 rfl hl (by decide) rfl (fun ls hl => ?_)
            refine lv_iinc (v := (x4 + (nI 1))) (lv' := [(4, .int (x4 + (nI 1))), (3, .int r10), (2, .int x4), (5, .int r10), (0, .ref (ad 8 0)), (1, .int p0)]) hx hb dX5_best_92 hl (k := 5) rfl rfl (by decide) rfl (fun ls hl => ?_)
            refine lv_goto (tgt := 35) hx hb dX5_best_95 (by decide) ?_
            exact ih M12 x4 r10 (x4 + (nI 1)) h H locs hw hS ls (lv_sub hl [4, 5, 2, 1, 0] rfl)
  unfold f_X5_best at h
  have main : JL p l e ({ frames := 6, cells := 0, slots := 0, locals := 141 } : Room) s md args below meth c D cy ad (MQ below (QI D cy ad r x) args s 0 0 (AD ad)) (M) 6 [(0, .ref (ad 8 0)), (1, .int p0)] 0 [] := by
    intro H locs hw hS ls hl
    refine lv_iload_n hx hb dX5_best_0 rfl (lv_at hl 1 rfl) ?_
    refine lv_iconst (v := nI 0) hx hb dX5_best_1 (by decide) ?_
    refine lv_iconst (v := nI 1) hx hb dX5_best_2 (by decide) ?_
    obtain ⟨r2, y1, h⟩ := t_b1 h
    refine c_si hx hb hml hown hts hK hw hS (fun _ h => h) (As := [.int p0, .int (nI 0), .int (nI 1)]) (rest := []) (c_X5_isFromTo hcv (M0 := M) y1) cf_X5_isFromTo k_394 rfl rfl ⟨Nat.le_of_ble_eq_true rfl, Nat.le_of_ble_eq_true rfl⟩ rfl hl.1 rfl (Nat.le_of_ble_eq_true rfl) ⟨Nat.le_refl _, Nat.le_refl _⟩ dX5_best_3 (fun H locs hw hS => ?_)
    refine lv_if_ne (tgt := 12) hx hb dX5_best_6 (by decide) (fun q3 => ?_) (fun q3 => ?_)
    · replace h := t_neg h q3
      refine lv_aload_n hx hb dX5_best_12 rfl (lv_at hl 0 rfl) ?_
      refine r_get hx hb hts hown hK hw (v_mn (by decide)) rfl E_mn inX5 rfl 1 (by decide) k_207 rfl rfl dX5_best_13 ?_
      obtain ⟨r5, y4, h⟩ := t_b1 h
      refine c_vi hx hb hml hown hts hK hw hS (fun _ h => h) (As := []) (rest := []) (c_X4_openQuestions hcv (g := 0) (hg := (by decide)) (M0 := M) (m := M 0) (hm := rfl) y4) cf_X4_openQuestions k_464 rfl rfl ⟨Nat.le_of_ble_eq_true rfl, Nat.le_of_ble_eq_true rfl⟩ (r_recv hK hw (v_st (by decide) (by decide)) (E_st (by decide)) rfl) rfl hl.1 rfl (Nat.le_of_ble_eq_true rfl) ⟨Nat.le_refl _, Nat.le_refl _⟩ dX5_best_16 (fun H locs hw hS => ?_)
      refine lv_if_ne (tgt := 25) hx hb dX5_best_19 (by decide) (fun q6 => ?_) (fun q6 => ?_)
      · replace h := t_neg h q6
        refine lv_bipush (v := -5) hx hb dX5_best_25 (by decide) ?_
        refine lv_istore_n (lv' := [(2, .int (-5 : Int32)), (0, .ref (ad 8 0)), (1, .int p0)]) hx hb dX5_best_27 rfl hl (by decide) rfl (fun ls hl => ?_)
        refine lv_sipush (v := nI 129) hx hb dX5_best_28 (by decide) ?_
        refine lv_istore_n (lv' := [(3, .int (nI 129)), (2, .int (-5 : Int32)), (0, .ref (ad 8 0)), (1, .int p0)]) hx hb dX5_best_31 rfl hl (by decide) rfl (fun ls hl => ?_)
        refine lv_iconst (v := nI 0) hx hb dX5_best_32 (by decide) ?_
        refine lv_istore (lv' := [(4, .int (nI 0)), (3, .int (nI 129)), (2, .int (-5 : Int32)), (0, .ref (ad 8 0)), (1, .int p0)]) hx hb dX5_best_33 hl (by decide) rfl (fun ls hl => ?_)
        exact L35 FU M (-5 : Int32) (nI 129) (nI 0) h H locs hw hS ls (lv_sub hl [3, 4, 2, 1, 0] rfl)
      · replace h := t_pos h q6
        refine lv_bipush (v := -4) hx hb dX5_best_22 (by decide) ?_
        have e1 := (t_ret h).1
        have e2 := (t_ret h).2
        exact e_i hx hb hr hlk hw hS e1 e2 dX5_best_24
    · replace h := t_pos h q3
      refine lv_bipush (v := -2) hx hb dX5_best_9 (by decide) ?_
      have e1 := (t_ret h).1
      have e2 := (t_ret h).2
      exact e_i hx hb hr hlk hw hS e1 e2 dX5_best_11
  exact main _ _ hw hS ls hl

theorem cf_X5_count : cfV RX5 yX5_count cX5_count 2 (some .int) 1 := ⟨⟨k_535, k_536, k_1, k_537⟩, by decide +kernel⟩
def f_X5_count (M : MM) (p0 : Int32) : Option (Int32) :=
  (if p0 = (nI 0) then some (M 0 0 2) else (if p0 = (nI 1) then some (M 0 0 3) else (if p0 = (nI 2) then b1 (f_X4_openQuestions (M 0)) fun r15 => some r15 else (if p0 = (nI 3) then some (M 0 0 4) else (if p0 = (nI 4) then b1 (f_X4_rows (M 0) (nI 15)) fun r13 => some r13 else (if p0 = (nI 5) then b1 (f_X4_readRows (M 0) (nI 15)) fun r11 => some r11 else (if p0 = (nI 6) then some (M 0 0 5) else (if p0 = (nI 7) then some (M 8 1 2) else (if p0 = (nI 8) then some (M 7 0 2) else (some (-2 : Int32)))))))))))
set_option maxHeartbeats 4000000 in
set_option maxRecDepth 100000 in
theorem c_X5_count {l : Launch} {D : va_G} {cy : Nat → ClassId} {ad : Nat → Nat → Nat} (hcv : CV ad) {M : MM} {p0 : Int32} {r : Int32} (h : f_X5_count M p0 = some r) : Met l yX5_count (.code yX5_count cX5_count 2 (some .int) :: TB) ({ frames := 2, cells := 0, slots := 0, locals := 44 } : Room) (PW D cy ad M [.ref (ad 8 0), .int p0]) (QI D cy ad r M) 0 0 (AD ad) := by
  refine m_in (by decide +kernel) (Nat.le_of_ble_eq_true rfl) ?_
  intro p e s md args below meth c hC hw hS ls hl
  obtain ⟨hx, hb, hr, hml, hown, hts, hK, hlk⟩ := hC
  have hl : lv_has ls 2 [(0, .ref (ad 8 0)), (1, .int p0)] := hl
  unfold f_X5_count at h
  have main : JL p l e ({ frames := 2, cells := 0, slots := 0, locals := 44 } : Room) s md args below meth c D cy ad (MQ below (QI D cy ad r M) args s 0 0 (AD ad)) (M) 2 [(0, .ref (ad 8 0)), (1, .int p0)] 0 [] := by
    intro H locs hw hS ls hl
    refine lv_iload_n hx hb dX5_count_0 rfl (lv_at hl 1 rfl) ?_
    by_cases q1 : p0 = (nI 0)
    · replace h := t_pos h q1
      refine lv_tableIn (off := 51) (tgt := 52) hx hb dX5_count_1 (by rw [q1]; decide) (by rw [q1]; decide) (by rw [q1]; rfl) (by decide) ?_
      refine lv_aload_n hx hb dX5_count_52 rfl (lv_at hl 0 rfl) ?_
      refine r_get hx hb hts hown hK hw (v_mn (by decide)) rfl E_mn inX5 rfl 1 (by decide) k_207 rfl rfl dX5_count_53 ?_
      refine r_get hx hb hts hown hK hw (v_st (by decide) (by decide)) rfl (E_st (by decide)) inX4 rfl 2 (by decide) k_166 rfl rfl dX5_count_56 ?_
      have e1 := Option.some.inj h
      exact e_i hx hb hr hlk hw hS e1 rfl dX5_count_59
    · replace h := t_neg h q1
      by_cases q2 : p0 = (nI 1)
      · replace h := t_pos h q2
        refine lv_tableIn (off := 59) (tgt := 60) hx hb dX5_count_1 (by rw [q2]; decide) (by rw [q2]; decide) (by rw [q2]; rfl) (by decide) ?_
        refine lv_aload_n hx hb dX5_count_60 rfl (lv_at hl 0 rfl) ?_
        refine r_get hx hb hts hown hK hw (v_mn (by decide)) rfl E_mn inX5 rfl 1 (by decide) k_207 rfl rfl dX5_count_61 ?_
        refine r_get hx hb hts hown hK hw (v_st (by decide) (by decide)) rfl (E_st (by decide)) inX4 rfl 3 (by decide) k_168 rfl rfl dX5_count_64 ?_
        have e1 := Option.some.inj h
        exact e_i hx hb hr hlk hw hS e1 rfl dX5_count_67
      · replace h := t_neg h q2
        by_cases q3 : p0 = (nI 2)
        · replace h := t_pos h q3
          refine lv_tableIn (off := 67) (tgt := 68) hx hb dX5_count_1 (by rw [q3]; decide) (by rw [q3]; decide) (by rw [q3]; rfl) (by decide) ?_
          refine lv_aload_n hx hb dX5_count_68 rfl (lv_at hl 0 rfl) ?_
          refine r_get hx hb hts hown hK hw (v_mn (by decide)) rfl E_mn inX5 rfl 1 (by decide) k_207 rfl rfl dX5_count_69 ?_
          obtain ⟨r15, y14, h⟩ := t_b1 h
          refine c_vi hx hb hml hown hts hK hw hS (fun _ h => h) (As := []) (rest := []) (c_X4_openQuestions hcv (g := 0) (hg := (by decide)) (M0 := M) (m := M 0) (hm := rfl) y14) cf_X4_openQuestions k_464 rfl rfl ⟨Nat.le_of_ble_eq_true rfl, Nat.le_of_ble_eq_true rfl⟩ (r_recv hK hw (v_st (by decide) (by decide)) (E_st (by decide)) rfl) rfl hl.1 rfl (Nat.le_of_ble_eq_true rfl) ⟨Nat.le_refl _, Nat.le_refl _⟩ dX5_count_72 (fun H locs hw hS => ?_)
          have e1 := Option.some.inj h
          exact e_i hx hb hr hlk hw hS e1 rfl dX5_count_75
        · replace h := t_neg h q3
          by_cases q4 : p0 = (nI 3)
          · replace h := t_pos h q4
            refine lv_tableIn (off := 75) (tgt := 76) hx hb dX5_count_1 (by rw [q4]; decide) (by rw [q4]; decide) (by rw [q4]; rfl) (by decide) ?_
            refine lv_aload_n hx hb dX5_count_76 rfl (lv_at hl 0 rfl) ?_
            refine r_get hx hb hts hown hK hw (v_mn (by decide)) rfl E_mn inX5 rfl 1 (by decide) k_207 rfl rfl dX5_count_77 ?_
            refine r_get hx hb hts hown hK hw (v_st (by decide) (by decide)) rfl (E_st (by decide)) inX4 rfl 4 (by decide) k_170 rfl rfl dX5_count_80 ?_
            have e1 := Option.some.inj h
            exact e_i hx hb hr hlk hw hS e1 rfl dX5_count_83
          · replace h := t_neg h q4
            by_cases q5 : p0 = (nI 4)
            · replace h := t_pos h q5
              refine lv_tableIn (off := 83) (tgt := 84) hx hb dX5_count_1 (by rw [q5]; decide) (by rw [q5]; decide) (by rw [q5]; rfl) (by decide) ?_
              refine lv_aload_n hx hb dX5_count_84 rfl (lv_at hl 0 rfl) ?_
              refine r_get hx hb hts hown hK hw (v_mn (by decide)) rfl E_mn inX5 rfl 1 (by decide) k_207 rfl rfl dX5_count_85 ?_
              refine lv_bipush (v := nI 15) hx hb dX5_count_88 (by decide) ?_
              obtain ⟨r13, y12, h⟩ := t_b1 h
              refine c_vi hx hb hml hown hts hK hw hS (fun _ h => h) (As := [.int (nI 15)]) (rest := []) (c_X4_rows hcv (g := 0) (hg := (by decide)) (M0 := M) (m := M 0) (hm := rfl) y12) cf_X4_rows k_412 rfl rfl ⟨Nat.le_of_ble_eq_true rfl, Nat.le_of_ble_eq_true rfl⟩ (r_recv hK hw (v_st (by decide) (by decide)) (E_st (by decide)) rfl) rfl hl.1 rfl (Nat.le_of_ble_eq_true rfl) ⟨Nat.le_refl _, Nat.le_refl _⟩ dX5_count_90 (fun H locs hw hS => ?_)
              have e1 := Option.some.inj h
              exact e_i hx hb hr hlk hw hS e1 rfl dX5_count_93
            · replace h := t_neg h q5
              by_cases q6 : p0 = (nI 5)
              · replace h := t_pos h q6
                refine lv_tableIn (off := 93) (tgt := 94) hx hb dX5_count_1 (by rw [q6]; decide) (by rw [q6]; decide) (by rw [q6]; rfl) (by decide) ?_
                refine lv_aload_n hx hb dX5_count_94 rfl (lv_at hl 0 rfl) ?_
                refine r_get hx hb hts hown hK hw (v_mn (by decide)) rfl E_mn inX5 rfl 1 (by decide) k_207 rfl rfl dX5_count_95 ?_
                refine lv_bipush (v := nI 15) hx hb dX5_count_98 (by decide) ?_
                obtain ⟨r11, y10, h⟩ := t_b1 h
                refine c_vi hx hb hml hown hts hK hw hS (fun _ h => h) (As := [.int (nI 15)]) (rest := []) (c_X4_readRows hcv (g := 0) (hg := (by decide)) (M0 := M) (m := M 0) (hm := rfl) y10) cf_X4_readRows k_381 rfl rfl ⟨Nat.le_of_ble_eq_true rfl, Nat.le_of_ble_eq_true rfl⟩ (r_recv hK hw (v_st (by decide) (by decide)) (E_st (by decide)) rfl) rfl hl.1 rfl (Nat.le_of_ble_eq_true rfl) ⟨Nat.le_refl _, Nat.le_refl _⟩ dX5_count_100 (fun H locs hw hS => ?_)
                have e1 := Option.some.inj h
                exact e_i hx hb hr hlk hw hS e1 rfl dX5_count_103
              · replace h := t_neg h q6
                by_cases q7 : p0 = (nI 6)
                · replace h := t_pos h q7
                  refine lv_tableIn (off := 103) (tgt := 104) hx hb dX5_count_1 (by rw [q7]; decide) (by rw [q7]; decide) (by rw [q7]; rfl) (by decide) ?_
                  refine lv_aload_n hx hb dX5_count_104 rfl (lv_at hl 0 rfl) ?_
                  refine r_get hx hb hts hown hK hw (v_mn (by decide)) rfl E_mn inX5 rfl 1 (by decide) k_207 rfl rfl dX5_count_105 ?_
                  refine r_get hx hb hts hown hK hw (v_st (by decide) (by decide)) rfl (E_st (by decide)) inX4 rfl 5 (by decide) k_172 rfl rfl dX5_count_108 ?_
                  have e1 := Option.some.inj h
                  exact e_i hx hb hr hlk hw hS e1 rfl dX5_count_111
                · replace h := t_neg h q7
                  by_cases q8 : p0 = (nI 7)
                  · replace h := t_pos h q8
                    refine lv_tableIn (off := 111) (tgt := 112) hx hb dX5_count_1 (by rw [q8]; decide) (by rw [q8]; decide) (by rw [q8]; rfl) (by decide) ?_
                    refine lv_aload_n hx hb dX5_count_112 rfl (lv_at hl 0 rfl) ?_
                    refine r_get hx hb hts hown hK hw (v_mn (by decide)) rfl E_mn inX5 rfl 4 (by decide) k_210 rfl rfl dX5_count_113 ?_
                    refine r_get hx hb hts hown hK hw (v_mn (by decide)) rfl E_hi inX2 rfl 2 (by decide) k_198 rfl rfl dX5_count_116 ?_
                    have e1 := Option.some.inj h
                    exact e_i hx hb hr hlk hw hS e1 rfl dX5_count_119
                  · replace h := t_neg h q8
                    by_cases q9 : p0 = (nI 8)
                    · replace h := t_pos h q9
                      refine lv_tableIn (off := 119) (tgt := 120) hx hb dX5_count_1 (by rw [q9]; decide) (by rw [q9]; decide) (by rw [q9]; rfl) (by decide) ?_
                      refine lv_aload_n hx hb dX5_count_120 rfl (lv_at hl 0 rfl) ?_
                      refine r_get hx hb hts hown hK hw (v_mn (by decide)) rfl E_mn inX5 rfl 0 (by decide) k_206 rfl rfl dX5_count_121 ?_
                      refine r_get hx hb hts hown hK hw (v_tx (by decide)) rfl E_tx inX1 rfl 2 (by decide) k_28 rfl rfl dX5_count_124 ?_
                      have e1 := Option.some.inj h
                      exact e_i hx hb hr hlk hw hS e1 rfl dX5_count_127
                    · replace h := t_neg h q9
                      refine lv_tableOut (tgt := 128) hx hb dX5_count_1 (tab_out (lo := 0) (n := 9) (by decide) (lt_s (lt_s (lt_s (lt_s (lt_s (lt_s (lt_s (lt_s (lt_s lt_0 q1) q2) q3) q4) q5) q6) q7) q8) q9)) (by decide) ?_
                      refine lv_bipush (v := -2) hx hb dX5_count_128 (by decide) ?_
                      have e1 := Option.some.inj h
                      exact e_i hx hb hr hlk hw hS e1 rfl dX5_count_130
  exact main _ _ hw hS ls hl

theorem cf_X6_in : cfS RX6 yX6_in cX6_in 3 (some .boolean) 3 := ⟨⟨k_664, k_7, k_665⟩, by decide +kernel⟩
def f_X6_in (p0 : Int32) (p1 : Int32) (p2 : Int32) : Option (Int32) :=
  (if p0 < p1 then some (nI 0) else (if p2 < p0 then some (nI 0) else some (nI 1)))
set_option maxHeartbeats 4000000 in
set_option maxRecDepth 100000 in
theorem c_X6_in {l : Launch} {D : va_G} {cy : Nat → ClassId} {ad : Nat → Nat → Nat} (hcv : CV ad) {M0 : MM} {p0 p1 p2 : Int32} {r : Int32} (h : f_X6_in p0 p1 p2 = some r) : Met l yX6_in (.code yX6_in cX6_in 3 (some .boolean) :: TB) ({ frames := 0, cells := 0, slots := 0, locals := 0 } : Room) (PW D cy ad M0 [.int p0, .int p1, .int p2]) (QI D cy ad r M0) 0 0 (AD ad) := by
  refine m_in (by decide +kernel) (Nat.le_of_ble_eq_true rfl) ?_
  intro p e s md args below meth c hC hw hS ls hl
  obtain ⟨hx, hb, hr, hml, hown, hts, hK, hlk⟩ := hC
  have hl : lv_has ls 3 [(0, .int p0), (1, .int p1), (2, .int p2)] := hl
  unfold f_X6_in at h
  have main : JL p l e ({ frames := 0, cells := 0, slots := 0, locals := 0 } : Room) s md args below meth c D cy ad (MQ below (QI D cy ad r M0) args s 0 0 (AD ad)) (M0) 3 [(0, .int p0), (1, .int p1), (2, .int p2)] 0 [] := by
    intro H locs hw hS ls hl
    refine lv_iload_n hx hb dX6_in_0 rfl (lv_at hl 0 rfl) ?_
    refine lv_iload_n hx hb dX6_in_1 rfl (lv_at hl 1 rfl) ?_
    refine lv_icmp_lt (tgt := 14) hx hb dX6_in_2 (by decide) (fun q1 => ?_) (fun q1 => ?_)
    · replace h := t_pos h q1
      refine lv_iconst (v := nI 0) hx hb dX6_in_14 (by decide) ?_
      have e1 := Option.some.inj h
      exact e_z hx hb hr hlk (Or.inl rfl) hw hS e1 rfl dX6_in_15
    · replace h := t_neg h q1
      refine lv_iload_n hx hb dX6_in_5 rfl (lv_at hl 0 rfl) ?_
      refine lv_iload_n hx hb dX6_in_6 rfl (lv_at hl 2 rfl) ?_
      refine lv_icmp_gt (tgt := 14) hx hb dX6_in_7 (by decide) (fun q2 => ?_) (fun q2 => ?_)
      · replace h := t_pos h q2
        refine lv_iconst (v := nI 0) hx hb dX6_in_14 (by decide) ?_
        have e1 := Option.some.inj h
        exact e_z hx hb hr hlk (Or.inl rfl) hw hS e1 rfl dX6_in_15
      · replace h := t_neg h q2
        refine lv_iconst (v := nI 1) hx hb dX6_in_10 (by decide) ?_
        refine lv_goto (tgt := 15) hx hb dX6_in_11 (by decide) ?_
        have e1 := Option.some.inj h
        exact e_z hx hb hr hlk (Or.inr rfl) hw hS e1 rfl dX6_in_15
  exact main _ _ hw hS ls hl

theorem cf_X6_isBlock : cfV RX6 yX6_isBlock cX6_isBlock 2 (some .boolean) 1 := ⟨⟨k_720, k_s22, k_7, k_721⟩, by decide +kernel⟩
def f_X6_isBlock (m : SM) (p0 : Int32) : Option (Int32) :=
  (if p0 < (nI 0) then some (nI 0) else gd (nI 0) 220 ((if (m 1 (nI 0).toNatClampNeg) ≤ p0 then some (nI 0) else some (nI 1))))
set_option maxHeartbeats 4000000 in
set_option maxRecDepth 100000 in
theorem c_X6_isBlock {l : Launch} {D : va_G} {cy : Nat → ClassId} {ad : Nat → Nat → Nat} (hcv : CV ad) {M0 : MM} {m : SM} (hm : M0 9 = m) {p0 : Int32} {r : Int32} (h : f_X6_isBlock m p0 = some r) : Met l yX6_isBlock (.code yX6_isBlock cX6_isBlock 2 (some .boolean) :: TB) ({ frames := 0, cells := 0, slots := 0, locals := 0 } : Room) (PW D cy ad M0 [.ref (ad 9 0), .int p0]) (QI D cy ad r M0) 0 0 (AD ad) := by
  refine m_in (by decide +kernel) (Nat.le_of_ble_eq_true rfl) ?_
  intro p e s md args below meth c hC hw hS ls hl
  obtain ⟨hx, hb, hr, hml, hown, hts, hK, hlk⟩ := hC
  have hl : lv_has ls 2 [(0, .ref (ad 9 0)), (1, .int p0)] := hl
  rw [← gs_same hm] at hw
  unfold f_X6_isBlock at h
  have main : JL p l e ({ frames := 0, cells := 0, slots := 0, locals := 0 } : Room) s md args below meth c D cy ad (MQ below (QI D cy ad r M0) args s 0 0 (AD ad)) (gs M0 9 m) 2 [(0, .ref (ad 9 0)), (1, .int p0)] 0 [] := by
    intro H locs hw hS ls hl
    refine lv_iload_n hx hb dX6_isBlock_0 rfl (lv_at hl 1 rfl) ?_
    refine lv_if_lt (tgt := 18) hx hb dX6_isBlock_1 (by decide) (fun q1 => ?_) (fun q1 => ?_)
    · replace h := t_pos h q1
      refine lv_iconst (v := nI 0) hx hb dX6_isBlock_18 (by decide) ?_
      have e1 := Option.some.inj h
      exact e_z hx hb hr hlk (Or.inl rfl) hw hS e1 (gs_same hm) dX6_isBlock_19
    · replace h := t_neg h q1
      refine lv_iload_n hx hb dX6_isBlock_4 rfl (lv_at hl 1 rfl) ?_
      refine lv_aload_n hx hb dX6_isBlock_5 rfl (lv_at hl 0 rfl) ?_
      refine r_get hx hb hts hown hK hw (v_md (by decide)) gs_atc E_md inX6 rfl 0 (by decide) k_544 rfl rfl dX6_isBlock_6 ?_
      refine lv_iconst (v := nI 0) hx hb dX6_isBlock_9 (by decide) ?_
      obtain ⟨q2, h⟩ := t_gd h
      refine r_iald hx hb hK hw (v_md (by decide)) gs_atc E_m1 q2 dX6_isBlock_10 ?_
      refine lv_icmp_ge (tgt := 18) hx hb dX6_isBlock_11 (by decide) (fun q3 => ?_) (fun q3 => ?_)
      · replace h := t_pos h q3
        refine lv_iconst (v := nI 0) hx hb dX6_isBlock_18 (by decide) ?_
        have e1 := Option.some.inj h
        exact e_z hx hb hr hlk (Or.inl rfl) hw hS e1 (gs_same hm) dX6_isBlock_19
      · replace h := t_neg h q3
        refine lv_iconst (v := nI 1) hx hb dX6_isBlock_14 (by decide) ?_
        refine lv_goto (tgt := 19) hx hb dX6_isBlock_15 (by decide) ?_
        have e1 := Option.some.inj h
        exact e_z hx hb hr hlk (Or.inr rfl) hw hS e1 (gs_same hm) dX6_isBlock_19
  exact main _ _ hw hS ls hl

theorem cf_X6_isQuestion : cfV RX6 yX6_isQuestion cX6_isQuestion 2 (some .boolean) 1 := ⟨⟨k_745, k_s23, k_7, k_746⟩, by decide +kernel⟩
def f_X6_isQuestion (m : SM) (p0 : Int32) : Option (Int32) :=
  (if p0 < (nI 0) then some (nI 0) else gd (nI 1) 220 ((if (m 1 (nI 1).toNatClampNeg) ≤ p0 then some (nI 0) else some (nI 1))))
set_option maxHeartbeats 4000000 in
set_option maxRecDepth 100000 in
theorem c_X6_isQuestion {l : Launch} {D : va_G} {cy : Nat → ClassId} {ad : Nat → Nat → Nat} (hcv : CV ad) {M0 : MM} {m : SM} (hm : M0 9 = m) {p0 : Int32} {r : Int32} (h : f_X6_isQuestion m p0 = some r) : Met l yX6_isQuestion (.code yX6_isQuestion cX6_isQuestion 2 (some .boolean) :: TB) ({ frames := 0, cells := 0, slots := 0, locals := 0 } : Room) (PW D cy ad M0 [.ref (ad 9 0), .int p0]) (QI D cy ad r M0) 0 0 (AD ad) := by
  refine m_in (by decide +kernel) (Nat.le_of_ble_eq_true rfl) ?_
  intro p e s md args below meth c hC hw hS ls hl
  obtain ⟨hx, hb, hr, hml, hown, hts, hK, hlk⟩ := hC
  have hl : lv_has ls 2 [(0, .ref (ad 9 0)), (1, .int p0)] := hl
  rw [← gs_same hm] at hw
  unfold f_X6_isQuestion at h
  have main : JL p l e ({ frames := 0, cells := 0, slots := 0, locals := 0 } : Room) s md args below meth c D cy ad (MQ below (QI D cy ad r M0) args s 0 0 (AD ad)) (gs M0 9 m) 2 [(0, .ref (ad 9 0)), (1, .int p0)] 0 [] := by
    intro H locs hw hS ls hl
    refine lv_iload_n hx hb dX6_isQuestion_0 rfl (lv_at hl 1 rfl) ?_
    refine lv_if_lt (tgt := 18) hx hb dX6_isQuestion_1 (by decide) (fun q1 => ?_) (fun q1 => ?_)
    · replace h := t_pos h q1
      refine lv_iconst (v := nI 0) hx hb dX6_isQuestion_18 (by decide) ?_
      have e1 := Option.some.inj h
      exact e_z hx hb hr hlk (Or.inl rfl) hw hS e1 (gs_same hm) dX6_isQuestion_19
    · replace h := t_neg h q1
      refine lv_iload_n hx hb dX6_isQuestion_4 rfl (lv_at hl 1 rfl) ?_
      refine lv_aload_n hx hb dX6_isQuestion_5 rfl (lv_at hl 0 rfl) ?_
      refine r_get hx hb hts hown hK hw (v_md (by decide)) gs_atc E_md inX6 rfl 0 (by decide) k_544 rfl rfl dX6_isQuestion_6 ?_
      refine lv_iconst (v := nI 1) hx hb dX6_isQuestion_9 (by decide) ?_
      obtain ⟨q2, h⟩ := t_gd h
      refine r_iald hx hb hK hw (v_md (by decide)) gs_atc E_m1 q2 dX6_isQuestion_10 ?_
      refine lv_icmp_ge (tgt := 18) hx hb dX6_isQuestion_11 (by decide) (fun q3 => ?_) (fun q3 => ?_)
      · replace h := t_pos h q3
        refine lv_iconst (v := nI 0) hx hb dX6_isQuestion_18 (by decide) ?_
        have e1 := Option.some.inj h
        exact e_z hx hb hr hlk (Or.inl rfl) hw hS e1 (gs_same hm) dX6_isQuestion_19
      · replace h := t_neg h q3
        refine lv_iconst (v := nI 1) hx hb dX6_isQuestion_14 (by decide) ?_
        refine lv_goto (tgt := 19) hx hb dX6_isQuestion_15 (by decide) ?_
        have e1 := Option.some.inj h
        exact e_z hx hb hr hlk (Or.inr rfl) hw hS e1 (gs_same hm) dX6_isQuestion_19
  exact main _ _ hw hS ls hl

theorem cf_X6_of : cfV RX6 yX6_of cX6_of 3 (some .int) 2 := ⟨⟨k_613, k_s1, k_7, k_614⟩, by decide +kernel⟩
def f_X6_of (m : SM) (p0 : Int32) (p1 : Int32) : Option (Int32) :=
  gd (((nI 4) + ((nI 21) * p0)) + p1) 220 (some (m 1 (((nI 4) + ((nI 21) * p0)) + p1).toNatClampNeg))
set_option maxHeartbeats 4000000 in
set_option maxRecDepth 100000 in
theorem c_X6_of {l : Launch} {D : va_G} {cy : Nat → ClassId} {ad : Nat → Nat → Nat} (hcv : CV ad) {M0 : MM} {m : SM} (hm : M0 9 = m) {p0 p1 : Int32} {r : Int32} (h : f_X6_of m p0 p1 = some r) : Met l yX6_of (.code yX6_of cX6_of 3 (some .int) :: TB) ({ frames := 0, cells := 0, slots := 0, locals := 0 } : Room) (PW D cy ad M0 [.ref (ad 9 0), .int p0, .int p1]) (QI D cy ad r M0) 0 0 (AD ad) := by
  refine m_in (by decide +kernel) (Nat.le_of_ble_eq_true rfl) ?_
  intro p e s md args below meth c hC hw hS ls hl
  obtain ⟨hx, hb, hr, hml, hown, hts, hK, hlk⟩ := hC
  have hl : lv_has ls 3 [(0, .ref (ad 9 0)), (1, .int p0), (2, .int p1)] := hl
  rw [← gs_same hm] at hw
  unfold f_X6_of at h
  have main : JL p l e ({ frames := 0, cells := 0, slots := 0, locals := 0 } : Room) s md args below meth c D cy ad (MQ below (QI D cy ad r M0) args s 0 0 (AD ad)) (gs M0 9 m) 3 [(0, .ref (ad 9 0)), (1, .int p0), (2, .int p1)] 0 [] := by
    intro H locs hw hS ls hl
    refine lv_aload_n hx hb dX6_of_0 rfl (lv_at hl 0 rfl) ?_
    refine r_get hx hb hts hown hK hw (v_md (by decide)) gs_atc E_md inX6 rfl 0 (by decide) k_544 rfl rfl dX6_of_1 ?_
    refine lv_iconst (v := nI 4) hx hb dX6_of_4 (by decide) ?_
    refine lv_bipush (v := nI 21) hx hb dX6_of_5 (by decide) ?_
    refine lv_iload_n hx hb dX6_of_7 rfl (lv_at hl 1 rfl) ?_
    refine lv_imul hx hb dX6_of_8 ?_
    refine lv_iadd hx hb dX6_of_9 ?_
    refine lv_iload_n hx hb dX6_of_10 rfl (lv_at hl 2 rfl) ?_
    refine lv_iadd hx hb dX6_of_11 ?_
    obtain ⟨q1, h⟩ := t_gd h
    refine r_iald hx hb hK hw (v_md (by decide)) gs_atc E_m1 q1 dX6_of_12 ?_
    have e1 := Option.some.inj h
    exact e_i hx hb hr hlk hw hS e1 (gs_same hm) dX6_of_13
  exact main _ _ hw hS ls hl

theorem cf_X6_put : cfV RX6 yX6_put cX6_put 4 none 3 := ⟨⟨k_668, k_s10, k_7, k_669⟩, by decide +kernel⟩
def f_X6_put (m : SM) (p0 : Int32) (p1 : Int32) (p2 : Int32) : Option (Int32 × SM) :=
  gd (((nI 4) + ((nI 21) * p0)) + p1) 220 (lt1 (up m 1 (((nI 4) + ((nI 21) * p0)) + p1).toNatClampNeg p2) fun m3 => some (0, m3))
set_option maxHeartbeats 4000000 in
set_option maxRecDepth 100000 in
theorem c_X6_put {l : Launch} {D : va_G} {cy : Nat → ClassId} {ad : Nat → Nat → Nat} (hcv : CV ad) {M0 : MM} {m : SM} (hm : M0 9 = m) {p0 p1 p2 : Int32} {r : Int32} {x : SM} (h : f_X6_put m p0 p1 p2 = some (r, x)) : Met l yX6_put (.code yX6_put cX6_put 4 none :: TB) ({ frames := 0, cells := 0, slots := 0, locals := 0 } : Room) (PW D cy ad M0 [.ref (ad 9 0), .int p0, .int p1, .int p2]) (QV D cy ad (gs M0 9 x)) 0 0 (AD ad) := by
  refine m_in (by decide +kernel) (Nat.le_of_ble_eq_true rfl) ?_
  intro p e s md args below meth c hC hw hS ls hl
  obtain ⟨hx, hb, hr, hml, hown, hts, hK, hlk⟩ := hC
  have hl : lv_has ls 4 [(0, .ref (ad 9 0)), (1, .int p0), (2, .int p1), (3, .int p2)] := hl
  rw [← gs_same hm] at hw
  unfold f_X6_put at h
  have main : JL p l e ({ frames := 0, cells := 0, slots := 0, locals := 0 } : Room) s md args below meth c D cy ad (MQ below (QV D cy ad (gs M0 9 x)) args s 0 0 (AD ad)) (gs M0 9 m) 4 [(0, .ref (ad 9 0)), (1, .int p0), (2, .int p1), (3, .int p2)] 0 [] := by
    intro H locs hw hS ls hl
    refine lv_aload_n hx hb dX6_put_0 rfl (lv_at hl 0 rfl) ?_
    refine r_get hx hb hts hown hK hw (v_md (by decide)) gs_atc E_md inX6 rfl 0 (by decide) k_544 rfl rfl dX6_put_1 ?_
    refine lv_iconst (v := nI 4) hx hb dX6_put_4 (by decide) ?_
    refine lv_bipush (v := nI 21) hx hb dX6_put_5 (by decide) ?_
    refine lv_iload_n hx hb dX6_put_7 rfl (lv_at hl 1 rfl) ?_
    refine lv_imul hx hb dX6_put_8 ?_
    refine lv_iadd hx hb dX6_put_9 ?_
    refine lv_iload_n hx hb dX6_put_10 rfl (lv_at hl 2 rfl) ?_
    refine lv_iadd hx hb dX6_put_11 ?_
    refine lv_iload_n hx hb dX6_put_12 rfl (lv_at hl 3 rfl) ?_
    obtain ⟨q1, h⟩ := t_gd h
    obtain ⟨m3, e2, h⟩ := t_lt h
    refine r_iast hx hb hK hcv hw hS (v_md (by decide)) gs_atc (fun _ => E_m1) q1 (gs_up e2) dX6_put_13 (fun H locs hw hS => ?_)
    have e1 := (t_ret h).1
    have e2 := (t_ret h).2
    exact e_v hx hb hr hlk hw hS (by rw [e2]) dX6_put_14
  exact main _ _ hw hS ls hl

theorem cf_X6_asked : cfV RX6 yX6_asked cX6_asked 3 (some .int) 2 := ⟨⟨k_676, k_s12, k_7, k_677⟩, by decide +kernel⟩
def f_X6_asked (m : SM) (p0 : Int32) (p1 : Int32) : Option (Int32) :=
  gd (((nI 172) + ((nI 8) * p0)) + p1) 220 (some (m 1 (((nI 172) + ((nI 8) * p0)) + p1).toNatClampNeg))
set_option maxHeartbeats 4000000 in
set_option maxRecDepth 100000 in
theorem c_X6_asked {l : Launch} {D : va_G} {cy : Nat → ClassId} {ad : Nat → Nat → Nat} (hcv : CV ad) {M0 : MM} {m : SM} (hm : M0 9 = m) {p0 p1 : Int32} {r : Int32} (h : f_X6_asked m p0 p1 = some r) : Met l yX6_asked (.code yX6_asked cX6_asked 3 (some .int) :: TB) ({ frames := 0, cells := 0, slots := 0, locals := 0 } : Room) (PW D cy ad M0 [.ref (ad 9 0), .int p0, .int p1]) (QI D cy ad r M0) 0 0 (AD ad) := by
  refine m_in (by decide +kernel) (Nat.le_of_ble_eq_true rfl) ?_
  intro p e s md args below meth c hC hw hS ls hl
  obtain ⟨hx, hb, hr, hml, hown, hts, hK, hlk⟩ := hC
  have hl : lv_has ls 3 [(0, .ref (ad 9 0)), (1, .int p0), (2, .int p1)] := hl
  rw [← gs_same hm] at hw
  unfold f_X6_asked at h
  have main : JL p l e ({ frames := 0, cells := 0, slots := 0, locals := 0 } : Room) s md args below meth c D cy ad (MQ below (QI D cy ad r M0) args s 0 0 (AD ad)) (gs M0 9 m) 3 [(0, .ref (ad 9 0)), (1, .int p0), (2, .int p1)] 0 [] := by
    intro H locs hw hS ls hl
    refine lv_aload_n hx hb dX6_asked_0 rfl (lv_at hl 0 rfl) ?_
    refine r_get hx hb hts hown hK hw (v_md (by decide)) gs_atc E_md inX6 rfl 0 (by decide) k_544 rfl rfl dX6_asked_1 ?_
    refine lv_sipush (v := nI 172) hx hb dX6_asked_4 (by decide) ?_
    refine lv_bipush (v := nI 8) hx hb dX6_asked_7 (by decide) ?_
    refine lv_iload_n hx hb dX6_asked_9 rfl (lv_at hl 1 rfl) ?_
    refine lv_imul hx hb dX6_asked_10 ?_
    refine lv_iadd hx hb dX6_asked_11 ?_
    refine lv_iload_n hx hb dX6_asked_12 rfl (lv_at hl 2 rfl) ?_
    refine lv_iadd hx hb dX6_asked_13 ?_
    obtain ⟨q1, h⟩ := t_gd h
    refine r_iald hx hb hK hw (v_md (by decide)) gs_atc E_m1 q1 dX6_asked_14 ?_
    have e1 := Option.some.inj h
    exact e_i hx hb hr hlk hw hS e1 (gs_same hm) dX6_asked_15
  exact main _ _ hw hS ls hl

theorem cf_X6_putAsked : cfV RX6 yX6_putAsked cX6_putAsked 4 none 3 := ⟨⟨k_712, k_s21, k_7, k_713⟩, by decide +kernel⟩
def f_X6_putAsked (m : SM) (p0 : Int32) (p1 : Int32) (p2 : Int32) : Option (Int32 × SM) :=
  gd (((nI 172) + ((nI 8) * p0)) + p1) 220 (lt1 (up m 1 (((nI 172) + ((nI 8) * p0)) + p1).toNatClampNeg p2) fun m3 => some (0, m3))
set_option maxHeartbeats 4000000 in
set_option maxRecDepth 100000 in
theorem c_X6_putAsked {l : Launch} {D : va_G} {cy : Nat → ClassId} {ad : Nat → Nat → Nat} (hcv : CV ad) {M0 : MM} {m : SM} (hm : M0 9 = m) {p0 p1 p2 : Int32} {r : Int32} {x : SM} (h : f_X6_putAsked m p0 p1 p2 = some (r, x)) : Met l yX6_putAsked (.code yX6_putAsked cX6_putAsked 4 none :: TB) ({ frames := 0, cells := 0, slots := 0, locals := 0 } : Room) (PW D cy ad M0 [.ref (ad 9 0), .int p0, .int p1, .int p2]) (QV D cy ad (gs M0 9 x)) 0 0 (AD ad) := by
  refine m_in (by decide +kernel) (Nat.le_of_ble_eq_true rfl) ?_
  intro p e s md args below meth c hC hw hS ls hl
  obtain ⟨hx, hb, hr, hml, hown, hts, hK, hlk⟩ := hC
  have hl : lv_has ls 4 [(0, .ref (ad 9 0)), (1, .int p0), (2, .int p1), (3, .int p2)] := hl
  rw [← gs_same hm] at hw
  unfold f_X6_putAsked at h
  have main : JL p l e ({ frames := 0, cells := 0, slots := 0, locals := 0 } : Room) s md args below meth c D cy ad (MQ below (QV D cy ad (gs M0 9 x)) args s 0 0 (AD ad)) (gs M0 9 m) 4 [(0, .ref (ad 9 0)), (1, .int p0), (2, .int p1), (3, .int p2)] 0 [] := by
    intro H locs hw hS ls hl
    refine lv_aload_n hx hb dX6_putAsked_0 rfl (lv_at hl 0 rfl) ?_
    refine r_get hx hb hts hown hK hw (v_md (by decide)) gs_atc E_md inX6 rfl 0 (by decide) k_544 rfl rfl dX6_putAsked_1 ?_
    refine lv_sipush (v := nI 172) hx hb dX6_putAsked_4 (by decide) ?_
    refine lv_bipush (v := nI 8) hx hb dX6_putAsked_7 (by decide) ?_
    refine lv_iload_n hx hb dX6_putAsked_9 rfl (lv_at hl 1 rfl) ?_
    refine lv_imul hx hb dX6_putAsked_10 ?_
    refine lv_iadd hx hb dX6_putAsked_11 ?_
    refine lv_iload_n hx hb dX6_putAsked_12 rfl (lv_at hl 2 rfl) ?_
    refine lv_iadd hx hb dX6_putAsked_13 ?_
    refine lv_iload_n hx hb dX6_putAsked_14 rfl (lv_at hl 3 rfl) ?_
    obtain ⟨q1, h⟩ := t_gd h
    obtain ⟨m3, e2, h⟩ := t_lt h
    refine r_iast hx hb hK hcv hw hS (v_md (by decide)) gs_atc (fun _ => E_m1) q1 (gs_up e2) dX6_putAsked_15 (fun H locs hw hS => ?_)
    have e1 := (t_ret h).1
    have e2 := (t_ret h).2
    exact e_v hx hb hr hlk hw hS (by rw [e2]) dX6_putAsked_16
  exact main _ _ hw hS ls hl

theorem cf_X6_record : cfV RX6 yX6_record cX6_record 2 none 0 := ⟨⟨k_621, k_s2, k_7, k_622⟩, by decide +kernel⟩
def f_X6_record_L51 : Nat → SM → Int32 → Option (Int32 × SM)
  | 0, _, _ => none
  | n + 1, m, x1 => (if (nI 220) ≤ x1 then lt1 (up m 0 3 ((m 0 3) + (nI 1))) fun m3 => some (0, m3) else gd x1 220 (gd (((m 0 3) * (nI 220)) + x1) 880 (lt1 (up m 2 (((m 0 3) * (nI 220)) + x1).toNatClampNeg (m 1 x1.toNatClampNeg)) fun m7 => f_X6_record_L51 n m7 (x1 + (nI 1)))))
def f_X6_record_L39 (m : SM) : Option (Int32 × SM) :=
  lt1 (up m 0 3 ((m 0 3) - (nI 1))) fun m2 => f_X6_record_L51 FU m2 (nI 0)
def f_X6_record_L10 : Nat → SM → Int32 → Option (Int32 × SM)
  | 0, _, _ => none
  | n + 1, m, x1 => (if (nI 660) ≤ x1 then f_X6_record_L39 m else gd (x1 + (nI 220)) 880 (gd x1 880 (lt1 (up m 2 x1.toNatClampNeg (m 2 (x1 + (nI 220)).toNatClampNeg)) fun m5 => f_X6_record_L10 n m5 (x1 + (nI 1)))))
def f_X6_record (m : SM) : Option (Int32 × SM) :=
  (if (m 0 3) = (nI 4) then f_X6_record_L10 FU m (nI 0) else f_X6_record_L51 FU m (nI 0))
set_option maxHeartbeats 4000000 in
set_option maxRecDepth 100000 in
theorem c_X6_record {l : Launch} {D : va_G} {cy : Nat → ClassId} {ad : Nat → Nat → Nat} (hcv : CV ad) {M0 : MM} {m : SM} (hm : M0 9 = m) {r : Int32} {x : SM} (h : f_X6_record m = some (r, x)) : Met l yX6_record (.code yX6_record cX6_record 2 none :: TB) ({ frames := 0, cells := 0, slots := 0, locals := 0 } : Room) (PW D cy ad M0 [.ref (ad 9 0)]) (QV D cy ad (gs M0 9 x)) 0 0 (AD ad) := by
  refine m_in (by decide +kernel) (Nat.le_of_ble_eq_true rfl) ?_
  intro p e s md args below meth c hC hw hS ls hl
  obtain ⟨hx, hb, hr, hml, hown, hts, hK, hlk⟩ := hC
  have hl : lv_has ls 2 [(0, .ref (ad 9 0))] := hl
  rw [← gs_same hm] at hw
  have L51 : ∀ (n : Nat), ∀ (m : SM) (x1 : Int32), f_X6_record_L51 n m x1 = some (r, x) → JL p l e ({ frames := 0, cells := 0, slots := 0, locals := 0 } : Room) s md args below meth c D cy ad (MQ below (QV D cy ad (gs M0 9 x)) args s 0 0 (AD ad)) (gs M0 9 m) 2 [(0, .ref (ad 9 0)), (1, .int x1)] 51 [] := by
    intro n
    induction n with
    | zero =>
      intro m x1 h
      cases h
    | succ n ih =>
      intro m x1 h H locs hw hS ls hl
      rw [f_X6_record_L51.eq_2] at h
      refine lv_iload_n hx hb dX6_record_51 rfl (lv_at hl 1 rfl) ?_
      refine lv_sipush (v := nI 220) hx hb dX6_record_52 (by decide) ?_
      refine lv_icmp_ge (tgt := 85) hx hb dX6_record_55 (by decide) (fun q1 => ?_) (fun q1 => ?_)
      · replace h := t_pos h q1
        refine lv_aload_n hx hb dX6_record_85 rfl (lv_at hl 0 rfl) ?_
        refine lv_dup hx hb dX6_record_86 rfl ?_
        refine r_get hx hb hts hown hK hw (v_md (by decide)) gs_atc E_md inX6 rfl 3 (by decide) k_547 rfl rfl dX6_record_87 ?_
        refine lv_iconst (v := nI 1) hx hb dX6_record_90 (by decide) ?_
        refine lv_iadd hx hb dX6_record_91 ?_
        obtain ⟨m3, e2, h⟩ := t_lt h
        refine r_put hx hb hts hown hK hcv hw hS (v_md (by decide)) gs_atc E_md inX6 rfl tyX6 tyX6_ok nmX6 3 (by decide) k_547 rfl rfl rfl rfl (Nat.le_of_ble_eq_true rfl) E_md (gs_up e2) dX6_record_92 (fun H locs hw hS => ?_)
        have e1 := (t_ret h).1
        have e2 := (t_ret h).2
        exact e_v hx hb hr hlk hw hS (by rw [e2]) dX6_record_95
      · replace h := t_neg h q1
        refine lv_aload_n hx hb dX6_record_58 rfl (lv_at hl 0 rfl) ?_
        refine r_get hx hb hts hown hK hw (v_md (by decide)) gs_atc E_md inX6 rfl 1 (by decide) k_545 rfl rfl dX6_record_59 ?_
        refine lv_aload_n hx hb dX6_record_62 rfl (lv_at hl 0 rfl) ?_
        refine r_get hx hb hts hown hK hw (v_md (by decide)) gs_atc E_md inX6 rfl 3 (by decide) k_547 rfl rfl dX6_record_63 ?_
        refine lv_sipush (v := nI 220) hx hb dX6_record_66 (by decide) ?_
        refine lv_imul hx hb dX6_record_69 ?_
        refine lv_iload_n hx hb dX6_record_70 rfl (lv_at hl 1 rfl) ?_
        refine lv_iadd hx hb dX6_record_71 ?_
        refine lv_aload_n hx hb dX6_record_72 rfl (lv_at hl 0 rfl) ?_
        refine r_get hx hb hts hown hK hw (v_md (by decide)) gs_atc E_md inX6 rfl 0 (by decide) k_544 rfl rfl dX6_record_73 ?_
        refine lv_iload_n hx hb dX6_record_76 rfl (lv_at hl 1 rfl) ?_
        obtain ⟨q4, h⟩ := t_gd h
        refine r_iald hx hb hK hw (v_md (by decide)) gs_atc E_m1 q4 dX6_record_77 ?_
        obtain ⟨q5, h⟩ := t_gd h
        obtain ⟨m7, e6, h⟩ := t_lt h
        refine r_iast hx hb hK hcv hw hS (v_md (by decide)) gs_atc (fun _ => E_m2) q5 (gs_up e6) dX6_record_78 (fun H locs hw hS => ?_)
        refine lv_iinc (v := (x1 + (nI 1))) (lv' := [(1, .int (x1 + (nI 1))), (0, .ref (ad 9 0))]) hx hb dX6_record_79 hl (k := 1) rfl rfl (by decide) rfl (fun ls hl => ?_)
        refine lv_goto (tgt := 51) hx hb dX6_record_82 (by decide) ?_
        exact ih m7 (x1 + (nI 1)) h H locs hw hS ls (lv_sub hl [1, 0] rfl)
  have L39 : ∀ (m : SM), f_X6_record_L39 m = some (r, x) → JL p l e ({ frames := 0, cells := 0, slots := 0, locals := 0 } : Room) s md args below meth c D cy ad (MQ below (QV D cy ad (gs M0 9 x)) args s 0 0 (AD ad)) (gs M0 9 m) 2 [(0, .ref (ad 9 0))] 39 [] := by
    intro m h H locs hw hS ls hl
    unfold f_X6_record_L39 at h
    refine lv_aload_n hx hb dX6_record_39 rfl (lv_at hl 0 rfl) ?_
    refine lv_dup hx hb dX6_record_40 rfl ?_
    refine r_get hx hb hts hown hK hw (v_md (by decide)) gs_atc E_md inX6 rfl 3 (by decide) k_547 rfl rfl dX6_record_41 ?_
    refine lv_iconst (v := nI 1) hx hb dX6_record_44 (by decide) ?_
    refine lv_isub hx hb dX6_record_45 ?_
    obtain ⟨m2, e1, h⟩ := t_lt h
    refine r_put hx hb hts hown hK hcv hw hS (v_md (by decide)) gs_atc E_md inX6 rfl tyX6 tyX6_ok nmX6 3 (by decide) k_547 rfl rfl rfl rfl (Nat.le_of_ble_eq_true rfl) E_md (gs_up e1) dX6_record_46 (fun H locs hw hS => ?_)
    refine lv_iconst (v := nI 0) hx hb dX6_record_49 (by decide) ?_
    refine lv_istore_n (lv' := [(1, .int (nI 0)), (0, .ref (ad 9 0))]) hx hb dX6_record_50 rfl hl (by decide) rfl (fun ls hl => ?_)
    exact L51 FU m2 (nI 0) h H locs hw hS ls (lv_sub hl [1, 0] rfl)
  have L10 : ∀ (n : Nat), ∀ (m : SM) (x1 : Int32), f_X6_record_L10 n m x1 = some (r, x) → JL p l e ({ frames := 0, cells := 0, slots := 0, locals := 0 } : Room) s md args below meth c D cy ad (MQ below (QV D cy ad (gs M0 9 x)) args s 0 0 (AD ad)) (gs M0 9 m) 2 [(0, .ref (ad 9 0)), (1, .int x1)] 10 [] := by
    intro n
    induction n with
    | zero =>
      intro m x1 h
      cases h
    | succ n ih =>
      intro m x1 h H locs hw hS ls hl
      rw [f_X6_record_L10.eq_2] at h
      refine lv_iload_n hx hb dX6_record_10 rfl (lv_at hl 1 rfl) ?_
      refine lv_sipush (v := nI 660) hx hb dX6_record_11 (by decide) ?_
      refine lv_icmp_ge (tgt := 39) hx hb dX6_record_14 (by decide) (fun q1 => ?_) (fun q1 => ?_)
      · replace h := t_pos h q1
        exact L39 m h H locs hw hS ls (lv_sub hl [0] rfl)
      · replace h := t_neg h q1
        refine lv_aload_n hx hb dX6_record_17 rfl (lv_at hl 0 rfl) ?_
        refine r_get hx hb hts hown hK hw (v_md (by decide)) gs_atc E_md inX6 rfl 1 (by decide) k_545 rfl rfl dX6_record_18 ?_
        refine lv_iload_n hx hb dX6_record_21 rfl (lv_at hl 1 rfl) ?_
        refine lv_aload_n hx hb dX6_record_22 rfl (lv_at hl 0 rfl) ?_
        refine r_get hx hb hts hown hK hw (v_md (by decide)) gs_atc E_md inX6 rfl 1 (by decide) k_545 rfl rfl dX6_record_23 ?_
        refine lv_iload_n hx hb dX6_record_26 rfl (lv_at hl 1 rfl) ?_
        refine lv_sipush (v := nI 220) hx hb dX6_record_27 (by decide) ?_
        refine lv_iadd hx hb dX6_record_30 ?_
        obtain ⟨q2, h⟩ := t_gd h
        refine r_iald hx hb hK hw (v_md (by decide)) gs_atc E_m2 q2 dX6_record_31 ?_
        obtain ⟨q3, h⟩ := t_gd h
        obtain ⟨m5, e4, h⟩ := t_lt h
        refine r_iast hx hb hK hcv hw hS (v_md (by decide)) gs_atc (fun _ => E_m2) q3 (gs_up e4) dX6_record_32 (fun H locs hw hS => ?_)
        refine lv_iinc (v := (x1 + (nI 1))) (lv' := [(1, .int (x1 + (nI 1))), (0, .ref (ad 9 0))]) hx hb dX6_record_33 hl (k := 1) rfl rfl (by decide) rfl (fun ls hl => ?_)
        refine lv_goto (tgt := 10) hx hb dX6_record_36 (by decide) ?_
        exact ih m5 (x1 + (nI 1)) h H locs hw hS ls (lv_sub hl [1, 0] rfl)
  unfold f_X6_record at h
  have main : JL p l e ({ frames := 0, cells := 0, slots := 0, locals := 0 } : Room) s md args below meth c D cy ad (MQ below (QV D cy ad (gs M0 9 x)) args s 0 0 (AD ad)) (gs M0 9 m) 2 [(0, .ref (ad 9 0))] 0 [] := by
    intro H locs hw hS ls hl
    refine lv_aload_n hx hb dX6_record_0 rfl (lv_at hl 0 rfl) ?_
    refine r_get hx hb hts hown hK hw (v_md (by decide)) gs_atc E_md inX6 rfl 3 (by decide) k_547 rfl rfl dX6_record_1 ?_
    refine lv_iconst (v := nI 4) hx hb dX6_record_4 (by decide) ?_
    refine lv_icmp_ne (tgt := 49) hx hb dX6_record_5 (by decide) (fun q1 => ?_) (fun q1 => ?_)
    · replace h := t_neg h q1
      refine lv_iconst (v := nI 0) hx hb dX6_record_49 (by decide) ?_
      refine lv_istore_n (lv' := [(1, .int (nI 0)), (0, .ref (ad 9 0))]) hx hb dX6_record_50 rfl hl (by decide) rfl (fun ls hl => ?_)
      exact L51 FU m (nI 0) h H locs hw hS ls (lv_sub hl [1, 0] rfl)
    · replace h := t_pos h q1
      refine lv_iconst (v := nI 0) hx hb dX6_record_8 (by decide) ?_
      refine lv_istore_n (lv' := [(1, .int (nI 0)), (0, .ref (ad 9 0))]) hx hb dX6_record_9 rfl hl (by decide) rfl (fun ls hl => ?_)
      exact L10 FU m (nI 0) h H locs hw hS ls (lv_sub hl [1, 0] rfl)
  exact main _ _ hw hS ls hl

theorem cf_X6_undo : cfV RX6 yX6_undo cX6_undo 2 (some .int) 0 := ⟨⟨k_600, k_601, k_7, k_602⟩, by decide +kernel⟩
def f_X6_undo_L22 : Nat → SM → Int32 → Option (Int32 × SM)
  | 0, _, _ => none
  | n + 1, m, x1 => (if (nI 220) ≤ x1 then some ((m 0 3), m) else gd (((m 0 3) * (nI 220)) + x1) 880 (gd x1 220 (lt1 (up m 1 x1.toNatClampNeg (m 2 (((m 0 3) * (nI 220)) + x1).toNatClampNeg)) fun m5 => f_X6_undo_L22 n m5 (x1 + (nI 1)))))
def f_X6_undo (m : SM) : Option (Int32 × SM) :=
  (if (m 0 3) = (nI 0) then some ((-5 : Int32), m) else lt1 (up m 0 3 ((m 0 3) - (nI 1))) fun m3 => f_X6_undo_L22 FU m3 (nI 0))
set_option maxHeartbeats 4000000 in
set_option maxRecDepth 100000 in
theorem c_X6_undo {l : Launch} {D : va_G} {cy : Nat → ClassId} {ad : Nat → Nat → Nat} (hcv : CV ad) {M0 : MM} {m : SM} (hm : M0 9 = m) {r : Int32} {x : SM} (h : f_X6_undo m = some (r, x)) : Met l yX6_undo (.code yX6_undo cX6_undo 2 (some .int) :: TB) ({ frames := 0, cells := 0, slots := 0, locals := 0 } : Room) (PW D cy ad M0 [.ref (ad 9 0)]) (QI D cy ad r (gs M0 9 x)) 0 0 (AD ad) := by
  refine m_in (by decide +kernel) (Nat.le_of_ble_eq_true rfl) ?_
  intro p e s md args below meth c hC hw hS ls hl
  obtain ⟨hx, hb, hr, hml, hown, hts, hK, hlk⟩ := hC
  have hl : lv_has ls 2 [(0, .ref (ad 9 0))] := hl
  rw [← gs_same hm] at hw
  have L22 : ∀ (n : Nat), ∀ (m : SM) (x1 : Int32), f_X6_undo_L22 n m x1 = some (r, x) → JL p l e ({ frames := 0, cells := 0, slots := 0, locals := 0 } : Room) s md args below meth c D cy ad (MQ below (QI D cy ad r (gs M0 9 x)) args s 0 0 (AD ad)) (gs M0 9 m) 2 [(0, .ref (ad 9 0)), (1, .int x1)] 22 [] := by
    intro n
    induction n with
    | zero =>
      intro m x1 h
      cases h
    | succ n ih =>
      intro m x1 h H locs hw hS ls hl
      rw [f_X6_undo_L22.eq_2] at h
      refine lv_iload_n hx hb dX6_undo_22 rfl (lv_at hl 1 rfl) ?_
      refine lv_sipush (v := nI 220) hx hb dX6_undo_23 (by decide) ?_
      refine lv_icmp_ge (tgt := 56) hx hb dX6_undo_26 (by decide) (fun q1 => ?_) (fun q1 => ?_)
      · replace h := t_pos h q1
        refine lv_aload_n hx hb dX6_undo_56 rfl (lv_at hl 0 rfl) ?_
        refine r_get hx hb hts hown hK hw (v_md (by decide)) gs_atc E_md inX6 rfl 3 (by decide) k_547 rfl rfl dX6_undo_57 ?_
        have e1 := (t_ret h).1
        have e2 := (t_ret h).2
        exact e_i hx hb hr hlk hw hS e1 (by rw [e2]) dX6_undo_60
      · replace h := t_neg h q1
        refine lv_aload_n hx hb dX6_undo_29 rfl (lv_at hl 0 rfl) ?_
        refine r_get hx hb hts hown hK hw (v_md (by decide)) gs_atc E_md inX6 rfl 0 (by decide) k_544 rfl rfl dX6_undo_30 ?_
        refine lv_iload_n hx hb dX6_undo_33 rfl (lv_at hl 1 rfl) ?_
        refine lv_aload_n hx hb dX6_undo_34 rfl (lv_at hl 0 rfl) ?_
        refine r_get hx hb hts hown hK hw (v_md (by decide)) gs_atc E_md inX6 rfl 1 (by decide) k_545 rfl rfl dX6_undo_35 ?_
        refine lv_aload_n hx hb dX6_undo_38 rfl (lv_at hl 0 rfl) ?_
        refine r_get hx hb hts hown hK hw (v_md (by decide)) gs_atc E_md inX6 rfl 3 (by decide) k_547 rfl rfl dX6_undo_39 ?_
        refine lv_sipush (v := nI 220) hx hb dX6_undo_42 (by decide) ?_
        refine lv_imul hx hb dX6_undo_45 ?_
        refine lv_iload_n hx hb dX6_undo_46 rfl (lv_at hl 1 rfl) ?_
        refine lv_iadd hx hb dX6_undo_47 ?_
        obtain ⟨q2, h⟩ := t_gd h
        refine r_iald hx hb hK hw (v_md (by decide)) gs_atc E_m2 q2 dX6_undo_48 ?_
        obtain ⟨q3, h⟩ := t_gd h
        obtain ⟨m5, e4, h⟩ := t_lt h
        refine r_iast hx hb hK hcv hw hS (v_md (by decide)) gs_atc (fun _ => E_m1) q3 (gs_up e4) dX6_undo_49 (fun H locs hw hS => ?_)
        refine lv_iinc (v := (x1 + (nI 1))) (lv' := [(1, .int (x1 + (nI 1))), (0, .ref (ad 9 0))]) hx hb dX6_undo_50 hl (k := 1) rfl rfl (by decide) rfl (fun ls hl => ?_)
        refine lv_goto (tgt := 22) hx hb dX6_undo_53 (by decide) ?_
        exact ih m5 (x1 + (nI 1)) h H locs hw hS ls (lv_sub hl [1, 0] rfl)
  unfold f_X6_undo at h
  have main : JL p l e ({ frames := 0, cells := 0, slots := 0, locals := 0 } : Room) s md args below meth c D cy ad (MQ below (QI D cy ad r (gs M0 9 x)) args s 0 0 (AD ad)) (gs M0 9 m) 2 [(0, .ref (ad 9 0))] 0 [] := by
    intro H locs hw hS ls hl
    refine lv_aload_n hx hb dX6_undo_0 rfl (lv_at hl 0 rfl) ?_
    refine r_get hx hb hts hown hK hw (v_md (by decide)) gs_atc E_md inX6 rfl 3 (by decide) k_547 rfl rfl dX6_undo_1 ?_
    refine lv_if_ne (tgt := 10) hx hb dX6_undo_4 (by decide) (fun q1 => ?_) (fun q1 => ?_)
    · replace h := t_neg h q1
      refine lv_aload_n hx hb dX6_undo_10 rfl (lv_at hl 0 rfl) ?_
      refine lv_dup hx hb dX6_undo_11 rfl ?_
      refine r_get hx hb hts hown hK hw (v_md (by decide)) gs_atc E_md inX6 rfl 3 (by decide) k_547 rfl rfl dX6_undo_12 ?_
      refine lv_iconst (v := nI 1) hx hb dX6_undo_15 (by decide) ?_
      refine lv_isub hx hb dX6_undo_16 ?_
      obtain ⟨m3, e2, h⟩ := t_lt h
      refine r_put hx hb hts hown hK hcv hw hS (v_md (by decide)) gs_atc E_md inX6 rfl tyX6 tyX6_ok nmX6 3 (by decide) k_547 rfl rfl rfl rfl (Nat.le_of_ble_eq_true rfl) E_md (gs_up e2) dX6_undo_17 (fun H locs hw hS => ?_)
      refine lv_iconst (v := nI 0) hx hb dX6_undo_20 (by decide) ?_
      refine lv_istore_n (lv' := [(1, .int (nI 0)), (0, .ref (ad 9 0))]) hx hb dX6_undo_21 rfl hl (by decide) rfl (fun ls hl => ?_)
      exact L22 FU m3 (nI 0) h H locs hw hS ls (lv_sub hl [1, 0] rfl)
    · replace h := t_pos h q1
      refine lv_bipush (v := -5) hx hb dX6_undo_7 (by decide) ?_
      have e1 := (t_ret h).1
      have e2 := (t_ret h).2
      exact e_i hx hb hr hlk hw hS e1 (by rw [e2]) dX6_undo_9
  exact main _ _ hw hS ls hl

theorem cf_X6_allOf : cfV RX6 yX6_allOf cX6_allOf 4 (some .int) 1 := ⟨⟨k_609, k_s0, k_7, k_610⟩, by decide +kernel⟩
def f_X6_allOf_L4 (m : SM) (p0 : Int32) : Nat → Int32 → Int32 → Option (Int32)
  | 0, _, _ => none
  | n + 1, x2, x3 => gd (nI 0) 220 ((if (m 1 (nI 0).toNatClampNeg) ≤ x3 then some x2 else b1 (f_X6_of m x3 p0) fun r4 => f_X6_allOf_L4 m p0 n (x2 + r4) (x3 + (nI 1))))
def f_X6_allOf (m : SM) (p0 : Int32) : Option (Int32) :=
  f_X6_allOf_L4 m p0 FU (nI 0) (nI 0)
set_option maxHeartbeats 4000000 in
set_option maxRecDepth 100000 in
theorem c_X6_allOf {l : Launch} {D : va_G} {cy : Nat → ClassId} {ad : Nat → Nat → Nat} (hcv : CV ad) {M0 : MM} {m : SM} (hm : M0 9 = m) {p0 : Int32} {r : Int32} (h : f_X6_allOf m p0 = some r) : Met l yX6_allOf (.code yX6_allOf cX6_allOf 4 (some .int) :: TB) ({ frames := 1, cells := 0, slots := 0, locals := 22 } : Room) (PW D cy ad M0 [.ref (ad 9 0), .int p0]) (QI D cy ad r M0) 0 0 (AD ad) := by
  refine m_in (by decide +kernel) (Nat.le_of_ble_eq_true rfl) ?_
  intro p e s md args below meth c hC hw hS ls hl
  obtain ⟨hx, hb, hr, hml, hown, hts, hK, hlk⟩ := hC
  have hl : lv_has ls 4 [(0, .ref (ad 9 0)), (1, .int p0)] := hl
  rw [← gs_same hm] at hw
  have L4 : ∀ (n : Nat), ∀ (x2 : Int32) (x3 : Int32), f_X6_allOf_L4 m p0 n x2 x3 = some r → JL p l e ({ frames := 1, cells := 0, slots := 0, locals := 22 } : Room) s md args below meth c D cy ad (MQ below (QI D cy ad r M0) args s 0 0 (AD ad)) (gs M0 9 m) 4 [(0, .ref (ad 9 0)), (1, .int p0), (2, .int x2), (3, .int x3)] 4 [] := by
    intro n
    induction n with
    | zero =>
      intro x2 x3 h
      cases h
    | succ n ih =>
      intro x2 x3 h H locs hw hS ls hl
      rw [f_X6_allOf_L4.eq_2] at h
      refine lv_iload_n hx hb dX6_allOf_4 rfl (lv_at hl 3 rfl) ?_
      refine lv_aload_n hx hb dX6_allOf_5 rfl (lv_at hl 0 rfl) ?_
      refine r_get hx hb hts hown hK hw (v_md (by decide)) gs_atc E_md inX6 rfl 0 (by decide) k_544 rfl rfl dX6_allOf_6 ?_
      refine lv_iconst (v := nI 0) hx hb dX6_allOf_9 (by decide) ?_
      obtain ⟨q1, h⟩ := t_gd h
      refine r_iald hx hb hK hw (v_md (by decide)) gs_atc E_m1 q1 dX6_allOf_10 ?_
      refine lv_icmp_ge (tgt := 29) hx hb dX6_allOf_11 (by decide) (fun q2 => ?_) (fun q2 => ?_)
      · replace h := t_pos h q2
        refine lv_iload_n hx hb dX6_allOf_29 rfl (lv_at hl 2 rfl) ?_
        have e1 := Option.some.inj h
        exact e_i hx hb hr hlk hw hS e1 (gs_same hm) dX6_allOf_30
      · replace h := t_neg h q2
        refine lv_iload_n hx hb dX6_allOf_14 rfl (lv_at hl 2 rfl) ?_
        refine lv_aload_n hx hb dX6_allOf_15 rfl (lv_at hl 0 rfl) ?_
        refine lv_iload_n hx hb dX6_allOf_16 rfl (lv_at hl 3 rfl) ?_
        refine lv_iload_n hx hb dX6_allOf_17 rfl (lv_at hl 1 rfl) ?_
        obtain ⟨r4, y3, h⟩ := t_b1 h
        refine c_vi hx hb hml hown hts hK hw hS (fun _ h => h) (As := [.int x3, .int p0]) (rest := [.int x2]) (c_X6_of hcv (M0 := gs M0 9 m) (m := m) (hm := gs_at) y3) cf_X6_of k_611 rfl rfl ⟨Nat.le_of_ble_eq_true rfl, Nat.le_of_ble_eq_true rfl⟩ (r_recv hK hw (v_md (by decide)) E_md rfl) rfl hl.1 rfl (Nat.le_of_ble_eq_true rfl) ⟨Nat.le_refl _, Nat.le_refl _⟩ dX6_allOf_18 (fun H locs hw hS => ?_)
        refine lv_iadd hx hb dX6_allOf_21 ?_
        refine lv_istore_n (lv' := [(2, .int (x2 + r4)), (0, .ref (ad 9 0)), (1, .int p0), (3, .int x3)]) hx hb dX6_allOf_22 rfl hl (by decide) rfl (fun ls hl => ?_)
        refine lv_iinc (v := (x3 + (nI 1))) (lv' := [(3, .int (x3 + (nI 1))), (2, .int (x2 + r4)), (0, .ref (ad 9 0)), (1, .int p0)]) hx hb dX6_allOf_23 hl (k := 3) rfl rfl (by decide) rfl (fun ls hl => ?_)
        refine lv_goto (tgt := 4) hx hb dX6_allOf_26 (by decide) ?_
        exact ih (x2 + r4) (x3 + (nI 1)) h H locs hw hS ls (lv_sub hl [2, 3, 1, 0] rfl)
  unfold f_X6_allOf at h
  have main : JL p l e ({ frames := 1, cells := 0, slots := 0, locals := 22 } : Room) s md args below meth c D cy ad (MQ below (QI D cy ad r M0) args s 0 0 (AD ad)) (gs M0 9 m) 4 [(0, .ref (ad 9 0)), (1, .int p0)] 0 [] := by
    intro H locs hw hS ls hl
    refine lv_iconst (v := nI 0) hx hb dX6_allOf_0 (by decide) ?_
    refine lv_istore_n (lv' := [(2, .int (nI 0)), (0, .ref (ad 9 0)), (1, .int p0)]) hx hb dX6_allOf_1 rfl hl (by decide) rfl (fun ls hl => ?_)
    refine lv_iconst (v := nI 0) hx hb dX6_allOf_2 (by decide) ?_
    refine lv_istore_n (lv' := [(3, .int (nI 0)), (2, .int (nI 0)), (0, .ref (ad 9 0)), (1, .int p0)]) hx hb dX6_allOf_3 rfl hl (by decide) rfl (fun ls hl => ?_)
    exact L4 FU (nI 0) (nI 0) h H locs hw hS ls (lv_sub hl [2, 3, 1, 0] rfl)
  exact main _ _ hw hS ls hl

theorem cf_X6_keep : cfV RX6 yX6_keep cX6_keep 2 (some .int) 0 := ⟨⟨k_604, k_605, k_7, k_606⟩, by decide +kernel⟩
def f_X6_keep_L7 : Nat → SM → Int32 → Option (Int32 × SM)
  | 0, _, _ => none
  | n + 1, m, x1 => (if (nI 220) ≤ x1 then b1 (f_X6_allOf m (nI 4)) fun r3 => some (r3, m) else gd x1 220 (gd x1 220 (lt1 (up m 3 x1.toNatClampNeg (m 1 x1.toNatClampNeg)) fun m7 => f_X6_keep_L7 n m7 (x1 + (nI 1)))))
def f_X6_keep (m : SM) : Option (Int32 × SM) :=
  lt1 (up m 0 4 (nI 1)) fun m2 => f_X6_keep_L7 FU m2 (nI 0)
set_option maxHeartbeats 4000000 in
set_option maxRecDepth 100000 in
theorem c_X6_keep {l : Launch} {D : va_G} {cy : Nat → ClassId} {ad : Nat → Nat → Nat} (hcv : CV ad) {M0 : MM} {m : SM} (hm : M0 9 = m) {r : Int32} {x : SM} (h : f_X6_keep m = some (r, x)) : Met l yX6_keep (.code yX6_keep cX6_keep 2 (some .int) :: TB) ({ frames := 2, cells := 0, slots := 0, locals := 45 } : Room) (PW D cy ad M0 [.ref (ad 9 0)]) (QI D cy ad r (gs M0 9 x)) 0 0 (AD ad) := by
  refine m_in (by decide +kernel) (Nat.le_of_ble_eq_true rfl) ?_
  intro p e s md args below meth c hC hw hS ls hl
  obtain ⟨hx, hb, hr, hml, hown, hts, hK, hlk⟩ := hC
  have hl : lv_has ls 2 [(0, .ref (ad 9 0))] := hl
  rw [← gs_same hm] at hw
  have L7 : ∀ (n : Nat), ∀ (m : SM) (x1 : Int32), f_X6_keep_L7 n m x1 = some (r, x) → JL p l e ({ frames := 2, cells := 0, slots := 0, locals := 45 } : Room) s md args below meth c D cy ad (MQ below (QI D cy ad r (gs M0 9 x)) args s 0 0 (AD ad)) (gs M0 9 m) 2 [(0, .ref (ad 9 0)), (1, .int x1)] 7 [] := by
    intro n
    induction n with
    | zero =>
      intro m x1 h
      cases h
    | succ n ih =>
      intro m x1 h H locs hw hS ls hl
      rw [f_X6_keep_L7.eq_2] at h
      refine lv_iload_n hx hb dX6_keep_7 rfl (lv_at hl 1 rfl) ?_
      refine lv_sipush (v := nI 220) hx hb dX6_keep_8 (by decide) ?_
      refine lv_icmp_ge (tgt := 32) hx hb dX6_keep_11 (by decide) (fun q1 => ?_) (fun q1 => ?_)
      · replace h := t_pos h q1
        refine lv_aload_n hx hb dX6_keep_32 rfl (lv_at hl 0 rfl) ?_
        refine lv_iconst (v := nI 4) hx hb dX6_keep_33 (by decide) ?_
        obtain ⟨r3, y2, h⟩ := t_b1 h
        refine c_vi hx hb hml hown hts hK hw hS (fun _ h => h) (As := [.int (nI 4)]) (rest := []) (c_X6_allOf hcv (M0 := gs M0 9 m) (m := m) (hm := gs_at) y2) cf_X6_allOf k_607 rfl rfl ⟨Nat.le_of_ble_eq_true rfl, Nat.le_of_ble_eq_true rfl⟩ (r_recv hK hw (v_md (by decide)) E_md rfl) rfl hl.1 rfl (Nat.le_of_ble_eq_true rfl) ⟨Nat.le_refl _, Nat.le_refl _⟩ dX6_keep_34 (fun H locs hw hS => ?_)
        have e1 := (t_ret h).1
        have e2 := (t_ret h).2
        exact e_i hx hb hr hlk hw hS e1 (by rw [e2]) dX6_keep_37
      · replace h := t_neg h q1
        refine lv_aload_n hx hb dX6_keep_14 rfl (lv_at hl 0 rfl) ?_
        refine r_get hx hb hts hown hK hw (v_md (by decide)) gs_atc E_md inX6 rfl 2 (by decide) k_546 rfl rfl dX6_keep_15 ?_
        refine lv_iload_n hx hb dX6_keep_18 rfl (lv_at hl 1 rfl) ?_
        refine lv_aload_n hx hb dX6_keep_19 rfl (lv_at hl 0 rfl) ?_
        refine r_get hx hb hts hown hK hw (v_md (by decide)) gs_atc E_md inX6 rfl 0 (by decide) k_544 rfl rfl dX6_keep_20 ?_
        refine lv_iload_n hx hb dX6_keep_23 rfl (lv_at hl 1 rfl) ?_
        obtain ⟨q4, h⟩ := t_gd h
        refine r_iald hx hb hK hw (v_md (by decide)) gs_atc E_m1 q4 dX6_keep_24 ?_
        obtain ⟨q5, h⟩ := t_gd h
        obtain ⟨m7, e6, h⟩ := t_lt h
        refine r_iast hx hb hK hcv hw hS (v_md (by decide)) gs_atc (fun _ => E_m3) q5 (gs_up e6) dX6_keep_25 (fun H locs hw hS => ?_)
        refine lv_iinc (v := (x1 + (nI 1))) (lv' := [(1, .int (x1 + (nI 1))), (0, .ref (ad 9 0))]) hx hb dX6_keep_26 hl (k := 1) rfl rfl (by decide) rfl (fun ls hl => ?_)
        refine lv_goto (tgt := 7) hx hb dX6_keep_29 (by decide) ?_
        exact ih m7 (x1 + (nI 1)) h H locs hw hS ls (lv_sub hl [1, 0] rfl)
  unfold f_X6_keep at h
  have main : JL p l e ({ frames := 2, cells := 0, slots := 0, locals := 45 } : Room) s md args below meth c D cy ad (MQ below (QI D cy ad r (gs M0 9 x)) args s 0 0 (AD ad)) (gs M0 9 m) 2 [(0, .ref (ad 9 0))] 0 [] := by
    intro H locs hw hS ls hl
    refine lv_aload_n hx hb dX6_keep_0 rfl (lv_at hl 0 rfl) ?_
    refine lv_iconst (v := nI 1) hx hb dX6_keep_1 (by decide) ?_
    obtain ⟨m2, e1, h⟩ := t_lt h
    refine r_put hx hb hts hown hK hcv hw hS (v_md (by decide)) gs_atc E_md inX6 rfl tyX6 tyX6_ok nmX6 4 (by decide) k_548 rfl rfl rfl rfl (Nat.le_of_ble_eq_true rfl) E_md (gs_up e1) dX6_keep_2 (fun H locs hw hS => ?_)
    refine lv_iconst (v := nI 0) hx hb dX6_keep_5 (by decide) ?_
    refine lv_istore_n (lv' := [(1, .int (nI 0)), (0, .ref (ad 9 0))]) hx hb dX6_keep_6 rfl hl (by decide) rfl (fun ls hl => ?_)
    exact L7 FU m2 (nI 0) h H locs hw hS ls (lv_sub hl [1, 0] rfl)
  exact main _ _ hw hS ls hl

theorem cf_X6_restore : cfV RX6 yX6_restore cX6_restore 2 (some .int) 0 := ⟨⟨k_616, k_617, k_7, k_618⟩, by decide +kernel⟩
def f_X6_restore_L16 : Nat → SM → Int32 → Option (Int32 × SM)
  | 0, _, _ => none
  | n + 1, m, x1 => (if (nI 220) ≤ x1 then b1 (f_X6_allOf m (nI 4)) fun r3 => some (r3, m) else gd x1 220 (gd x1 220 (lt1 (up m 1 x1.toNatClampNeg (m 3 x1.toNatClampNeg)) fun m7 => f_X6_restore_L16 n m7 (x1 + (nI 1)))))
def f_X6_restore (m : SM) : Option (Int32 × SM) :=
  (if (m 0 4) = (nI 0) then some ((-5 : Int32), m) else bd (f_X6_record m) fun r3 m4 => f_X6_restore_L16 FU m4 (nI 0))
set_option maxHeartbeats 4000000 in
set_option maxRecDepth 100000 in
theorem c_X6_restore {l : Launch} {D : va_G} {cy : Nat → ClassId} {ad : Nat → Nat → Nat} (hcv : CV ad) {M0 : MM} {m : SM} (hm : M0 9 = m) {r : Int32} {x : SM} (h : f_X6_restore m = some (r, x)) : Met l yX6_restore (.code yX6_restore cX6_restore 2 (some .int) :: TB) ({ frames := 2, cells := 0, slots := 0, locals := 45 } : Room) (PW D cy ad M0 [.ref (ad 9 0)]) (QI D cy ad r (gs M0 9 x)) 0 0 (AD ad) := by
  refine m_in (by decide +kernel) (Nat.le_of_ble_eq_true rfl) ?_
  intro p e s md args below meth c hC hw hS ls hl
  obtain ⟨hx, hb, hr, hml, hown, hts, hK, hlk⟩ := hC
  have hl : lv_has ls 2 [(0, .ref (ad 9 0))] := hl
  rw [← gs_same hm] at hw
  have L16 : ∀ (n : Nat), ∀ (m : SM) (x1 : Int32), f_X6_restore_L16 n m x1 = some (r, x) → JL p l e ({ frames := 2, cells := 0, slots := 0, locals := 45 } : Room) s md args below meth c D cy ad (MQ below (QI D cy ad r (gs M0 9 x)) args s 0 0 (AD ad)) (gs M0 9 m) 2 [(0, .ref (ad 9 0)), (1, .int x1)] 16 [] := by
    intro n
    induction n with
    | zero =>
      intro m x1 h
      cases h
    | succ n ih =>
      intro m x1 h H locs hw hS ls hl
      rw [f_X6_restore_L16.eq_2] at h
      refine lv_iload_n hx hb dX6_restore_16 rfl (lv_at hl 1 rfl) ?_
      refine lv_sipush (v := nI 220) hx hb dX6_restore_17 (by decide) ?_
      refine lv_icmp_ge (tgt := 41) hx hb dX6_restore_20 (by decide) (fun q1 => ?_) (fun q1 => ?_)
      · replace h := t_pos h q1
        refine lv_aload_n hx hb dX6_restore_41 rfl (lv_at hl 0 rfl) ?_
        refine lv_iconst (v := nI 4) hx hb dX6_restore_42 (by decide) ?_
        obtain ⟨r3, y2, h⟩ := t_b1 h
        refine c_vi hx hb hml hown hts hK hw hS (fun _ h => h) (As := [.int (nI 4)]) (rest := []) (c_X6_allOf hcv (M0 := gs M0 9 m) (m := m) (hm := gs_at) y2) cf_X6_allOf k_607 rfl rfl ⟨Nat.le_of_ble_eq_true rfl, Nat.le_of_ble_eq_true rfl⟩ (r_recv hK hw (v_md (by decide)) E_md rfl) rfl hl.1 rfl (Nat.le_of_ble_eq_true rfl) ⟨Nat.le_refl _, Nat.le_refl _⟩ dX6_restore_43 (fun H locs hw hS => ?_)
        have e1 := (t_ret h).1
        have e2 := (t_ret h).2
        exact e_i hx hb hr hlk hw hS e1 (by rw [e2]) dX6_restore_46
      · replace h := t_neg h q1
        refine lv_aload_n hx hb dX6_restore_23 rfl (lv_at hl 0 rfl) ?_
        refine r_get hx hb hts hown hK hw (v_md (by decide)) gs_atc E_md inX6 rfl 0 (by decide) k_544 rfl rfl dX6_restore_24 ?_
        refine lv_iload_n hx hb dX6_restore_27 rfl (lv_at hl 1 rfl) ?_
        refine lv_aload_n hx hb dX6_restore_28 rfl (lv_at hl 0 rfl) ?_
        refine r_get hx hb hts hown hK hw (v_md (by decide)) gs_atc E_md inX6 rfl 2 (by decide) k_546 rfl rfl dX6_restore_29 ?_
        refine lv_iload_n hx hb dX6_restore_32 rfl (lv_at hl 1 rfl) ?_
        obtain ⟨q4, h⟩ := t_gd h
        refine r_iald hx hb hK hw (v_md (by decide)) gs_atc E_m3 q4 dX6_restore_33 ?_
        obtain ⟨q5, h⟩ := t_gd h
        obtain ⟨m7, e6, h⟩ := t_lt h
        refine r_iast hx hb hK hcv hw hS (v_md (by decide)) gs_atc (fun _ => E_m1) q5 (gs_up e6) dX6_restore_34 (fun H locs hw hS => ?_)
        refine lv_iinc (v := (x1 + (nI 1))) (lv' := [(1, .int (x1 + (nI 1))), (0, .ref (ad 9 0))]) hx hb dX6_restore_35 hl (k := 1) rfl rfl (by decide) rfl (fun ls hl => ?_)
        refine lv_goto (tgt := 16) hx hb dX6_restore_38 (by decide) ?_
        exact ih m7 (x1 + (nI 1)) h H locs hw hS ls (lv_sub hl [1, 0] rfl)
  unfold f_X6_restore at h
  have main : JL p l e ({ frames := 2, cells := 0, slots := 0, locals := 45 } : Room) s md args below meth c D cy ad (MQ below (QI D cy ad r (gs M0 9 x)) args s 0 0 (AD ad)) (gs M0 9 m) 2 [(0, .ref (ad 9 0))] 0 [] := by
    intro H locs hw hS ls hl
    refine lv_aload_n hx hb dX6_restore_0 rfl (lv_at hl 0 rfl) ?_
    refine r_get hx hb hts hown hK hw (v_md (by decide)) gs_atc E_md inX6 rfl 4 (by decide) k_548 rfl rfl dX6_restore_1 ?_
    refine lv_if_ne (tgt := 10) hx hb dX6_restore_4 (by decide) (fun q1 => ?_) (fun q1 => ?_)
    · replace h := t_neg h q1
      refine lv_aload_n hx hb dX6_restore_10 rfl (lv_at hl 0 rfl) ?_
      obtain ⟨r3, m4, y2, h⟩ := t_bd h
      refine c_vv hx hb hml hown hts hK hw hS (fun _ h => h) (As := []) (rest := []) (c_X6_record hcv (M0 := gs M0 9 m) (m := m) (hm := gs_at) y2) cf_X6_record k_619 rfl rfl ⟨Nat.le_of_ble_eq_true rfl, Nat.le_of_ble_eq_true rfl⟩ (r_recv hK hw (v_md (by decide)) E_md rfl) rfl hl.1 rfl (Nat.le_of_ble_eq_true rfl) ⟨Nat.le_refl _, Nat.le_refl _⟩ dX6_restore_11 (fun H locs hw hS => ?_)
      rw [gs_gs] at hw
      refine lv_iconst (v := nI 0) hx hb dX6_restore_14 (by decide) ?_
      refine lv_istore_n (lv' := [(1, .int (nI 0)), (0, .ref (ad 9 0))]) hx hb dX6_restore_15 rfl hl (by decide) rfl (fun ls hl => ?_)
      exact L16 FU m4 (nI 0) h H locs hw hS ls (lv_sub hl [1, 0] rfl)
    · replace h := t_pos h q1
      refine lv_bipush (v := -5) hx hb dX6_restore_7 (by decide) ?_
      have e1 := (t_ret h).1
      have e2 := (t_ret h).2
      exact e_i hx hb hr hlk hw hS e1 (by rw [e2]) dX6_restore_9
  exact main _ _ hw hS ls hl

theorem cf_X6_putAside : cfV RX6 yX6_putAside cX6_putAside 2 none 0 := ⟨⟨k_837, k_s35, k_7, k_838⟩, by decide +kernel⟩
def f_X6_putAside_L2 : Nat → SM → Int32 → Option (Int32 × SM)
  | 0, _, _ => none
  | n + 1, m, x1 => (if (nI 220) ≤ x1 then some (0, m) else gd x1 220 (gd x1 220 (lt1 (up m 4 x1.toNatClampNeg (m 1 x1.toNatClampNeg)) fun m5 => f_X6_putAside_L2 n m5 (x1 + (nI 1)))))
def f_X6_putAside (m : SM) : Option (Int32 × SM) :=
  f_X6_putAside_L2 FU m (nI 0)
set_option maxHeartbeats 4000000 in
set_option maxRecDepth 100000 in
theorem c_X6_putAside {l : Launch} {D : va_G} {cy : Nat → ClassId} {ad : Nat → Nat → Nat} (hcv : CV ad) {M0 : MM} {m : SM} (hm : M0 9 = m) {r : Int32} {x : SM} (h : f_X6_putAside m = some (r, x)) : Met l yX6_putAside (.code yX6_putAside cX6_putAside 2 none :: TB) ({ frames := 0, cells := 0, slots := 0, locals := 0 } : Room) (PW D cy ad M0 [.ref (ad 9 0)]) (QV D cy ad (gs M0 9 x)) 0 0 (AD ad) := by
  refine m_in (by decide +kernel) (Nat.le_of_ble_eq_true rfl) ?_
  intro p e s md args below meth c hC hw hS ls hl
  obtain ⟨hx, hb, hr, hml, hown, hts, hK, hlk⟩ := hC
  have hl : lv_has ls 2 [(0, .ref (ad 9 0))] := hl
  rw [← gs_same hm] at hw
  have L2 : ∀ (n : Nat), ∀ (m : SM) (x1 : Int32), f_X6_putAside_L2 n m x1 = some (r, x) → JL p l e ({ frames := 0, cells := 0, slots := 0, locals := 0 } : Room) s md args below meth c D cy ad (MQ below (QV D cy ad (gs M0 9 x)) args s 0 0 (AD ad)) (gs M0 9 m) 2 [(0, .ref (ad 9 0)), (1, .int x1)] 2 [] := by
    intro n
    induction n with
    | zero =>
      intro m x1 h
      cases h
    | succ n ih =>
      intro m x1 h H locs hw hS ls hl
      rw [f_X6_putAside_L2.eq_2] at h
      refine lv_iload_n hx hb dX6_putAside_2 rfl (lv_at hl 1 rfl) ?_
      refine lv_sipush (v := nI 220) hx hb dX6_putAside_3 (by decide) ?_
      refine lv_icmp_ge (tgt := 27) hx hb dX6_putAside_6 (by decide) (fun q1 => ?_) (fun q1 => ?_)
      · replace h := t_pos h q1
        have e1 := (t_ret h).1
        have e2 := (t_ret h).2
        exact e_v hx hb hr hlk hw hS (by rw [e2]) dX6_putAside_27
      · replace h := t_neg h q1
        refine lv_aload_n hx hb dX6_putAside_9 rfl (lv_at hl 0 rfl) ?_
        refine r_get hx hb hts hown hK hw (v_md (by decide)) gs_atc E_md inX6 rfl 5 (by decide) k_549 rfl rfl dX6_putAside_10 ?_
        refine lv_iload_n hx hb dX6_putAside_13 rfl (lv_at hl 1 rfl) ?_
        refine lv_aload_n hx hb dX6_putAside_14 rfl (lv_at hl 0 rfl) ?_
        refine r_get hx hb hts hown hK hw (v_md (by decide)) gs_atc E_md inX6 rfl 0 (by decide) k_544 rfl rfl dX6_putAside_15 ?_
        refine lv_iload_n hx hb dX6_putAside_18 rfl (lv_at hl 1 rfl) ?_
        obtain ⟨q2, h⟩ := t_gd h
        refine r_iald hx hb hK hw (v_md (by decide)) gs_atc E_m1 q2 dX6_putAside_19 ?_
        obtain ⟨q3, h⟩ := t_gd h
        obtain ⟨m5, e4, h⟩ := t_lt h
        refine r_iast hx hb hK hcv hw hS (v_md (by decide)) gs_atc (fun _ => E_m4) q3 (gs_up e4) dX6_putAside_20 (fun H locs hw hS => ?_)
        refine lv_iinc (v := (x1 + (nI 1))) (lv' := [(1, .int (x1 + (nI 1))), (0, .ref (ad 9 0))]) hx hb dX6_putAside_21 hl (k := 1) rfl rfl (by decide) rfl (fun ls hl => ?_)
        refine lv_goto (tgt := 2) hx hb dX6_putAside_24 (by decide) ?_
        exact ih m5 (x1 + (nI 1)) h H locs hw hS ls (lv_sub hl [1, 0] rfl)
  unfold f_X6_putAside at h
  have main : JL p l e ({ frames := 0, cells := 0, slots := 0, locals := 0 } : Room) s md args below meth c D cy ad (MQ below (QV D cy ad (gs M0 9 x)) args s 0 0 (AD ad)) (gs M0 9 m) 2 [(0, .ref (ad 9 0))] 0 [] := by
    intro H locs hw hS ls hl
    refine lv_iconst (v := nI 0) hx hb dX6_putAside_0 (by decide) ?_
    refine lv_istore_n (lv' := [(1, .int (nI 0)), (0, .ref (ad 9 0))]) hx hb dX6_putAside_1 rfl hl (by decide) rfl (fun ls hl => ?_)
    exact L2 FU m (nI 0) h H locs hw hS ls (lv_sub hl [1, 0] rfl)
  exact main _ _ hw hS ls hl

theorem cf_X6_bringBack : cfV RX6 yX6_bringBack cX6_bringBack 2 none 0 := ⟨⟨k_841, k_s36, k_7, k_842⟩, by decide +kernel⟩
def f_X6_bringBack_L2 : Nat → SM → Int32 → Option (Int32 × SM)
  | 0, _, _ => none
  | n + 1, m, x1 => (if (nI 220) ≤ x1 then some (0, m) else gd x1 220 (gd x1 220 (lt1 (up m 1 x1.toNatClampNeg (m 4 x1.toNatClampNeg)) fun m5 => f_X6_bringBack_L2 n m5 (x1 + (nI 1)))))
def f_X6_bringBack (m : SM) : Option (Int32 × SM) :=
  f_X6_bringBack_L2 FU m (nI 0)
set_option maxHeartbeats 4000000 in
set_option maxRecDepth 100000 in
theorem c_X6_bringBack {l : Launch} {D : va_G} {cy : Nat → ClassId} {ad : Nat → Nat → Nat} (hcv : CV ad) {M0 : MM} {m : SM} (hm : M0 9 = m) {r : Int32} {x : SM} (h : f_X6_bringBack m = some (r, x)) : Met l yX6_bringBack (.code yX6_bringBack cX6_bringBack 2 none :: TB) ({ frames := 0, cells := 0, slots := 0, locals := 0 } : Room) (PW D cy ad M0 [.ref (ad 9 0)]) (QV D cy ad (gs M0 9 x)) 0 0 (AD ad) := by
  refine m_in (by decide +kernel) (Nat.le_of_ble_eq_true rfl) ?_
  intro p e s md args below meth c hC hw hS ls hl
  obtain ⟨hx, hb, hr, hml, hown, hts, hK, hlk⟩ := hC
  have hl : lv_has ls 2 [(0, .ref (ad 9 0))] := hl
  rw [← gs_same hm] at hw
  have L2 : ∀ (n : Nat), ∀ (m : SM) (x1 : Int32), f_X6_bringBack_L2 n m x1 = some (r, x) → JL p l e ({ frames := 0, cells := 0, slots := 0, locals := 0 } : Room) s md args below meth c D cy ad (MQ below (QV D cy ad (gs M0 9 x)) args s 0 0 (AD ad)) (gs M0 9 m) 2 [(0, .ref (ad 9 0)), (1, .int x1)] 2 [] := by
    intro n
    induction n with
    | zero =>
      intro m x1 h
      cases h
    | succ n ih =>
      intro m x1 h H locs hw hS ls hl
      rw [f_X6_bringBack_L2.eq_2] at h
      refine lv_iload_n hx hb dX6_bringBack_2 rfl (lv_at hl 1 rfl) ?_
      refine lv_sipush (v := nI 220) hx hb dX6_bringBack_3 (by decide) ?_
      refine lv_icmp_ge (tgt := 27) hx hb dX6_bringBack_6 (by decide) (fun q1 => ?_) (fun q1 => ?_)
      · replace h := t_pos h q1
        have e1 := (t_ret h).1
        have e2 := (t_ret h).2
        exact e_v hx hb hr hlk hw hS (by rw [e2]) dX6_bringBack_27
      · replace h := t_neg h q1
        refine lv_aload_n hx hb dX6_bringBack_9 rfl (lv_at hl 0 rfl) ?_
        refine r_get hx hb hts hown hK hw (v_md (by decide)) gs_atc E_md inX6 rfl 0 (by decide) k_544 rfl rfl dX6_bringBack_10 ?_
        refine lv_iload_n hx hb dX6_bringBack_13 rfl (lv_at hl 1 rfl) ?_
        refine lv_aload_n hx hb dX6_bringBack_14 rfl (lv_at hl 0 rfl) ?_
        refine r_get hx hb hts hown hK hw (v_md (by decide)) gs_atc E_md inX6 rfl 5 (by decide) k_549 rfl rfl dX6_bringBack_15 ?_
        refine lv_iload_n hx hb dX6_bringBack_18 rfl (lv_at hl 1 rfl) ?_
        obtain ⟨q2, h⟩ := t_gd h
        refine r_iald hx hb hK hw (v_md (by decide)) gs_atc E_m4 q2 dX6_bringBack_19 ?_
        obtain ⟨q3, h⟩ := t_gd h
        obtain ⟨m5, e4, h⟩ := t_lt h
        refine r_iast hx hb hK hcv hw hS (v_md (by decide)) gs_atc (fun _ => E_m1) q3 (gs_up e4) dX6_bringBack_20 (fun H locs hw hS => ?_)
        refine lv_iinc (v := (x1 + (nI 1))) (lv' := [(1, .int (x1 + (nI 1))), (0, .ref (ad 9 0))]) hx hb dX6_bringBack_21 hl (k := 1) rfl rfl (by decide) rfl (fun ls hl => ?_)
        refine lv_goto (tgt := 2) hx hb dX6_bringBack_24 (by decide) ?_
        exact ih m5 (x1 + (nI 1)) h H locs hw hS ls (lv_sub hl [1, 0] rfl)
  unfold f_X6_bringBack at h
  have main : JL p l e ({ frames := 0, cells := 0, slots := 0, locals := 0 } : Room) s md args below meth c D cy ad (MQ below (QV D cy ad (gs M0 9 x)) args s 0 0 (AD ad)) (gs M0 9 m) 2 [(0, .ref (ad 9 0))] 0 [] := by
    intro H locs hw hS ls hl
    refine lv_iconst (v := nI 0) hx hb dX6_bringBack_0 (by decide) ?_
    refine lv_istore_n (lv' := [(1, .int (nI 0)), (0, .ref (ad 9 0))]) hx hb dX6_bringBack_1 rfl hl (by decide) rfl (fun ls hl => ?_)
    exact L2 FU m (nI 0) h H locs hw hS ls (lv_sub hl [1, 0] rfl)
  exact main _ _ hw hS ls hl

theorem cf_X6_sumRead : cfV RX6 yX6_sumRead cX6_sumRead 4 (some .int) 1 := ⟨⟨k_696, k_s17, k_7, k_697⟩, by decide +kernel⟩
def f_X6_sumRead_L4 (m : SM) (p0 : Int32) : Nat → Int32 → Int32 → Option (Int32)
  | 0, _, _ => none
  | n + 1, x2, x3 => b1 (f_X6_of m p0 (nI 4)) fun r2 => (if r2 ≤ x3 then some x2 else b1 (f_X6_of m p0 ((nI 5) + x3)) fun r5 => f_X6_sumRead_L4 m p0 n (x2 + r5) (x3 + (nI 1)))
def f_X6_sumRead (m : SM) (p0 : Int32) : Option (Int32) :=
  f_X6_sumRead_L4 m p0 FU (nI 0) (nI 0)
set_option maxHeartbeats 4000000 in
set_option maxRecDepth 100000 in
theorem c_X6_sumRead {l : Launch} {D : va_G} {cy : Nat → ClassId} {ad : Nat → Nat → Nat} (hcv : CV ad) {M0 : MM} {m : SM} (hm : M0 9 = m) {p0 : Int32} {r : Int32} (h : f_X6_sumRead m p0 = some r) : Met l yX6_sumRead (.code yX6_sumRead cX6_sumRead 4 (some .int) :: TB) ({ frames := 1, cells := 0, slots := 0, locals := 22 } : Room) (PW D cy ad M0 [.ref (ad 9 0), .int p0]) (QI D cy ad r M0) 0 0 (AD ad) := by
  refine m_in (by decide +kernel) (Nat.le_of_ble_eq_true rfl) ?_
  intro p e s md args below meth c hC hw hS ls hl
  obtain ⟨hx, hb, hr, hml, hown, hts, hK, hlk⟩ := hC
  have hl : lv_has ls 4 [(0, .ref (ad 9 0)), (1, .int p0)] := hl
  rw [← gs_same hm] at hw
  have L4 : ∀ (n : Nat), ∀ (x2 : Int32) (x3 : Int32), f_X6_sumRead_L4 m p0 n x2 x3 = some r → JL p l e ({ frames := 1, cells := 0, slots := 0, locals := 22 } : Room) s md args below meth c D cy ad (MQ below (QI D cy ad r M0) args s 0 0 (AD ad)) (gs M0 9 m) 4 [(0, .ref (ad 9 0)), (1, .int p0), (2, .int x2), (3, .int x3)] 4 [] := by
    intro n
    induction n with
    | zero =>
      intro x2 x3 h
      cases h
    | succ n ih =>
      intro x2 x3 h H locs hw hS ls hl
      rw [f_X6_sumRead_L4.eq_2] at h
      refine lv_iload_n hx hb dX6_sumRead_4 rfl (lv_at hl 3 rfl) ?_
      refine lv_aload_n hx hb dX6_sumRead_5 rfl (lv_at hl 0 rfl) ?_
      refine lv_iload_n hx hb dX6_sumRead_6 rfl (lv_at hl 1 rfl) ?_
      refine lv_iconst (v := nI 4) hx hb dX6_sumRead_7 (by decide) ?_
      obtain ⟨r2, y1, h⟩ := t_b1 h
      refine c_vi hx hb hml hown hts hK hw hS (fun _ h => h) (As := [.int p0, .int (nI 4)]) (rest := [.int x3]) (c_X6_of hcv (M0 := gs M0 9 m) (m := m) (hm := gs_at) y1) cf_X6_of k_611 rfl rfl ⟨Nat.le_of_ble_eq_true rfl, Nat.le_of_ble_eq_true rfl⟩ (r_recv hK hw (v_md (by decide)) E_md rfl) rfl hl.1 rfl (Nat.le_of_ble_eq_true rfl) ⟨Nat.le_refl _, Nat.le_refl _⟩ dX6_sumRead_8 (fun H locs hw hS => ?_)
      refine lv_icmp_ge (tgt := 31) hx hb dX6_sumRead_11 (by decide) (fun q3 => ?_) (fun q3 => ?_)
      · replace h := t_pos h q3
        refine lv_iload_n hx hb dX6_sumRead_31 rfl (lv_at hl 2 rfl) ?_
        have e1 := Option.some.inj h
        exact e_i hx hb hr hlk hw hS e1 (gs_same hm) dX6_sumRead_32
      · replace h := t_neg h q3
        refine lv_iload_n hx hb dX6_sumRead_14 rfl (lv_at hl 2 rfl) ?_
        refine lv_aload_n hx hb dX6_sumRead_15 rfl (lv_at hl 0 rfl) ?_
        refine lv_iload_n hx hb dX6_sumRead_16 rfl (lv_at hl 1 rfl) ?_
        refine lv_iconst (v := nI 5) hx hb dX6_sumRead_17 (by decide) ?_
        refine lv_iload_n hx hb dX6_sumRead_18 rfl (lv_at hl 3 rfl) ?_
        refine lv_iadd hx hb dX6_sumRead_19 ?_
        obtain ⟨r5, y4, h⟩ := t_b1 h
        refine c_vi hx hb hml hown hts hK hw hS (fun _ h => h) (As := [.int p0, .int ((nI 5) + x3)]) (rest := [.int x2]) (c_X6_of hcv (M0 := gs M0 9 m) (m := m) (hm := gs_at) y4) cf_X6_of k_611 rfl rfl ⟨Nat.le_of_ble_eq_true rfl, Nat.le_of_ble_eq_true rfl⟩ (r_recv hK hw (v_md (by decide)) E_md rfl) rfl hl.1 rfl (Nat.le_of_ble_eq_true rfl) ⟨Nat.le_refl _, Nat.le_refl _⟩ dX6_sumRead_20 (fun H locs hw hS => ?_)
        refine lv_iadd hx hb dX6_sumRead_23 ?_
        refine lv_istore_n (lv' := [(2, .int (x2 + r5)), (0, .ref (ad 9 0)), (1, .int p0), (3, .int x3)]) hx hb dX6_sumRead_24 rfl hl (by decide) rfl (fun ls hl => ?_)
        refine lv_iinc (v := (x3 + (nI 1))) (lv' := [(3, .int (x3 + (nI 1))), (2, .int (x2 + r5)), (0, .ref (ad 9 0)), (1, .int p0)]) hx hb dX6_sumRead_25 hl (k := 3) rfl rfl (by decide) rfl (fun ls hl => ?_)
        refine lv_goto (tgt := 4) hx hb dX6_sumRead_28 (by decide) ?_
        exact ih (x2 + r5) (x3 + (nI 1)) h H locs hw hS ls (lv_sub hl [2, 3, 1, 0] rfl)
  unfold f_X6_sumRead at h
  have main : JL p l e ({ frames := 1, cells := 0, slots := 0, locals := 22 } : Room) s md args below meth c D cy ad (MQ below (QI D cy ad r M0) args s 0 0 (AD ad)) (gs M0 9 m) 4 [(0, .ref (ad 9 0)), (1, .int p0)] 0 [] := by
    intro H locs hw hS ls hl
    refine lv_iconst (v := nI 0) hx hb dX6_sumRead_0 (by decide) ?_
    refine lv_istore_n (lv' := [(2, .int (nI 0)), (0, .ref (ad 9 0)), (1, .int p0)]) hx hb dX6_sumRead_1 rfl hl (by decide) rfl (fun ls hl => ?_)
    refine lv_iconst (v := nI 0) hx hb dX6_sumRead_2 (by decide) ?_
    refine lv_istore_n (lv' := [(3, .int (nI 0)), (2, .int (nI 0)), (0, .ref (ad 9 0)), (1, .int p0)]) hx hb dX6_sumRead_3 rfl hl (by decide) rfl (fun ls hl => ?_)
    exact L4 FU (nI 0) (nI 0) h H locs hw hS ls (lv_sub hl [2, 3, 1, 0] rfl)
  exact main _ _ hw hS ls hl

theorem cf_X6_layReads : cfV RX6 yX6_layReads cX6_layReads 2 none 0 := ⟨⟨k_692, k_s16, k_7, k_693⟩, by decide +kernel⟩
def f_X6_layReads_L29 : Nat → SM → Int32 → Option (Int32 × SM)
  | 0, _, _ => none
  | n + 1, m, x1 => gd (nI 0) 220 ((if (m 1 (nI 0).toNatClampNeg) ≤ x1 then some (0, m) else b1 (f_X6_of m x1 (nI 0)) fun r4 => gd r4 4 (b1 (f_X6_sumRead m x1) fun r7 => gd r4 4 (lt1 (up m 6 r4.toNatClampNeg ((m 6 r4.toNatClampNeg) + r7)) fun m10 => b1 (f_X6_of m10 x1 (nI 0)) fun r12 => gd r12 4 (b1 (f_X6_of m10 x1 (nI 4)) fun r15 => gd r12 4 (lt1 (up m10 7 r12.toNatClampNeg ((m10 7 r12.toNatClampNeg) + r15)) fun m18 => f_X6_layReads_L29 n m18 (x1 + (nI 1))))))))
def f_X6_layReads_L27 (m : SM) : Option (Int32 × SM) :=
  f_X6_layReads_L29 FU m (nI 0)
def f_X6_layReads_L2 : Nat → SM → Int32 → Option (Int32 × SM)
  | 0, _, _ => none
  | n + 1, m, x1 => (if (nI 4) ≤ x1 then f_X6_layReads_L27 m else gd x1 4 (lt1 (up m 6 x1.toNatClampNeg (nI 0)) fun m4 => gd x1 4 (lt1 (up m4 7 x1.toNatClampNeg (nI 0)) fun m7 => f_X6_layReads_L2 n m7 (x1 + (nI 1)))))
def f_X6_layReads (m : SM) : Option (Int32 × SM) :=
  f_X6_layReads_L2 FU m (nI 0)
set_option maxHeartbeats 4000000 in
set_option maxRecDepth 100000 in
theorem c_X6_layReads {l : Launch} {D : va_G} {cy : Nat → ClassId} {ad : Nat → Nat → Nat} (hcv : CV ad) {M0 : MM} {m : SM} (hm : M0 9 = m) {r : Int32} {x : SM} (h : f_X6_layReads m = some (r, x)) : Met l yX6_layReads (.code yX6_layReads cX6_layReads 2 none :: TB) ({ frames := 2, cells := 0, slots := 0, locals := 45 } : Room) (PW D cy ad M0 [.ref (ad 9 0)]) (QV D cy ad (gs M0 9 x)) 0 0 (AD ad) := by
  refine m_in (by decide +kernel) (Nat.le_of_ble_eq_true rfl) ?_
  intro p e s md args below meth c hC hw hS ls hl
  obtain ⟨hx, hb, hr, hml, hown, hts, hK, hlk⟩ := hC
  have hl : lv_has ls 2 [(0, .ref (ad 9 0))] := hl
  rw [← gs_same hm] at hw
  have L29 : ∀ (n : Nat), ∀ (m : SM) (x1 : Int32), f_X6_layReads_L29 n m x1 = some (r, x) → JL p l e ({ frames := 2, cells := 0, slots := 0, locals := 45 } : Room) s md args below meth c D cy ad (MQ below (QV D cy ad (gs M0 9 x)) args s 0 0 (AD ad)) (gs M0 9 m) 2 [(0, .ref (ad 9 0)), (1, .int x1)] 29 [] := by
    intro n
    induction n with
    | zero =>
      intro m x1 h
      cases h
    | succ n ih =>
      intro m x1 h H locs hw hS ls hl
      rw [f_X6_layReads_L29.eq_2] at h
      refine lv_iload_n hx hb dX6_layReads_29 rfl (lv_at hl 1 rfl) ?_
      refine lv_aload_n hx hb dX6_layReads_30 rfl (lv_at hl 0 rfl) ?_
      refine r_get hx hb hts hown hK hw (v_md (by decide)) gs_atc E_md inX6 rfl 0 (by decide) k_544 rfl rfl dX6_layReads_31 ?_
      refine lv_iconst (v := nI 0) hx hb dX6_layReads_34 (by decide) ?_
      obtain ⟨q1, h⟩ := t_gd h
      refine r_iald hx hb hK hw (v_md (by decide)) gs_atc E_m1 q1 dX6_layReads_35 ?_
      refine lv_icmp_ge (tgt := 84) hx hb dX6_layReads_36 (by decide) (fun q2 => ?_) (fun q2 => ?_)
      · replace h := t_pos h q2
        have e1 := (t_ret h).1
        have e2 := (t_ret h).2
        exact e_v hx hb hr hlk hw hS (by rw [e2]) dX6_layReads_84
      · replace h := t_neg h q2
        refine lv_aload_n hx hb dX6_layReads_39 rfl (lv_at hl 0 rfl) ?_
        refine r_get hx hb hts hown hK hw (v_md (by decide)) gs_atc E_md inX6 rfl 8 (by decide) k_552 rfl rfl dX6_layReads_40 ?_
        refine lv_aload_n hx hb dX6_layReads_43 rfl (lv_at hl 0 rfl) ?_
        refine lv_iload_n hx hb dX6_layReads_44 rfl (lv_at hl 1 rfl) ?_
        refine lv_iconst (v := nI 0) hx hb dX6_layReads_45 (by decide) ?_
        obtain ⟨r4, y3, h⟩ := t_b1 h
        refine c_vi hx hb hml hown hts hK hw hS (fun _ h => h) (As := [.int x1, .int (nI 0)]) (rest := [.ref (ad 9 6)]) (c_X6_of hcv (M0 := gs M0 9 m) (m := m) (hm := gs_at) y3) cf_X6_of k_611 rfl rfl ⟨Nat.le_of_ble_eq_true rfl, Nat.le_of_ble_eq_true rfl⟩ (r_recv hK hw (v_md (by decide)) E_md rfl) rfl hl.1 rfl (Nat.le_of_ble_eq_true rfl) ⟨Nat.le_refl _, Nat.le_refl _⟩ dX6_layReads_46 (fun H locs hw hS => ?_)
        refine lv_dup2_11 hx hb dX6_layReads_49 rfl rfl ?_
        obtain ⟨q5, h⟩ := t_gd h
        refine r_iald hx hb hK hw (v_md (by decide)) gs_atc E_m6 q5 dX6_layReads_50 ?_
        refine lv_aload_n hx hb dX6_layReads_51 rfl (lv_at hl 0 rfl) ?_
        refine lv_iload_n hx hb dX6_layReads_52 rfl (lv_at hl 1 rfl) ?_
        obtain ⟨r7, y6, h⟩ := t_b1 h
        refine c_vi hx hb hml hown hts hK hw hS (fun _ h => h) (As := [.int x1]) (rest := [.int (m 6 r4.toNatClampNeg), .int r4, .ref (ad 9 6)]) (c_X6_sumRead hcv (M0 := gs M0 9 m) (m := m) (hm := gs_at) y6) cf_X6_sumRead k_694 rfl rfl ⟨Nat.le_of_ble_eq_true rfl, Nat.le_of_ble_eq_true rfl⟩ (r_recv hK hw (v_md (by decide)) E_md rfl) rfl hl.1 rfl (Nat.le_of_ble_eq_true rfl) ⟨Nat.le_refl _, Nat.le_refl _⟩ dX6_layReads_53 (fun H locs hw hS => ?_)
        refine lv_iadd hx hb dX6_layReads_56 ?_
        obtain ⟨q8, h⟩ := t_gd h
        obtain ⟨m10, e9, h⟩ := t_lt h
        refine r_iast hx hb hK hcv hw hS (v_md (by decide)) gs_atc (fun _ => E_m6) q8 (gs_up e9) dX6_layReads_57 (fun H locs hw hS => ?_)
        refine lv_aload_n hx hb dX6_layReads_58 rfl (lv_at hl 0 rfl) ?_
        refine r_get hx hb hts hown hK hw (v_md (by decide)) gs_atc E_md inX6 rfl 9 (by decide) k_553 rfl rfl dX6_layReads_59 ?_
        refine lv_aload_n hx hb dX6_layReads_62 rfl (lv_at hl 0 rfl) ?_
        refine lv_iload_n hx hb dX6_layReads_63 rfl (lv_at hl 1 rfl) ?_
        refine lv_iconst (v := nI 0) hx hb dX6_layReads_64 (by decide) ?_
        obtain ⟨r12, y11, h⟩ := t_b1 h
        refine c_vi hx hb hml hown hts hK hw hS (fun _ h => h) (As := [.int x1, .int (nI 0)]) (rest := [.ref (ad 9 7)]) (c_X6_of hcv (M0 := gs M0 9 m10) (m := m10) (hm := gs_at) y11) cf_X6_of k_611 rfl rfl ⟨Nat.le_of_ble_eq_true rfl, Nat.le_of_ble_eq_true rfl⟩ (r_recv hK hw (v_md (by decide)) E_md rfl) rfl hl.1 rfl (Nat.le_of_ble_eq_true rfl) ⟨Nat.le_refl _, Nat.le_refl _⟩ dX6_layReads_65 (fun H locs hw hS => ?_)
        refine lv_dup2_11 hx hb dX6_layReads_68 rfl rfl ?_
        obtain ⟨q13, h⟩ := t_gd h
        refine r_iald hx hb hK hw (v_md (by decide)) gs_atc E_m7 q13 dX6_layReads_69 ?_
        refine lv_aload_n hx hb dX6_layReads_70 rfl (lv_at hl 0 rfl) ?_
        refine lv_iload_n hx hb dX6_layReads_71 rfl (lv_at hl 1 rfl) ?_
        refine lv_iconst (v := nI 4) hx hb dX6_layReads_72 (by decide) ?_
        obtain ⟨r15, y14, h⟩ := t_b1 h
        refine c_vi hx hb hml hown hts hK hw hS (fun _ h => h) (As := [.int x1, .int (nI 4)]) (rest := [.int (m10 7 r12.toNatClampNeg), .int r12, .ref (ad 9 7)]) (c_X6_of hcv (M0 := gs M0 9 m10) (m := m10) (hm := gs_at) y14) cf_X6_of k_611 rfl rfl ⟨Nat.le_of_ble_eq_true rfl, Nat.le_of_ble_eq_true rfl⟩ (r_recv hK hw (v_md (by decide)) E_md rfl) rfl hl.1 rfl (Nat.le_of_ble_eq_true rfl) ⟨Nat.le_refl _, Nat.le_refl _⟩ dX6_layReads_73 (fun H locs hw hS => ?_)
        refine lv_iadd hx hb dX6_layReads_76 ?_
        obtain ⟨q16, h⟩ := t_gd h
        obtain ⟨m18, e17, h⟩ := t_lt h
        refine r_iast hx hb hK hcv hw hS (v_md (by decide)) gs_atc (fun _ => E_m7) q16 (gs_up e17) dX6_layReads_77 (fun H locs hw hS => ?_)
        refine lv_iinc (v := (x1 + (nI 1))) (lv' := [(1, .int (x1 + (nI 1))), (0, .ref (ad 9 0))]) hx hb dX6_layReads_78 hl (k := 1) rfl rfl (by decide) rfl (fun ls hl => ?_)
        refine lv_goto (tgt := 29) hx hb dX6_layReads_81 (by decide) ?_
        exact ih m18 (x1 + (nI 1)) h H locs hw hS ls (lv_sub hl [1, 0] rfl)
  have L27 : ∀ (m : SM), f_X6_layReads_L27 m = some (r, x) → JL p l e ({ frames := 2, cells := 0, slots := 0, locals := 45 } : Room) s md args below meth c D cy ad (MQ below (QV D cy ad (gs M0 9 x)) args s 0 0 (AD ad)) (gs M0 9 m) 2 [(0, .ref (ad 9 0))] 27 [] := by
    intro m h H locs hw hS ls hl
    unfold f_X6_layReads_L27 at h
    refine lv_iconst (v := nI 0) hx hb dX6_layReads_27 (by decide) ?_
    refine lv_istore_n (lv' := [(1, .int (nI 0)), (0, .ref (ad 9 0))]) hx hb dX6_layReads_28 rfl hl (by decide) rfl (fun ls hl => ?_)
    exact L29 FU m (nI 0) h H locs hw hS ls (lv_sub hl [1, 0] rfl)
  have L2 : ∀ (n : Nat), ∀ (m : SM) (x1 : Int32), f_X6_layReads_L2 n m x1 = some (r, x) → JL p l e ({ frames := 2, cells := 0, slots := 0, locals := 45 } : Room) s md args below meth c D cy ad (MQ below (QV D cy ad (gs M0 9 x)) args s 0 0 (AD ad)) (gs M0 9 m) 2 [(0, .ref (ad 9 0)), (1, .int x1)] 2 [] := by
    intro n
    induction n with
    | zero =>
      intro m x1 h
      cases h
    | succ n ih =>
      intro m x1 h H locs hw hS ls hl
      rw [f_X6_layReads_L2.eq_2] at h
      refine lv_iload_n hx hb dX6_layReads_2 rfl (lv_at hl 1 rfl) ?_
      refine lv_iconst (v := nI 4) hx hb dX6_layReads_3 (by decide) ?_
      refine lv_icmp_ge (tgt := 27) hx hb dX6_layReads_4 (by decide) (fun q1 => ?_) (fun q1 => ?_)
      · replace h := t_pos h q1
        exact L27 m h H locs hw hS ls (lv_sub hl [0] rfl)
      · replace h := t_neg h q1
        refine lv_aload_n hx hb dX6_layReads_7 rfl (lv_at hl 0 rfl) ?_
        refine r_get hx hb hts hown hK hw (v_md (by decide)) gs_atc E_md inX6 rfl 8 (by decide) k_552 rfl rfl dX6_layReads_8 ?_
        refine lv_iload_n hx hb dX6_layReads_11 rfl (lv_at hl 1 rfl) ?_
        refine lv_iconst (v := nI 0) hx hb dX6_layReads_12 (by decide) ?_
        obtain ⟨q2, h⟩ := t_gd h
        obtain ⟨m4, e3, h⟩ := t_lt h
        refine r_iast hx hb hK hcv hw hS (v_md (by decide)) gs_atc (fun _ => E_m6) q2 (gs_up e3) dX6_layReads_13 (fun H locs hw hS => ?_)
        refine lv_aload_n hx hb dX6_layReads_14 rfl (lv_at hl 0 rfl) ?_
        refine r_get hx hb hts hown hK hw (v_md (by decide)) gs_atc E_md inX6 rfl 9 (by decide) k_553 rfl rfl dX6_layReads_15 ?_
        refine lv_iload_n hx hb dX6_layReads_18 rfl (lv_at hl 1 rfl) ?_
        refine lv_iconst (v := nI 0) hx hb dX6_layReads_19 (by decide) ?_
        obtain ⟨q5, h⟩ := t_gd h
        obtain ⟨m7, e6, h⟩ := t_lt h
        refine r_iast hx hb hK hcv hw hS (v_md (by decide)) gs_atc (fun _ => E_m7) q5 (gs_up e6) dX6_layReads_20 (fun H locs hw hS => ?_)
        refine lv_iinc (v := (x1 + (nI 1))) (lv' := [(1, .int (x1 + (nI 1))), (0, .ref (ad 9 0))]) hx hb dX6_layReads_21 hl (k := 1) rfl rfl (by decide) rfl (fun ls hl => ?_)
        refine lv_goto (tgt := 2) hx hb dX6_layReads_24 (by decide) ?_
        exact ih m7 (x1 + (nI 1)) h H locs hw hS ls (lv_sub hl [1, 0] rfl)
  unfold f_X6_layReads at h
  have main : JL p l e ({ frames := 2, cells := 0, slots := 0, locals := 45 } : Room) s md args below meth c D cy ad (MQ below (QV D cy ad (gs M0 9 x)) args s 0 0 (AD ad)) (gs M0 9 m) 2 [(0, .ref (ad 9 0))] 0 [] := by
    intro H locs hw hS ls hl
    refine lv_iconst (v := nI 0) hx hb dX6_layReads_0 (by decide) ?_
    refine lv_istore_n (lv' := [(1, .int (nI 0)), (0, .ref (ad 9 0))]) hx hb dX6_layReads_1 rfl hl (by decide) rfl (fun ls hl => ?_)
    exact L2 FU m (nI 0) h H locs hw hS ls (lv_sub hl [1, 0] rfl)
  exact main _ _ hw hS ls hl

theorem cf_X6_taken : cfV RX6 yX6_taken cX6_taken 5 (some .int) 2 := ⟨⟨k_700, k_s18, k_7, k_701⟩, by decide +kernel⟩
def f_X6_taken (m : SM) (p0 : Int32) (p1 : Int32) : Option (Int32) :=
  (if (nI 2) ≤ p1 then b1 (f_X6_of m p0 (nI 0)) fun r3 => gd r3 4 ((if (m 7 r3.toNatClampNeg) = (nI 0) then b1 (f_X6_of m p0 (nI 1)) fun r20 => b1 (f_X6_of m p0 (nI 2)) fun r22 => gn (nI 2) (some ((r20 + r22) / (nI 2))) else gd r3 4 (gd r3 4 (gn (m 7 r3.toNatClampNeg) (b1 (f_X6_of m p0 (nI 1)) fun r10 => (if r10 ≤ ((m 6 r3.toNatClampNeg) / (m 7 r3.toNatClampNeg)) then b1 (f_X6_of m p0 (nI 2)) fun r13 => (if ((m 6 r3.toNatClampNeg) / (m 7 r3.toNatClampNeg)) ≤ r13 then some ((m 6 r3.toNatClampNeg) / (m 7 r3.toNatClampNeg)) else b1 (f_X6_of m p0 (nI 2)) fun r16 => some r16) else b1 (f_X6_of m p0 (nI 1)) fun r18 => some r18)))))) else b1 (f_X6_of m p0 ((nI 1) + p1)) fun r25 => some r25)
set_option maxHeartbeats 4000000 in
set_option maxRecDepth 100000 in
theorem c_X6_taken {l : Launch} {D : va_G} {cy : Nat → ClassId} {ad : Nat → Nat → Nat} (hcv : CV ad) {M0 : MM} {m : SM} (hm : M0 9 = m) {p0 p1 : Int32} {r : Int32} (h : f_X6_taken m p0 p1 = some r) : Met l yX6_taken (.code yX6_taken cX6_taken 5 (some .int) :: TB) ({ frames := 1, cells := 0, slots := 0, locals := 22 } : Room) (PW D cy ad M0 [.ref (ad 9 0), .int p0, .int p1]) (QI D cy ad r M0) 0 0 (AD ad) := by
  refine m_in (by decide +kernel) (Nat.le_of_ble_eq_true rfl) ?_
  intro p e s md args below meth c hC hw hS ls hl
  obtain ⟨hx, hb, hr, hml, hown, hts, hK, hlk⟩ := hC
  have hl : lv_has ls 5 [(0, .ref (ad 9 0)), (1, .int p0), (2, .int p1)] := hl
  rw [← gs_same hm] at hw
  unfold f_X6_taken at h
  have main : JL p l e ({ frames := 1, cells := 0, slots := 0, locals := 22 } : Room) s md args below meth c D cy ad (MQ below (QI D cy ad r M0) args s 0 0 (AD ad)) (gs M0 9 m) 5 [(0, .ref (ad 9 0)), (1, .int p0), (2, .int p1)] 0 [] := by
    intro H locs hw hS ls hl
    refine lv_iload_n hx hb dX6_taken_0 rfl (lv_at hl 2 rfl) ?_
    refine lv_iconst (v := nI 2) hx hb dX6_taken_1 (by decide) ?_
    refine lv_icmp_ge (tgt := 14) hx hb dX6_taken_2 (by decide) (fun q1 => ?_) (fun q1 => ?_)
    · replace h := t_pos h q1
      refine lv_aload_n hx hb dX6_taken_14 rfl (lv_at hl 0 rfl) ?_
      refine lv_iload_n hx hb dX6_taken_15 rfl (lv_at hl 1 rfl) ?_
      refine lv_iconst (v := nI 0) hx hb dX6_taken_16 (by decide) ?_
      obtain ⟨r3, y2, h⟩ := t_b1 h
      refine c_vi hx hb hml hown hts hK hw hS (fun _ h => h) (As := [.int p0, .int (nI 0)]) (rest := []) (c_X6_of hcv (M0 := gs M0 9 m) (m := m) (hm := gs_at) y2) cf_X6_of k_611 rfl rfl ⟨Nat.le_of_ble_eq_true rfl, Nat.le_of_ble_eq_true rfl⟩ (r_recv hK hw (v_md (by decide)) E_md rfl) rfl hl.1 rfl (Nat.le_of_ble_eq_true rfl) ⟨Nat.le_refl _, Nat.le_refl _⟩ dX6_taken_17 (fun H locs hw hS => ?_)
      refine lv_istore_n (lv' := [(3, .int r3), (0, .ref (ad 9 0)), (1, .int p0), (2, .int p1)]) hx hb dX6_taken_20 rfl hl (by decide) rfl (fun ls hl => ?_)
      refine lv_aload_n hx hb dX6_taken_21 rfl (lv_at hl 1 rfl) ?_
      refine r_get hx hb hts hown hK hw (v_md (by decide)) gs_atc E_md inX6 rfl 9 (by decide) k_553 rfl rfl dX6_taken_22 ?_
      refine lv_iload_n hx hb dX6_taken_25 rfl (lv_at hl 0 rfl) ?_
      obtain ⟨q4, h⟩ := t_gd h
      refine r_iald hx hb hK hw (v_md (by decide)) gs_atc E_m7 q4 dX6_taken_26 ?_
      refine lv_if_ne (tgt := 46) hx hb dX6_taken_27 (by decide) (fun q5 => ?_) (fun q5 => ?_)
      · replace h := t_neg h q5
        refine lv_aload_n hx hb dX6_taken_46 rfl (lv_at hl 1 rfl) ?_
        refine r_get hx hb hts hown hK hw (v_md (by decide)) gs_atc E_md inX6 rfl 8 (by decide) k_552 rfl rfl dX6_taken_47 ?_
        refine lv_iload_n hx hb dX6_taken_50 rfl (lv_at hl 0 rfl) ?_
        obtain ⟨q6, h⟩ := t_gd h
        refine r_iald hx hb hK hw (v_md (by decide)) gs_atc E_m6 q6 dX6_taken_51 ?_
        refine lv_aload_n hx hb dX6_taken_52 rfl (lv_at hl 1 rfl) ?_
        refine r_get hx hb hts hown hK hw (v_md (by decide)) gs_atc E_md inX6 rfl 9 (by decide) k_553 rfl rfl dX6_taken_53 ?_
        refine lv_iload_n hx hb dX6_taken_56 rfl (lv_at hl 0 rfl) ?_
        obtain ⟨q7, h⟩ := t_gd h
        refine r_iald hx hb hK hw (v_md (by decide)) gs_atc E_m7 q7 dX6_taken_57 ?_
        obtain ⟨q8, h⟩ := t_gn h
        refine lv_idiv hx hb dX6_taken_58 q8 ?_
        refine lv_istore (lv' := [(4, .int ((m 6 r3.toNatClampNeg) / (m 7 r3.toNatClampNeg))), (3, .int r3), (0, .ref (ad 9 0)), (1, .int p0), (2, .int p1)]) hx hb dX6_taken_59 hl (by decide) rfl (fun ls hl => ?_)
        refine lv_iload hx hb dX6_taken_61 (lv_at hl 0 rfl) ?_
        refine lv_aload_n hx hb dX6_taken_63 rfl (lv_at hl 2 rfl) ?_
        refine lv_iload_n hx hb dX6_taken_64 rfl (lv_at hl 3 rfl) ?_
        refine lv_iconst (v := nI 1) hx hb dX6_taken_65 (by decide) ?_
        obtain ⟨r10, y9, h⟩ := t_b1 h
        refine c_vi hx hb hml hown hts hK hw hS (fun _ h => h) (As := [.int p0, .int (nI 1)]) (rest := [.int ((m 6 r3.toNatClampNeg) / (m 7 r3.toNatClampNeg))]) (c_X6_of hcv (M0 := gs M0 9 m) (m := m) (hm := gs_at) y9) cf_X6_of k_611 rfl rfl ⟨Nat.le_of_ble_eq_true rfl, Nat.le_of_ble_eq_true rfl⟩ (r_recv hK hw (v_md (by decide)) E_md rfl) rfl hl.1 rfl (Nat.le_of_ble_eq_true rfl) ⟨Nat.le_refl _, Nat.le_refl _⟩ dX6_taken_66 (fun H locs hw hS => ?_)
        refine lv_icmp_ge (tgt := 81) hx hb dX6_taken_69 (by decide) (fun q11 => ?_) (fun q11 => ?_)
        · replace h := t_pos h q11
          refine lv_iload hx hb dX6_taken_81 (lv_at hl 0 rfl) ?_
          refine lv_aload_n hx hb dX6_taken_83 rfl (lv_at hl 2 rfl) ?_
          refine lv_iload_n hx hb dX6_taken_84 rfl (lv_at hl 3 rfl) ?_
          refine lv_iconst (v := nI 2) hx hb dX6_taken_85 (by decide) ?_
          obtain ⟨r13, y12, h⟩ := t_b1 h
          refine c_vi hx hb hml hown hts hK hw hS (fun _ h => h) (As := [.int p0, .int (nI 2)]) (rest := [.int ((m 6 r3.toNatClampNeg) / (m 7 r3.toNatClampNeg))]) (c_X6_of hcv (M0 := gs M0 9 m) (m := m) (hm := gs_at) y12) cf_X6_of k_611 rfl rfl ⟨Nat.le_of_ble_eq_true rfl, Nat.le_of_ble_eq_true rfl⟩ (r_recv hK hw (v_md (by decide)) E_md rfl) rfl hl.1 rfl (Nat.le_of_ble_eq_true rfl) ⟨Nat.le_refl _, Nat.le_refl _⟩ dX6_taken_86 (fun H locs hw hS => ?_)
          refine lv_icmp_le (tgt := 101) hx hb dX6_taken_89 (by decide) (fun q14 => ?_) (fun q14 => ?_)
          · replace h := t_pos h q14
            refine lv_iload hx hb dX6_taken_101 (lv_at hl 0 rfl) ?_
            have e1 := Option.some.inj h
            exact e_i hx hb hr hlk hw hS e1 (gs_same hm) dX6_taken_103
          · replace h := t_neg h q14
            refine lv_aload_n hx hb dX6_taken_92 rfl (lv_at hl 2 rfl) ?_
            refine lv_iload_n hx hb dX6_taken_93 rfl (lv_at hl 3 rfl) ?_
            refine lv_iconst (v := nI 2) hx hb dX6_taken_94 (by decide) ?_
            obtain ⟨r16, y15, h⟩ := t_b1 h
            refine c_vi hx hb hml hown hts hK hw hS (fun _ h => h) (As := [.int p0, .int (nI 2)]) (rest := []) (c_X6_of hcv (M0 := gs M0 9 m) (m := m) (hm := gs_at) y15) cf_X6_of k_611 rfl rfl ⟨Nat.le_of_ble_eq_true rfl, Nat.le_of_ble_eq_true rfl⟩ (r_recv hK hw (v_md (by decide)) E_md rfl) rfl hl.1 rfl (Nat.le_of_ble_eq_true rfl) ⟨Nat.le_refl _, Nat.le_refl _⟩ dX6_taken_95 (fun H locs hw hS => ?_)
            refine lv_goto (tgt := 103) hx hb dX6_taken_98 (by decide) ?_
            have e1 := Option.some.inj h
            exact e_i hx hb hr hlk hw hS e1 (gs_same hm) dX6_taken_103
        · replace h := t_neg h q11
          refine lv_aload_n hx hb dX6_taken_72 rfl (lv_at hl 2 rfl) ?_
          refine lv_iload_n hx hb dX6_taken_73 rfl (lv_at hl 3 rfl) ?_
          refine lv_iconst (v := nI 1) hx hb dX6_taken_74 (by decide) ?_
          obtain ⟨r18, y17, h⟩ := t_b1 h
          refine c_vi hx hb hml hown hts hK hw hS (fun _ h => h) (As := [.int p0, .int (nI 1)]) (rest := []) (c_X6_of hcv (M0 := gs M0 9 m) (m := m) (hm := gs_at) y17) cf_X6_of k_611 rfl rfl ⟨Nat.le_of_ble_eq_true rfl, Nat.le_of_ble_eq_true rfl⟩ (r_recv hK hw (v_md (by decide)) E_md rfl) rfl hl.1 rfl (Nat.le_of_ble_eq_true rfl) ⟨Nat.le_refl _, Nat.le_refl _⟩ dX6_taken_75 (fun H locs hw hS => ?_)
          refine lv_goto (tgt := 103) hx hb dX6_taken_78 (by decide) ?_
          have e1 := Option.some.inj h
          exact e_i hx hb hr hlk hw hS e1 (gs_same hm) dX6_taken_103
      · replace h := t_pos h q5
        refine lv_aload_n hx hb dX6_taken_30 rfl (lv_at hl 1 rfl) ?_
        refine lv_iload_n hx hb dX6_taken_31 rfl (lv_at hl 2 rfl) ?_
        refine lv_iconst (v := nI 1) hx hb dX6_taken_32 (by decide) ?_
        obtain ⟨r20, y19, h⟩ := t_b1 h
        refine c_vi hx hb hml hown hts hK hw hS (fun _ h => h) (As := [.int p0, .int (nI 1)]) (rest := []) (c_X6_of hcv (M0 := gs M0 9 m) (m := m) (hm := gs_at) y19) cf_X6_of k_611 rfl rfl ⟨Nat.le_of_ble_eq_true rfl, Nat.le_of_ble_eq_true rfl⟩ (r_recv hK hw (v_md (by decide)) E_md rfl) rfl hl.1 rfl (Nat.le_of_ble_eq_true rfl) ⟨Nat.le_refl _, Nat.le_refl _⟩ dX6_taken_33 (fun H locs hw hS => ?_)
        refine lv_aload_n hx hb dX6_taken_36 rfl (lv_at hl 1 rfl) ?_
        refine lv_iload_n hx hb dX6_taken_37 rfl (lv_at hl 2 rfl) ?_
        refine lv_iconst (v := nI 2) hx hb dX6_taken_38 (by decide) ?_
        obtain ⟨r22, y21, h⟩ := t_b1 h
        refine c_vi hx hb hml hown hts hK hw hS (fun _ h => h) (As := [.int p0, .int (nI 2)]) (rest := [.int r20]) (c_X6_of hcv (M0 := gs M0 9 m) (m := m) (hm := gs_at) y21) cf_X6_of k_611 rfl rfl ⟨Nat.le_of_ble_eq_true rfl, Nat.le_of_ble_eq_true rfl⟩ (r_recv hK hw (v_md (by decide)) E_md rfl) rfl hl.1 rfl (Nat.le_of_ble_eq_true rfl) ⟨Nat.le_refl _, Nat.le_refl _⟩ dX6_taken_39 (fun H locs hw hS => ?_)
        refine lv_iadd hx hb dX6_taken_42 ?_
        refine lv_iconst (v := nI 2) hx hb dX6_taken_43 (by decide) ?_
        obtain ⟨q23, h⟩ := t_gn h
        refine lv_idiv hx hb dX6_taken_44 q23 ?_
        have e1 := Option.some.inj h
        exact e_i hx hb hr hlk hw hS e1 (gs_same hm) dX6_taken_45
    · replace h := t_neg h q1
      refine lv_aload_n hx hb dX6_taken_5 rfl (lv_at hl 0 rfl) ?_
      refine lv_iload_n hx hb dX6_taken_6 rfl (lv_at hl 1 rfl) ?_
      refine lv_iconst (v := nI 1) hx hb dX6_taken_7 (by decide) ?_
      refine lv_iload_n hx hb dX6_taken_8 rfl (lv_at hl 2 rfl) ?_
      refine lv_iadd hx hb dX6_taken_9 ?_
      obtain ⟨r25, y24, h⟩ := t_b1 h
      refine c_vi hx hb hml hown hts hK hw hS (fun _ h => h) (As := [.int p0, .int ((nI 1) + p1)]) (rest := []) (c_X6_of hcv (M0 := gs M0 9 m) (m := m) (hm := gs_at) y24) cf_X6_of k_611 rfl rfl ⟨Nat.le_of_ble_eq_true rfl, Nat.le_of_ble_eq_true rfl⟩ (r_recv hK hw (v_md (by decide)) E_md rfl) rfl hl.1 rfl (Nat.le_of_ble_eq_true rfl) ⟨Nat.le_refl _, Nat.le_refl _⟩ dX6_taken_10 (fun H locs hw hS => ?_)
      have e1 := Option.some.inj h
      exact e_i hx hb hr hlk hw hS e1 (gs_same hm) dX6_taken_13
  exact main _ _ hw hS ls hl

theorem cf_X6_isOf : cfV RX6 yX6_isOf cX6_isOf 3 (some .boolean) 2 := ⟨⟨k_684, k_s14, k_7, k_685⟩, by decide +kernel⟩
def f_X6_isOf (m : SM) (p0 : Int32) (p1 : Int32) : Option (Int32) :=
  b1 (f_X6_asked m p0 (nI 1)) fun r2 => b1 (f_X6_of m p1 (nI 0)) fun r4 => (if ((r2 >>> (r4 &&& 31)) &&& (nI 1)) = (nI 1) then some (nI 1) else some (nI 0))
set_option maxHeartbeats 4000000 in
set_option maxRecDepth 100000 in
theorem c_X6_isOf {l : Launch} {D : va_G} {cy : Nat → ClassId} {ad : Nat → Nat → Nat} (hcv : CV ad) {M0 : MM} {m : SM} (hm : M0 9 = m) {p0 p1 : Int32} {r : Int32} (h : f_X6_isOf m p0 p1 = some r) : Met l yX6_isOf (.code yX6_isOf cX6_isOf 3 (some .boolean) :: TB) ({ frames := 1, cells := 0, slots := 0, locals := 22 } : Room) (PW D cy ad M0 [.ref (ad 9 0), .int p0, .int p1]) (QI D cy ad r M0) 0 0 (AD ad) := by
  refine m_in (by decide +kernel) (Nat.le_of_ble_eq_true rfl) ?_
  intro p e s md args below meth c hC hw hS ls hl
  obtain ⟨hx, hb, hr, hml, hown, hts, hK, hlk⟩ := hC
  have hl : lv_has ls 3 [(0, .ref (ad 9 0)), (1, .int p0), (2, .int p1)] := hl
  rw [← gs_same hm] at hw
  unfold f_X6_isOf at h
  have main : JL p l e ({ frames := 1, cells := 0, slots := 0, locals := 22 } : Room) s md args below meth c D cy ad (MQ below (QI D cy ad r M0) args s 0 0 (AD ad)) (gs M0 9 m) 3 [(0, .ref (ad 9 0)), (1, .int p0), (2, .int p1)] 0 [] := by
    intro H locs hw hS ls hl
    refine lv_aload_n hx hb dX6_isOf_0 rfl (lv_at hl 0 rfl) ?_
    refine lv_iload_n hx hb dX6_isOf_1 rfl (lv_at hl 1 rfl) ?_
    refine lv_iconst (v := nI 1) hx hb dX6_isOf_2 (by decide) ?_
    obtain ⟨r2, y1, h⟩ := t_b1 h
    refine c_vi hx hb hml hown hts hK hw hS (fun _ h => h) (As := [.int p0, .int (nI 1)]) (rest := []) (c_X6_asked hcv (M0 := gs M0 9 m) (m := m) (hm := gs_at) y1) cf_X6_asked k_674 rfl rfl ⟨Nat.le_of_ble_eq_true rfl, Nat.le_of_ble_eq_true rfl⟩ (r_recv hK hw (v_md (by decide)) E_md rfl) rfl hl.1 rfl (Nat.le_of_ble_eq_true rfl) ⟨Nat.le_refl _, Nat.le_refl _⟩ dX6_isOf_3 (fun H locs hw hS => ?_)
    refine lv_aload_n hx hb dX6_isOf_6 rfl (lv_at hl 0 rfl) ?_
    refine lv_iload_n hx hb dX6_isOf_7 rfl (lv_at hl 2 rfl) ?_
    refine lv_iconst (v := nI 0) hx hb dX6_isOf_8 (by decide) ?_
    obtain ⟨r4, y3, h⟩ := t_b1 h
    refine c_vi hx hb hml hown hts hK hw hS (fun _ h => h) (As := [.int p1, .int (nI 0)]) (rest := [.int r2]) (c_X6_of hcv (M0 := gs M0 9 m) (m := m) (hm := gs_at) y3) cf_X6_of k_611 rfl rfl ⟨Nat.le_of_ble_eq_true rfl, Nat.le_of_ble_eq_true rfl⟩ (r_recv hK hw (v_md (by decide)) E_md rfl) rfl hl.1 rfl (Nat.le_of_ble_eq_true rfl) ⟨Nat.le_refl _, Nat.le_refl _⟩ dX6_isOf_9 (fun H locs hw hS => ?_)
    refine lv_ishr hx hb dX6_isOf_12 ?_
    refine lv_iconst (v := nI 1) hx hb dX6_isOf_13 (by decide) ?_
    refine lv_iand hx hb dX6_isOf_14 ?_
    refine lv_iconst (v := nI 1) hx hb dX6_isOf_15 (by decide) ?_
    refine lv_icmp_ne (tgt := 23) hx hb dX6_isOf_16 (by decide) (fun q5 => ?_) (fun q5 => ?_)
    · replace h := t_neg h q5
      refine lv_iconst (v := nI 0) hx hb dX6_isOf_23 (by decide) ?_
      have e1 := Option.some.inj h
      exact e_z hx hb hr hlk (Or.inl rfl) hw hS e1 (gs_same hm) dX6_isOf_24
    · replace h := t_pos h q5
      refine lv_iconst (v := nI 1) hx hb dX6_isOf_19 (by decide) ?_
      refine lv_goto (tgt := 24) hx hb dX6_isOf_20 (by decide) ?_
      have e1 := Option.some.inj h
      exact e_z hx hb hr hlk (Or.inr rfl) hw hS e1 (gs_same hm) dX6_isOf_24
  exact main _ _ hw hS ls hl

theorem cf_X6_rowsOf : cfV RX6 yX6_rowsOf cX6_rowsOf 5 (some .int) 2 := ⟨⟨k_680, k_s13, k_7, k_681⟩, by decide +kernel⟩
def f_X6_rowsOf_L5 (m : SM) (p0 : Int32) (p1 : Int32) : Nat → Int32 → Int32 → Option (Int32)
  | 0, _, _ => none
  | n + 1, x3, x4 => gd (nI 0) 220 ((if (m 1 (nI 0).toNatClampNeg) ≤ x4 then some x3 else b1 (f_X6_isOf m p0 x4) fun r4 => (if r4 = (nI 0) then f_X6_rowsOf_L5 m p0 p1 n (x3 + (nI 0)) (x4 + (nI 1)) else b1 (f_X6_of m x4 p1) fun r7 => f_X6_rowsOf_L5 m p0 p1 n (x3 + r7) (x4 + (nI 1)))))
def f_X6_rowsOf (m : SM) (p0 : Int32) (p1 : Int32) : Option (Int32) :=
  f_X6_rowsOf_L5 m p0 p1 FU (nI 0) (nI 0)
set_option maxHeartbeats 4000000 in
set_option maxRecDepth 100000 in
theorem c_X6_rowsOf {l : Launch} {D : va_G} {cy : Nat → ClassId} {ad : Nat → Nat → Nat} (hcv : CV ad) {M0 : MM} {m : SM} (hm : M0 9 = m) {p0 p1 : Int32} {r : Int32} (h : f_X6_rowsOf m p0 p1 = some r) : Met l yX6_rowsOf (.code yX6_rowsOf cX6_rowsOf 5 (some .int) :: TB) ({ frames := 2, cells := 0, slots := 0, locals := 44 } : Room) (PW D cy ad M0 [.ref (ad 9 0), .int p0, .int p1]) (QI D cy ad r M0) 0 0 (AD ad) := by
  refine m_in (by decide +kernel) (Nat.le_of_ble_eq_true rfl) ?_
  intro p e s md args below meth c hC hw hS ls hl
  obtain ⟨hx, hb, hr, hml, hown, hts, hK, hlk⟩ := hC
  have hl : lv_has ls 5 [(0, .ref (ad 9 0)), (1, .int p0), (2, .int p1)] := hl
  rw [← gs_same hm] at hw
  have L5 : ∀ (n : Nat), ∀ (x3 : Int32) (x4 : Int32), f_X6_rowsOf_L5 m p0 p1 n x3 x4 = some r → JL p l e ({ frames := 2, cells := 0, slots := 0, locals := 44 } : Room) s md args below meth c D cy ad (MQ below (QI D cy ad r M0) args s 0 0 (AD ad)) (gs M0 9 m) 5 [(0, .ref (ad 9 0)), (1, .int p0), (2, .int p1), (3, .int x3), (4, .int x4)] 5 [] := by
    intro n
    induction n with
    | zero =>
      intro x3 x4 h
      cases h
    | succ n ih =>
      intro x3 x4 h H locs hw hS ls hl
      rw [f_X6_rowsOf_L5.eq_2] at h
      refine lv_iload hx hb dX6_rowsOf_5 (lv_at hl 4 rfl) ?_
      refine lv_aload_n hx hb dX6_rowsOf_7 rfl (lv_at hl 0 rfl) ?_
      refine r_get hx hb hts hown hK hw (v_md (by decide)) gs_atc E_md inX6 rfl 0 (by decide) k_544 rfl rfl dX6_rowsOf_8 ?_
      refine lv_iconst (v := nI 0) hx hb dX6_rowsOf_11 (by decide) ?_
      obtain ⟨q1, h⟩ := t_gd h
      refine r_iald hx hb hK hw (v_md (by decide)) gs_atc E_m1 q1 dX6_rowsOf_12 ?_
      refine lv_icmp_ge (tgt := 46) hx hb dX6_rowsOf_13 (by decide) (fun q2 => ?_) (fun q2 => ?_)
      · replace h := t_pos h q2
        refine lv_iload_n hx hb dX6_rowsOf_46 rfl (lv_at hl 3 rfl) ?_
        have e1 := Option.some.inj h
        exact e_i hx hb hr hlk hw hS e1 (gs_same hm) dX6_rowsOf_47
      · replace h := t_neg h q2
        refine lv_iload_n hx hb dX6_rowsOf_16 rfl (lv_at hl 3 rfl) ?_
        refine lv_aload_n hx hb dX6_rowsOf_17 rfl (lv_at hl 0 rfl) ?_
        refine lv_iload_n hx hb dX6_rowsOf_18 rfl (lv_at hl 1 rfl) ?_
        refine lv_iload hx hb dX6_rowsOf_19 (lv_at hl 4 rfl) ?_
        obtain ⟨r4, y3, h⟩ := t_b1 h
        refine c_vi hx hb hml hown hts hK hw hS (fun _ h => h) (As := [.int p0, .int x4]) (rest := [.int x3]) (c_X6_isOf hcv (M0 := gs M0 9 m) (m := m) (hm := gs_at) y3) cf_X6_isOf k_682 rfl rfl ⟨Nat.le_of_ble_eq_true rfl, Nat.le_of_ble_eq_true rfl⟩ (r_recv hK hw (v_md (by decide)) E_md rfl) rfl hl.1 rfl (Nat.le_of_ble_eq_true rfl) ⟨Nat.le_refl _, Nat.le_refl _⟩ dX6_rowsOf_21 (fun H locs hw hS => ?_)
        refine lv_if_eq (tgt := 37) hx hb dX6_rowsOf_24 (by decide) (fun q5 => ?_) (fun q5 => ?_)
        · replace h := t_pos h q5
          refine lv_iconst (v := nI 0) hx hb dX6_rowsOf_37 (by decide) ?_
          refine lv_iadd hx hb dX6_rowsOf_38 ?_
          refine lv_istore_n (lv' := [(3, .int (x3 + (nI 0))), (0, .ref (ad 9 0)), (1, .int p0), (2, .int p1), (4, .int x4)]) hx hb dX6_rowsOf_39 rfl hl (by decide) rfl (fun ls hl => ?_)
          refine lv_iinc (v := (x4 + (nI 1))) (lv' := [(4, .int (x4 + (nI 1))), (3, .int (x3 + (nI 0))), (0, .ref (ad 9 0)), (1, .int p0), (2, .int p1)]) hx hb dX6_rowsOf_40 hl (k := 4) rfl rfl (by decide) rfl (fun ls hl => ?_)
          refine lv_goto (tgt := 5) hx hb dX6_rowsOf_43 (by decide) ?_
          exact ih (x3 + (nI 0)) (x4 + (nI 1)) h H locs hw hS ls (lv_sub hl [2, 3, 4, 1, 0] rfl)
        · replace h := t_neg h q5
          refine lv_aload_n hx hb dX6_rowsOf_27 rfl (lv_at hl 0 rfl) ?_
          refine lv_iload hx hb dX6_rowsOf_28 (lv_at hl 4 rfl) ?_
          refine lv_iload_n hx hb dX6_rowsOf_30 rfl (lv_at hl 2 rfl) ?_
          obtain ⟨r7, y6, h⟩ := t_b1 h
          refine c_vi hx hb hml hown hts hK hw hS (fun _ h => h) (As := [.int x4, .int p1]) (rest := [.int x3]) (c_X6_of hcv (M0 := gs M0 9 m) (m := m) (hm := gs_at) y6) cf_X6_of k_611 rfl rfl ⟨Nat.le_of_ble_eq_true rfl, Nat.le_of_ble_eq_true rfl⟩ (r_recv hK hw (v_md (by decide)) E_md rfl) rfl hl.1 rfl (Nat.le_of_ble_eq_true rfl) ⟨Nat.le_refl _, Nat.le_refl _⟩ dX6_rowsOf_31 (fun H locs hw hS => ?_)
          refine lv_goto (tgt := 38) hx hb dX6_rowsOf_34 (by decide) ?_
          refine lv_iadd hx hb dX6_rowsOf_38 ?_
          refine lv_istore_n (lv' := [(3, .int (x3 + r7)), (0, .ref (ad 9 0)), (1, .int p0), (2, .int p1), (4, .int x4)]) hx hb dX6_rowsOf_39 rfl hl (by decide) rfl (fun ls hl => ?_)
          refine lv_iinc (v := (x4 + (nI 1))) (lv' := [(4, .int (x4 + (nI 1))), (3, .int (x3 + r7)), (0, .ref (ad 9 0)), (1, .int p0), (2, .int p1)]) hx hb dX6_rowsOf_40 hl (k := 4) rfl rfl (by decide) rfl (fun ls hl => ?_)
          refine lv_goto (tgt := 5) hx hb dX6_rowsOf_43 (by decide) ?_
          exact ih (x3 + r7) (x4 + (nI 1)) h H locs hw hS ls (lv_sub hl [2, 3, 4, 1, 0] rfl)
  unfold f_X6_rowsOf at h
  have main : JL p l e ({ frames := 2, cells := 0, slots := 0, locals := 44 } : Room) s md args below meth c D cy ad (MQ below (QI D cy ad r M0) args s 0 0 (AD ad)) (gs M0 9 m) 5 [(0, .ref (ad 9 0)), (1, .int p0), (2, .int p1)] 0 [] := by
    intro H locs hw hS ls hl
    refine lv_iconst (v := nI 0) hx hb dX6_rowsOf_0 (by decide) ?_
    refine lv_istore_n (lv' := [(3, .int (nI 0)), (0, .ref (ad 9 0)), (1, .int p0), (2, .int p1)]) hx hb dX6_rowsOf_1 rfl hl (by decide) rfl (fun ls hl => ?_)
    refine lv_iconst (v := nI 0) hx hb dX6_rowsOf_2 (by decide) ?_
    refine lv_istore (lv' := [(4, .int (nI 0)), (3, .int (nI 0)), (0, .ref (ad 9 0)), (1, .int p0), (2, .int p1)]) hx hb dX6_rowsOf_3 hl (by decide) rfl (fun ls hl => ?_)
    exact L5 FU (nI 0) (nI 0) h H locs hw hS ls (lv_sub hl [2, 3, 4, 1, 0] rfl)
  exact main _ _ hw hS ls hl

theorem cf_X6_meet : cfV RX6 yX6_meet cX6_meet 3 none 2 := ⟨⟨k_704, k_s19, k_7, k_705⟩, by decide +kernel⟩
def f_X6_meet_L51 (p0 : Int32) (p1 : Int32) (m : SM) (s1 : Int32) : Option (Int32 × SM) :=
  lt1 (up m 0 12 s1) fun m2 => (if p1 ≤ (m2 0 13) then lt1 (up m2 0 13 (m2 0 13)) fun m5 => some (0, m5) else lt1 (up m2 0 13 p1) fun m7 => some (0, m7))
def f_X6_meet_L30 (p0 : Int32) (p1 : Int32) (m : SM) (s1 : Int32) (s2 : Int32) : Option (Int32 × SM) :=
  lt1 (up m 0 11 (s1 + s2)) fun m2 => (if (m2 0 12) ≤ p1 then f_X6_meet_L51 p0 p1 m2 (m2 0 12) else f_X6_meet_L51 p0 p1 m2 p1)
def f_X6_meet (m : SM) (p0 : Int32) (p1 : Int32) : Option (Int32 × SM) :=
  lt1 (up m 0 10 ((m 0 10) + p1)) fun m2 => b1 (f_X6_asked m2 p0 (nI 2)) fun r4 => (if p1 < r4 then f_X6_meet_L30 p0 p1 m2 (m2 0 11) (nI 0) else f_X6_meet_L30 p0 p1 m2 (m2 0 11) (nI 1))
set_option maxHeartbeats 4000000 in
set_option maxRecDepth 100000 in
theorem c_X6_meet {l : Launch} {D : va_G} {cy : Nat → ClassId} {ad : Nat → Nat → Nat} (hcv : CV ad) {M0 : MM} {m : SM} (hm : M0 9 = m) {p0 p1 : Int32} {r : Int32} {x : SM} (h : f_X6_meet m p0 p1 = some (r, x)) : Met l yX6_meet (.code yX6_meet cX6_meet 3 none :: TB) ({ frames := 1, cells := 0, slots := 0, locals := 22 } : Room) (PW D cy ad M0 [.ref (ad 9 0), .int p0, .int p1]) (QV D cy ad (gs M0 9 x)) 0 0 (AD ad) := by
  refine m_in (by decide +kernel) (Nat.le_of_ble_eq_true rfl) ?_
  intro p e s md args below meth c hC hw hS ls hl
  obtain ⟨hx, hb, hr, hml, hown, hts, hK, hlk⟩ := hC
  have hl : lv_has ls 3 [(0, .ref (ad 9 0)), (1, .int p0), (2, .int p1)] := hl
  rw [← gs_same hm] at hw
  have L51 : ∀ (m : SM) (s1 : Int32), f_X6_meet_L51 p0 p1 m s1 = some (r, x) → JL p l e ({ frames := 1, cells := 0, slots := 0, locals := 22 } : Room) s md args below meth c D cy ad (MQ below (QV D cy ad (gs M0 9 x)) args s 0 0 (AD ad)) (gs M0 9 m) 3 [(0, .ref (ad 9 0)), (2, .int p1)] 51 [.int s1, .ref (ad 9 0)] := by
    intro m s1 h H locs hw hS ls hl
    unfold f_X6_meet_L51 at h
    obtain ⟨m2, e1, h⟩ := t_lt h
    refine r_put hx hb hts hown hK hcv hw hS (v_md (by decide)) gs_atc E_md inX6 rfl tyX6 tyX6_ok nmX6 12 (by decide) k_556 rfl rfl rfl rfl (Nat.le_of_ble_eq_true rfl) E_md (gs_up e1) dX6_meet_51 (fun H locs hw hS => ?_)
    refine lv_aload_n hx hb dX6_meet_54 rfl (lv_at hl 0 rfl) ?_
    refine lv_iload_n hx hb dX6_meet_55 rfl (lv_at hl 1 rfl) ?_
    refine lv_aload_n hx hb dX6_meet_56 rfl (lv_at hl 0 rfl) ?_
    refine r_get hx hb hts hown hK hw (v_md (by decide)) gs_atc E_md inX6 rfl 13 (by decide) k_557 rfl rfl dX6_meet_57 ?_
    refine lv_icmp_le (tgt := 67) hx hb dX6_meet_60 (by decide) (fun q3 => ?_) (fun q3 => ?_)
    · replace h := t_pos h q3
      refine lv_aload_n hx hb dX6_meet_67 rfl (lv_at hl 0 rfl) ?_
      refine r_get hx hb hts hown hK hw (v_md (by decide)) gs_atc E_md inX6 rfl 13 (by decide) k_557 rfl rfl dX6_meet_68 ?_
      obtain ⟨m5, e4, h⟩ := t_lt h
      refine r_put hx hb hts hown hK hcv hw hS (v_md (by decide)) gs_atc E_md inX6 rfl tyX6 tyX6_ok nmX6 13 (by decide) k_557 rfl rfl rfl rfl (Nat.le_of_ble_eq_true rfl) E_md (gs_up e4) dX6_meet_71 (fun H locs hw hS => ?_)
      have e1 := (t_ret h).1
      have e2 := (t_ret h).2
      exact e_v hx hb hr hlk hw hS (by rw [e2]) dX6_meet_74
    · replace h := t_neg h q3
      refine lv_iload_n hx hb dX6_meet_63 rfl (lv_at hl 1 rfl) ?_
      refine lv_goto (tgt := 71) hx hb dX6_meet_64 (by decide) ?_
      obtain ⟨m7, e6, h⟩ := t_lt h
      refine r_put hx hb hts hown hK hcv hw hS (v_md (by decide)) gs_atc E_md inX6 rfl tyX6 tyX6_ok nmX6 13 (by decide) k_557 rfl rfl rfl rfl (Nat.le_of_ble_eq_true rfl) E_md (gs_up e6) dX6_meet_71 (fun H locs hw hS => ?_)
      have e1 := (t_ret h).1
      have e2 := (t_ret h).2
      exact e_v hx hb hr hlk hw hS (by rw [e2]) dX6_meet_74
  have L30 : ∀ (m : SM) (s1 : Int32) (s2 : Int32), f_X6_meet_L30 p0 p1 m s1 s2 = some (r, x) → JL p l e ({ frames := 1, cells := 0, slots := 0, locals := 22 } : Room) s md args below meth c D cy ad (MQ below (QV D cy ad (gs M0 9 x)) args s 0 0 (AD ad)) (gs M0 9 m) 3 [(0, .ref (ad 9 0)), (2, .int p1)] 30 [.int s2, .int s1, .ref (ad 9 0)] := by
    intro m s1 s2 h H locs hw hS ls hl
    unfold f_X6_meet_L30 at h
    refine lv_iadd hx hb dX6_meet_30 ?_
    obtain ⟨m2, e1, h⟩ := t_lt h
    refine r_put hx hb hts hown hK hcv hw hS (v_md (by decide)) gs_atc E_md inX6 rfl tyX6 tyX6_ok nmX6 11 (by decide) k_555 rfl rfl rfl rfl (Nat.le_of_ble_eq_true rfl) E_md (gs_up e1) dX6_meet_31 (fun H locs hw hS => ?_)
    refine lv_aload_n hx hb dX6_meet_34 rfl (lv_at hl 0 rfl) ?_
    refine lv_iload_n hx hb dX6_meet_35 rfl (lv_at hl 1 rfl) ?_
    refine lv_aload_n hx hb dX6_meet_36 rfl (lv_at hl 0 rfl) ?_
    refine r_get hx hb hts hown hK hw (v_md (by decide)) gs_atc E_md inX6 rfl 12 (by decide) k_556 rfl rfl dX6_meet_37 ?_
    refine lv_icmp_ge (tgt := 47) hx hb dX6_meet_40 (by decide) (fun q3 => ?_) (fun q3 => ?_)
    · replace h := t_pos h q3
      refine lv_aload_n hx hb dX6_meet_47 rfl (lv_at hl 0 rfl) ?_
      refine r_get hx hb hts hown hK hw (v_md (by decide)) gs_atc E_md inX6 rfl 12 (by decide) k_556 rfl rfl dX6_meet_48 ?_
      exact L51 m2 (m2 0 12) h H locs hw hS ls (lv_sub hl [0, 1] rfl)
    · replace h := t_neg h q3
      refine lv_iload_n hx hb dX6_meet_43 rfl (lv_at hl 1 rfl) ?_
      refine lv_goto (tgt := 51) hx hb dX6_meet_44 (by decide) ?_
      exact L51 m2 p1 h H locs hw hS ls (lv_sub hl [0, 1] rfl)
  unfold f_X6_meet at h
  have main : JL p l e ({ frames := 1, cells := 0, slots := 0, locals := 22 } : Room) s md args below meth c D cy ad (MQ below (QV D cy ad (gs M0 9 x)) args s 0 0 (AD ad)) (gs M0 9 m) 3 [(0, .ref (ad 9 0)), (1, .int p0), (2, .int p1)] 0 [] := by
    intro H locs hw hS ls hl
    refine lv_aload_n hx hb dX6_meet_0 rfl (lv_at hl 0 rfl) ?_
    refine lv_dup hx hb dX6_meet_1 rfl ?_
    refine r_get hx hb hts hown hK hw (v_md (by decide)) gs_atc E_md inX6 rfl 10 (by decide) k_554 rfl rfl dX6_meet_2 ?_
    refine lv_iload_n hx hb dX6_meet_5 rfl (lv_at hl 2 rfl) ?_
    refine lv_iadd hx hb dX6_meet_6 ?_
    obtain ⟨m2, e1, h⟩ := t_lt h
    refine r_put hx hb hts hown hK hcv hw hS (v_md (by decide)) gs_atc E_md inX6 rfl tyX6 tyX6_ok nmX6 10 (by decide) k_554 rfl rfl rfl rfl (Nat.le_of_ble_eq_true rfl) E_md (gs_up e1) dX6_meet_7 (fun H locs hw hS => ?_)
    refine lv_aload_n hx hb dX6_meet_10 rfl (lv_at hl 0 rfl) ?_
    refine lv_dup hx hb dX6_meet_11 rfl ?_
    refine r_get hx hb hts hown hK hw (v_md (by decide)) gs_atc E_md inX6 rfl 11 (by decide) k_555 rfl rfl dX6_meet_12 ?_
    refine lv_iload_n hx hb dX6_meet_15 rfl (lv_at hl 2 rfl) ?_
    refine lv_aload_n hx hb dX6_meet_16 rfl (lv_at hl 0 rfl) ?_
    refine lv_iload_n hx hb dX6_meet_17 rfl (lv_at hl 1 rfl) ?_
    refine lv_iconst (v := nI 2) hx hb dX6_meet_18 (by decide) ?_
    obtain ⟨r4, y3, h⟩ := t_b1 h
    refine c_vi hx hb hml hown hts hK hw hS (fun _ h => h) (As := [.int p0, .int (nI 2)]) (rest := [.int p1, .int (m2 0 11), .ref (ad 9 0)]) (c_X6_asked hcv (M0 := gs M0 9 m2) (m := m2) (hm := gs_at) y3) cf_X6_asked k_674 rfl rfl ⟨Nat.le_of_ble_eq_true rfl, Nat.le_of_ble_eq_true rfl⟩ (r_recv hK hw (v_md (by decide)) E_md rfl) rfl hl.1 rfl (Nat.le_of_ble_eq_true rfl) ⟨Nat.le_refl _, Nat.le_refl _⟩ dX6_meet_19 (fun H locs hw hS => ?_)
    refine lv_icmp_lt (tgt := 29) hx hb dX6_meet_22 (by decide) (fun q5 => ?_) (fun q5 => ?_)
    · replace h := t_pos h q5
      refine lv_iconst (v := nI 0) hx hb dX6_meet_29 (by decide) ?_
      exact L30 m2 (m2 0 11) (nI 0) h H locs hw hS ls (lv_sub hl [0, 2] rfl)
    · replace h := t_neg h q5
      refine lv_iconst (v := nI 1) hx hb dX6_meet_25 (by decide) ?_
      refine lv_goto (tgt := 30) hx hb dX6_meet_26 (by decide) ?_
      exact L30 m2 (m2 0 11) (nI 1) h H locs hw hS ls (lv_sub hl [0, 2] rfl)
  exact main _ _ hw hS ls hl

theorem cf_X6_answer : cfV RX6 yX6_answer cX6_answer 6 (some .int) 2 := ⟨⟨k_688, k_s15, k_7, k_689⟩, by decide +kernel⟩
def f_X6_answer_L113 (k43 : SM → Int32 → Int32 → Option (Int32 × SM)) (k57 : SM → Int32 → Int32 → Int32 → Option (Int32 × SM)) (p0 : Int32) (p1 : Int32) (m : SM) (x3 : Int32) (x4 : Int32) (x5 : Int32) (s2 : Int32) : Option (Int32 × SM) :=
  bd (f_X6_meet m p0 s2) fun r2 m3 => k57 m3 x3 x4 (x5 + (nI 1))
def f_X6_answer_L122 (k43 : SM → Int32 → Int32 → Option (Int32 × SM)) (p0 : Int32) (p1 : Int32) (m : SM) (x3 : Int32) (x4 : Int32) : Option (Int32 × SM) :=
  k43 m x3 (x4 + (nI 1))
def f_X6_answer_L57 (k43 : SM → Int32 → Int32 → Option (Int32 × SM)) (p0 : Int32) (p1 : Int32) : Nat → SM → Int32 → Int32 → Int32 → Option (Int32 × SM)
  | 0, _, _, _, _ => none
  | n + 1, m, x3, x4, x5 => b1 (f_X6_of m x4 (nI 3)) fun r2 => (if r2 ≤ x5 then f_X6_answer_L122 k43 p0 p1 m x3 x4 else b1 (f_X6_isOf m p0 x4) fun r5 => (if r5 = (nI 0) then f_X6_answer_L122 k43 p0 p1 m x3 x4 else b1 (f_X6_of m x4 (nI 4)) fun r8 => (if r8 ≤ x5 then b1 (f_X6_taken m x4 p1) fun r11 => f_X6_answer_L113 k43 (f_X6_answer_L57 k43 p0 p1 n) p0 p1 m x3 x4 x5 r11 else b1 (f_X6_of m x4 ((nI 5) + x5)) fun r13 => f_X6_answer_L113 k43 (f_X6_answer_L57 k43 p0 p1 n) p0 p1 m x3 x4 x5 r13)))
def f_X6_answer_L128 (p0 : Int32) (p1 : Int32) (m : SM) (x3 : Int32) : Option (Int32 × SM) :=
  b1 (f_X6_asked m p0 (nI 0)) fun r2 => (if r2 = (nI 0) then some ((m 0 10), m) else (if r2 = (nI 1) then some ((m 0 11), m) else (if r2 = (nI 2) then some ((m 0 12), m) else (if r2 = (nI 3) then some ((m 0 13), m) else (gn x3 (some ((((nI 100) * (m 0 10)) / x3), m)))))))
def f_X6_answer_L43 (p0 : Int32) (p1 : Int32) : Nat → SM → Int32 → Int32 → Option (Int32 × SM)
  | 0, _, _, _ => none
  | n + 1, m, x3, x4 => gd (nI 0) 220 ((if (m 1 (nI 0).toNatClampNeg) ≤ x4 then f_X6_answer_L128 p0 p1 m x3 else f_X6_answer_L57 (f_X6_answer_L43 p0 p1 n) p0 p1 FU m x3 x4 (nI 0)))
def f_X6_answer (m : SM) (p0 : Int32) (p1 : Int32) : Option (Int32 × SM) :=
  b1 (f_X6_rowsOf m p0 (nI 3)) fun r2 => (if r2 = (nI 0) then some ((-5 : Int32), m) else bd (f_X6_layReads m) fun r5 m6 => lt1 (up m6 0 10 (nI 0)) fun m8 => lt1 (up m8 0 11 (nI 0)) fun m10 => lt1 (up m10 0 12 (nI 1000)) fun m12 => lt1 (up m12 0 13 (-1 : Int32)) fun m14 => f_X6_answer_L43 p0 p1 FU m14 r2 (nI 0))
set_option maxHeartbeats 4000000 in
set_option maxRecDepth 100000 in
theorem c_X6_answer {l : Launch} {D : va_G} {cy : Nat → ClassId} {ad : Nat → Nat → Nat} (hcv : CV ad) {M0 : MM} {m : SM} (hm : M0 9 = m) {p0 p1 : Int32} {r : Int32} {x : SM} (h : f_X6_answer m p0 p1 = some (r, x)) : Met l yX6_answer (.code yX6_answer cX6_answer 6 (some .int) :: TB) ({ frames := 3, cells := 0, slots := 0, locals := 68 } : Room) (PW D cy ad M0 [.ref (ad 9 0), .int p0, .int p1]) (QI D cy ad r (gs M0 9 x)) 0 0 (AD ad) := by
  refine m_in (by decide +kernel) (Nat.le_of_ble_eq_true rfl) ?_
  intro p e s md args below meth c hC hw hS ls hl
  obtain ⟨hx, hb, hr, hml, hown, hts, hK, hlk⟩ := hC
  have hl : lv_has ls 6 [(0, .ref (ad 9 0)), (1, .int p0), (2, .int p1)] := hl
  rw [← gs_same hm] at hw
  have L113 : ∀ (k43 : SM → Int32 → Int32 → Option (Int32 × SM)) (hk43 : ∀ (m : SM) (x3 : Int32) (x4 : Int32), k43 m x3 x4 = some (r, x) → JL p l e ({ frames := 3, cells := 0, slots := 0, locals := 68 } : Room) s md args below meth c D cy ad (MQ below (QI D cy ad r (gs M0 9 x)) args s 0 0 (AD ad)) (gs M0 9 m) 6 [(0, .ref (ad 9 0)), (1, .int p0), (2, .int p1), (3, .int x3), (4, .int x4)] 43 []) (k57 : SM → Int32 → Int32 → Int32 → Option (Int32 × SM)) (hk57 : ∀ (m : SM) (x3 : Int32) (x4 : Int32) (x5 : Int32), k57 m x3 x4 x5 = some (r, x) → JL p l e ({ frames := 3, cells := 0, slots := 0, locals := 68 } : Room) s md args below meth c D cy ad (MQ below (QI D cy ad r (gs M0 9 x)) args s 0 0 (AD ad)) (gs M0 9 m) 6 [(0, .ref (ad 9 0)), (1, .int p0), (2, .int p1), (3, .int x3), (4, .int x4), (5, .int x5)] 57 []), ∀ (m : SM) (x3 : Int32) (x4 : Int32) (x5 : Int32) (s2 : Int32), f_X6_answer_L113 k43 k57 p0 p1 m x3 x4 x5 s2 = some (r, x) → JL p l e ({ frames := 3, cells := 0, slots := 0, locals := 68 } : Room) s md args below meth c D cy ad (MQ below (QI D cy ad r (gs M0 9 x)) args s 0 0 (AD ad)) (gs M0 9 m) 6 [(0, .ref (ad 9 0)), (1, .int p0), (2, .int p1), (3, .int x3), (4, .int x4), (5, .int x5)] 113 [.int s2, .int p0, .ref (ad 9 0)] := by
    intro k43 hk43 k57 hk57 m x3 x4 x5 s2 h H locs hw hS ls hl
    unfold f_X6_answer_L113 at h
    obtain ⟨r2, m3, y1, h⟩ := t_bd h
    refine c_vv hx hb hml hown hts hK hw hS (fun _ h => h) (As := [.int p0, .int s2]) (rest := []) (c_X6_meet hcv (M0 := gs M0 9 m) (m := m) (hm := gs_at) y1) cf_X6_meet k_702 rfl rfl ⟨Nat.le_of_ble_eq_true rfl, Nat.le_of_ble_eq_true rfl⟩ (r_recv hK hw (v_md (by decide)) E_md rfl) rfl hl.1 rfl (Nat.le_of_ble_eq_true rfl) ⟨Nat.le_refl _, Nat.le_refl _⟩ dX6_answer_113 (fun H locs hw hS => ?_)
    rw [gs_gs] at hw
    refine lv_iinc (v := (x5 + (nI 1))) (lv' := [(5, .int (x5 + (nI 1))), (0, .ref (ad 9 0)), (1, .int p0), (2, .int p1), (3, .int x3), (4, .int x4)]) hx hb dX6_answer_116 hl (k := 5) rfl rfl (by decide) rfl (fun ls hl => ?_)
    refine lv_goto (tgt := 57) hx hb dX6_answer_119 (by decide) ?_
    exact hk57 m3 x3 x4 (x5 + (nI 1)) h H locs hw hS ls (lv_sub hl [1, 2, 3, 4, 5, 0] rfl)
  have L122 : ∀ (k43 : SM → Int32 → Int32 → Option (Int32 × SM)) (hk43 : ∀ (m : SM) (x3 : Int32) (x4 : Int32), k43 m x3 x4 = some (r, x) → JL p l e ({ frames := 3, cells := 0, slots := 0, locals := 68 } : Room) s md args below meth c D cy ad (MQ below (QI D cy ad r (gs M0 9 x)) args s 0 0 (AD ad)) (gs M0 9 m) 6 [(0, .ref (ad 9 0)), (1, .int p0), (2, .int p1), (3, .int x3), (4, .int x4)] 43 []), ∀ (m : SM) (x3 : Int32) (x4 : Int32), f_X6_answer_L122 k43 p0 p1 m x3 x4 = some (r, x) → JL p l e ({ frames := 3, cells := 0, slots := 0, locals := 68 } : Room) s md args below meth c D cy ad (MQ below (QI D cy ad r (gs M0 9 x)) args s 0 0 (AD ad)) (gs M0 9 m) 6 [(0, .ref (ad 9 0)), (1, .int p0), (2, .int p1), (3, .int x3), (4, .int x4)] 122 [] := by
    intro k43 hk43 m x3 x4 h H locs hw hS ls hl
    unfold f_X6_answer_L122 at h
    refine lv_iinc (v := (x4 + (nI 1))) (lv' := [(4, .int (x4 + (nI 1))), (0, .ref (ad 9 0)), (1, .int p0), (2, .int p1), (3, .int x3)]) hx hb dX6_answer_122 hl (k := 4) rfl rfl (by decide) rfl (fun ls hl => ?_)
    refine lv_goto (tgt := 43) hx hb dX6_answer_125 (by decide) ?_
    exact hk43 m x3 (x4 + (nI 1)) h H locs hw hS ls (lv_sub hl [1, 2, 3, 4, 0] rfl)
  have L57 : ∀ (k43 : SM → Int32 → Int32 → Option (Int32 × SM)) (hk43 : ∀ (m : SM) (x3 : Int32) (x4 : Int32), k43 m x3 x4 = some (r, x) → JL p l e ({ frames := 3, cells := 0, slots := 0, locals := 68 } : Room) s md args below meth c D cy ad (MQ below (QI D cy ad r (gs M0 9 x)) args s 0 0 (AD ad)) (gs M0 9 m) 6 [(0, .ref (ad 9 0)), (1, .int p0), (2, .int p1), (3, .int x3), (4, .int x4)] 43 []) (n : Nat), ∀ (m : SM) (x3 : Int32) (x4 : Int32) (x5 : Int32), f_X6_answer_L57 k43 p0 p1 n m x3 x4 x5 = some (r, x) → JL p l e ({ frames := 3, cells := 0, slots := 0, locals := 68 } : Room) s md args below meth c D cy ad (MQ below (QI D cy ad r (gs M0 9 x)) args s 0 0 (AD ad)) (gs M0 9 m) 6 [(0, .ref (ad 9 0)), (1, .int p0), (2, .int p1), (3, .int x3), (4, .int x4), (5, .int x5)] 57 [] := by
    intro k43 hk43 n
    induction n with
    | zero =>
      intro m x3 x4 x5 h
      cases h
    | succ n ih =>
      intro m x3 x4 x5 h H locs hw hS ls hl
      rw [f_X6_answer_L57.eq_2] at h
      refine lv_iload hx hb dX6_answer_57 (lv_at hl 5 rfl) ?_
      refine lv_aload_n hx hb dX6_answer_59 rfl (lv_at hl 0 rfl) ?_
      refine lv_iload hx hb dX6_answer_60 (lv_at hl 4 rfl) ?_
      refine lv_iconst (v := nI 3) hx hb dX6_answer_62 (by decide) ?_
      obtain ⟨r2, y1, h⟩ := t_b1 h
      refine c_vi hx hb hml hown hts hK hw hS (fun _ h => h) (As := [.int x4, .int (nI 3)]) (rest := [.int x5]) (c_X6_of hcv (M0 := gs M0 9 m) (m := m) (hm := gs_at) y1) cf_X6_of k_611 rfl rfl ⟨Nat.le_of_ble_eq_true rfl, Nat.le_of_ble_eq_true rfl⟩ (r_recv hK hw (v_md (by decide)) E_md rfl) rfl hl.1 rfl (Nat.le_of_ble_eq_true rfl) ⟨Nat.le_refl _, Nat.le_refl _⟩ dX6_answer_63 (fun H locs hw hS => ?_)
      refine lv_icmp_ge (tgt := 122) hx hb dX6_answer_66 (by decide) (fun q3 => ?_) (fun q3 => ?_)
      · replace h := t_pos h q3
        exact L122 k43 hk43 m x3 x4 h H locs hw hS ls (lv_sub hl [0, 1, 2, 3, 4] rfl)
      · replace h := t_neg h q3
        refine lv_aload_n hx hb dX6_answer_69 rfl (lv_at hl 0 rfl) ?_
        refine lv_iload_n hx hb dX6_answer_70 rfl (lv_at hl 1 rfl) ?_
        refine lv_iload hx hb dX6_answer_71 (lv_at hl 4 rfl) ?_
        obtain ⟨r5, y4, h⟩ := t_b1 h
        refine c_vi hx hb hml hown hts hK hw hS (fun _ h => h) (As := [.int p0, .int x4]) (rest := []) (c_X6_isOf hcv (M0 := gs M0 9 m) (m := m) (hm := gs_at) y4) cf_X6_isOf k_682 rfl rfl ⟨Nat.le_of_ble_eq_true rfl, Nat.le_of_ble_eq_true rfl⟩ (r_recv hK hw (v_md (by decide)) E_md rfl) rfl hl.1 rfl (Nat.le_of_ble_eq_true rfl) ⟨Nat.le_refl _, Nat.le_refl _⟩ dX6_answer_73 (fun H locs hw hS => ?_)
        refine lv_if_eq (tgt := 122) hx hb dX6_answer_76 (by decide) (fun q6 => ?_) (fun q6 => ?_)
        · replace h := t_pos h q6
          exact L122 k43 hk43 m x3 x4 h H locs hw hS ls (lv_sub hl [0, 1, 2, 3, 4] rfl)
        · replace h := t_neg h q6
          refine lv_aload_n hx hb dX6_answer_79 rfl (lv_at hl 0 rfl) ?_
          refine lv_iload_n hx hb dX6_answer_80 rfl (lv_at hl 1 rfl) ?_
          refine lv_iload hx hb dX6_answer_81 (lv_at hl 5 rfl) ?_
          refine lv_aload_n hx hb dX6_answer_83 rfl (lv_at hl 0 rfl) ?_
          refine lv_iload hx hb dX6_answer_84 (lv_at hl 4 rfl) ?_
          refine lv_iconst (v := nI 4) hx hb dX6_answer_86 (by decide) ?_
          obtain ⟨r8, y7, h⟩ := t_b1 h
          refine c_vi hx hb hml hown hts hK hw hS (fun _ h => h) (As := [.int x4, .int (nI 4)]) (rest := [.int x5, .int p0, .ref (ad 9 0)]) (c_X6_of hcv (M0 := gs M0 9 m) (m := m) (hm := gs_at) y7) cf_X6_of k_611 rfl rfl ⟨Nat.le_of_ble_eq_true rfl, Nat.le_of_ble_eq_true rfl⟩ (r_recv hK hw (v_md (by decide)) E_md rfl) rfl hl.1 rfl (Nat.le_of_ble_eq_true rfl) ⟨Nat.le_refl _, Nat.le_refl _⟩ dX6_answer_87 (fun H locs hw hS => ?_)
          refine lv_icmp_ge (tgt := 106) hx hb dX6_answer_90 (by decide) (fun q9 => ?_) (fun q9 => ?_)
          · replace h := t_pos h q9
            refine lv_aload_n hx hb dX6_answer_106 rfl (lv_at hl 0 rfl) ?_
            refine lv_iload hx hb dX6_answer_107 (lv_at hl 4 rfl) ?_
            refine lv_iload_n hx hb dX6_answer_109 rfl (lv_at hl 2 rfl) ?_
            obtain ⟨r11, y10, h⟩ := t_b1 h
            refine c_vi hx hb hml hown hts hK hw hS (fun _ h => h) (As := [.int x4, .int p1]) (rest := [.int p0, .ref (ad 9 0)]) (c_X6_taken hcv (M0 := gs M0 9 m) (m := m) (hm := gs_at) y10) cf_X6_taken k_698 rfl rfl ⟨Nat.le_of_ble_eq_true rfl, Nat.le_of_ble_eq_true rfl⟩ (r_recv hK hw (v_md (by decide)) E_md rfl) rfl hl.1 rfl (Nat.le_of_ble_eq_true rfl) ⟨Nat.le_refl _, Nat.le_refl _⟩ dX6_answer_110 (fun H locs hw hS => ?_)
            exact L113 k43 hk43 (f_X6_answer_L57 k43 p0 p1 n) ih m x3 x4 x5 r11 h H locs hw hS ls (lv_sub hl [0, 1, 2, 3, 4, 5] rfl)
          · replace h := t_neg h q9
            refine lv_aload_n hx hb dX6_answer_93 rfl (lv_at hl 0 rfl) ?_
            refine lv_iload hx hb dX6_answer_94 (lv_at hl 4 rfl) ?_
            refine lv_iconst (v := nI 5) hx hb dX6_answer_96 (by decide) ?_
            refine lv_iload hx hb dX6_answer_97 (lv_at hl 5 rfl) ?_
            refine lv_iadd hx hb dX6_answer_99 ?_
            obtain ⟨r13, y12, h⟩ := t_b1 h
            refine c_vi hx hb hml hown hts hK hw hS (fun _ h => h) (As := [.int x4, .int ((nI 5) + x5)]) (rest := [.int p0, .ref (ad 9 0)]) (c_X6_of hcv (M0 := gs M0 9 m) (m := m) (hm := gs_at) y12) cf_X6_of k_611 rfl rfl ⟨Nat.le_of_ble_eq_true rfl, Nat.le_of_ble_eq_true rfl⟩ (r_recv hK hw (v_md (by decide)) E_md rfl) rfl hl.1 rfl (Nat.le_of_ble_eq_true rfl) ⟨Nat.le_refl _, Nat.le_refl _⟩ dX6_answer_100 (fun H locs hw hS => ?_)
            refine lv_goto (tgt := 113) hx hb dX6_answer_103 (by decide) ?_
            exact L113 k43 hk43 (f_X6_answer_L57 k43 p0 p1 n) ih m x3 x4 x5 r13 h H locs hw hS ls (lv_sub hl [0, 1, 2, 3, 4, 5] rfl)
  have L128 : ∀ (m : SM) (x3 : Int32), f_X6_answer_L128 p0 p1 m x3 = some (r, x) → JL p l e ({ frames := 3, cells := 0, slots := 0, locals := 68 } : Room) s md args below meth c D cy ad (MQ below (QI D cy ad r (gs M0 9 x)) args s 0 0 (AD ad)) (gs M0 9 m) 6 [(0, .ref (ad 9 0)), (1, .int p0), (3, .int x3)] 128 [] := by
    intro m x3 h H locs hw hS ls hl
    unfold f_X6_answer_L128 at h
    refine lv_aload_n hx hb dX6_answer_128 rfl (lv_at hl 0 rfl) ?_
    refine lv_iload_n hx hb dX6_answer_129 rfl (lv_at hl 1 rfl) ?_
    refine lv_iconst (v := nI 0) hx hb dX6_answer_130 (by decide) ?_
    obtain ⟨r2, y1, h⟩ := t_b1 h
    refine c_vi hx hb hml hown hts hK hw hS (fun _ h => h) (As := [.int p0, .int (nI 0)]) (rest := []) (c_X6_asked hcv (M0 := gs M0 9 m) (m := m) (hm := gs_at) y1) cf_X6_asked k_674 rfl rfl ⟨Nat.le_of_ble_eq_true rfl, Nat.le_of_ble_eq_true rfl⟩ (r_recv hK hw (v_md (by decide)) E_md rfl) rfl hl.1 rfl (Nat.le_of_ble_eq_true rfl) ⟨Nat.le_refl _, Nat.le_refl _⟩ dX6_answer_131 (fun H locs hw hS => ?_)
    by_cases q3 : r2 = (nI 0)
    · replace h := t_pos h q3
      refine lv_tableIn (off := 30) (tgt := 164) hx hb dX6_answer_134 (by rw [q3]; decide) (by rw [q3]; decide) (by rw [q3]; rfl) (by decide) ?_
      refine lv_aload_n hx hb dX6_answer_164 rfl (lv_at hl 0 rfl) ?_
      refine r_get hx hb hts hown hK hw (v_md (by decide)) gs_atc E_md inX6 rfl 10 (by decide) k_554 rfl rfl dX6_answer_165 ?_
      have e1 := (t_ret h).1
      have e2 := (t_ret h).2
      exact e_i hx hb hr hlk hw hS e1 (by rw [e2]) dX6_answer_168
    · replace h := t_neg h q3
      by_cases q4 : r2 = (nI 1)
      · replace h := t_pos h q4
        refine lv_tableIn (off := 35) (tgt := 169) hx hb dX6_answer_134 (by rw [q4]; decide) (by rw [q4]; decide) (by rw [q4]; rfl) (by decide) ?_
        refine lv_aload_n hx hb dX6_answer_169 rfl (lv_at hl 0 rfl) ?_
        refine r_get hx hb hts hown hK hw (v_md (by decide)) gs_atc E_md inX6 rfl 11 (by decide) k_555 rfl rfl dX6_answer_170 ?_
        have e1 := (t_ret h).1
        have e2 := (t_ret h).2
        exact e_i hx hb hr hlk hw hS e1 (by rw [e2]) dX6_answer_173
      · replace h := t_neg h q4
        by_cases q5 : r2 = (nI 2)
        · replace h := t_pos h q5
          refine lv_tableIn (off := 40) (tgt := 174) hx hb dX6_answer_134 (by rw [q5]; decide) (by rw [q5]; decide) (by rw [q5]; rfl) (by decide) ?_
          refine lv_aload_n hx hb dX6_answer_174 rfl (lv_at hl 0 rfl) ?_
          refine r_get hx hb hts hown hK hw (v_md (by decide)) gs_atc E_md inX6 rfl 12 (by decide) k_556 rfl rfl dX6_answer_175 ?_
          have e1 := (t_ret h).1
          have e2 := (t_ret h).2
          exact e_i hx hb hr hlk hw hS e1 (by rw [e2]) dX6_answer_178
        · replace h := t_neg h q5
          by_cases q6 : r2 = (nI 3)
          · replace h := t_pos h q6
            refine lv_tableIn (off := 45) (tgt := 179) hx hb dX6_answer_134 (by rw [q6]; decide) (by rw [q6]; decide) (by rw [q6]; rfl) (by decide) ?_
            refine lv_aload_n hx hb dX6_answer_179 rfl (lv_at hl 0 rfl) ?_
            refine r_get hx hb hts hown hK hw (v_md (by decide)) gs_atc E_md inX6 rfl 13 (by decide) k_557 rfl rfl dX6_answer_180 ?_
            have e1 := (t_ret h).1
            have e2 := (t_ret h).2
            exact e_i hx hb hr hlk hw hS e1 (by rw [e2]) dX6_answer_183
          · replace h := t_neg h q6
            refine lv_tableOut (tgt := 184) hx hb dX6_answer_134 (tab_out (lo := 0) (n := 4) (by decide) (lt_s (lt_s (lt_s (lt_s lt_0 q3) q4) q5) q6)) (by decide) ?_
            refine lv_bipush (v := nI 100) hx hb dX6_answer_184 (by decide) ?_
            refine lv_aload_n hx hb dX6_answer_186 rfl (lv_at hl 0 rfl) ?_
            refine r_get hx hb hts hown hK hw (v_md (by decide)) gs_atc E_md inX6 rfl 10 (by decide) k_554 rfl rfl dX6_answer_187 ?_
            refine lv_imul hx hb dX6_answer_190 ?_
            refine lv_iload_n hx hb dX6_answer_191 rfl (lv_at hl 2 rfl) ?_
            obtain ⟨q7, h⟩ := t_gn h
            refine lv_idiv hx hb dX6_answer_192 q7 ?_
            have e1 := (t_ret h).1
            have e2 := (t_ret h).2
            exact e_i hx hb hr hlk hw hS e1 (by rw [e2]) dX6_answer_193
  have L43 : ∀ (n : Nat), ∀ (m : SM) (x3 : Int32) (x4 : Int32), f_X6_answer_L43 p0 p1 n m x3 x4 = some (r, x) → JL p l e ({ frames := 3, cells := 0, slots := 0, locals := 68 } : Room) s md args below meth c D cy ad (MQ below (QI D cy ad r (gs M0 9 x)) args s 0 0 (AD ad)) (gs M0 9 m) 6 [(0, .ref (ad 9 0)), (1, .int p0), (2, .int p1), (3, .int x3), (4, .int x4)] 43 [] := by
    intro n
    induction n with
    | zero =>
      intro m x3 x4 h
      cases h
    | succ n ih =>
      intro m x3 x4 h H locs hw hS ls hl
      rw [f_X6_answer_L43.eq_2] at h
      refine lv_iload hx hb dX6_answer_43 (lv_at hl 4 rfl) ?_
      refine lv_aload_n hx hb dX6_answer_45 rfl (lv_at hl 0 rfl) ?_
      refine r_get hx hb hts hown hK hw (v_md (by decide)) gs_atc E_md inX6 rfl 0 (by decide) k_544 rfl rfl dX6_answer_46 ?_
      refine lv_iconst (v := nI 0) hx hb dX6_answer_49 (by decide) ?_
      obtain ⟨q1, h⟩ := t_gd h
      refine r_iald hx hb hK hw (v_md (by decide)) gs_atc E_m1 q1 dX6_answer_50 ?_
      refine lv_icmp_ge (tgt := 128) hx hb dX6_answer_51 (by decide) (fun q2 => ?_) (fun q2 => ?_)
      · replace h := t_pos h q2
        exact L128 m x3 h H locs hw hS ls (lv_sub hl [0, 1, 3] rfl)
      · replace h := t_neg h q2
        refine lv_iconst (v := nI 0) hx hb dX6_answer_54 (by decide) ?_
        refine lv_istore (lv' := [(5, .int (nI 0)), (0, .ref (ad 9 0)), (1, .int p0), (2, .int p1), (3, .int x3), (4, .int x4)]) hx hb dX6_answer_55 hl (by decide) rfl (fun ls hl => ?_)
        exact L57 (f_X6_answer_L43 p0 p1 n) ih FU m x3 x4 (nI 0) h H locs hw hS ls (lv_sub hl [1, 2, 3, 4, 5, 0] rfl)
  unfold f_X6_answer at h
  have main : JL p l e ({ frames := 3, cells := 0, slots := 0, locals := 68 } : Room) s md args below meth c D cy ad (MQ below (QI D cy ad r (gs M0 9 x)) args s 0 0 (AD ad)) (gs M0 9 m) 6 [(0, .ref (ad 9 0)), (1, .int p0), (2, .int p1)] 0 [] := by
    intro H locs hw hS ls hl
    refine lv_aload_n hx hb dX6_answer_0 rfl (lv_at hl 0 rfl) ?_
    refine lv_iload_n hx hb dX6_answer_1 rfl (lv_at hl 1 rfl) ?_
    refine lv_iconst (v := nI 3) hx hb dX6_answer_2 (by decide) ?_
    obtain ⟨r2, y1, h⟩ := t_b1 h
    refine c_vi hx hb hml hown hts hK hw hS (fun _ h => h) (As := [.int p0, .int (nI 3)]) (rest := []) (c_X6_rowsOf hcv (M0 := gs M0 9 m) (m := m) (hm := gs_at) y1) cf_X6_rowsOf k_678 rfl rfl ⟨Nat.le_of_ble_eq_true rfl, Nat.le_of_ble_eq_true rfl⟩ (r_recv hK hw (v_md (by decide)) E_md rfl) rfl hl.1 rfl (Nat.le_of_ble_eq_true rfl) ⟨Nat.le_refl _, Nat.le_refl _⟩ dX6_answer_3 (fun H locs hw hS => ?_)
    refine lv_istore_n (lv' := [(3, .int r2), (0, .ref (ad 9 0)), (1, .int p0), (2, .int p1)]) hx hb dX6_answer_6 rfl hl (by decide) rfl (fun ls hl => ?_)
    refine lv_iload_n hx hb dX6_answer_7 rfl (lv_at hl 0 rfl) ?_
    refine lv_if_ne (tgt := 14) hx hb dX6_answer_8 (by decide) (fun q3 => ?_) (fun q3 => ?_)
    · replace h := t_neg h q3
      refine lv_aload_n hx hb dX6_answer_14 rfl (lv_at hl 1 rfl) ?_
      obtain ⟨r5, m6, y4, h⟩ := t_bd h
      refine c_vv hx hb hml hown hts hK hw hS (fun _ h => h) (As := []) (rest := []) (c_X6_layReads hcv (M0 := gs M0 9 m) (m := m) (hm := gs_at) y4) cf_X6_layReads k_690 rfl rfl ⟨Nat.le_of_ble_eq_true rfl, Nat.le_of_ble_eq_true rfl⟩ (r_recv hK hw (v_md (by decide)) E_md rfl) rfl hl.1 rfl (Nat.le_of_ble_eq_true rfl) ⟨Nat.le_refl _, Nat.le_refl _⟩ dX6_answer_15 (fun H locs hw hS => ?_)
      rw [gs_gs] at hw
      refine lv_aload_n hx hb dX6_answer_18 rfl (lv_at hl 1 rfl) ?_
      refine lv_iconst (v := nI 0) hx hb dX6_answer_19 (by decide) ?_
      obtain ⟨m8, e7, h⟩ := t_lt h
      refine r_put hx hb hts hown hK hcv hw hS (v_md (by decide)) gs_atc E_md inX6 rfl tyX6 tyX6_ok nmX6 10 (by decide) k_554 rfl rfl rfl rfl (Nat.le_of_ble_eq_true rfl) E_md (gs_up e7) dX6_answer_20 (fun H locs hw hS => ?_)
      refine lv_aload_n hx hb dX6_answer_23 rfl (lv_at hl 1 rfl) ?_
      refine lv_iconst (v := nI 0) hx hb dX6_answer_24 (by decide) ?_
      obtain ⟨m10, e9, h⟩ := t_lt h
      refine r_put hx hb hts hown hK hcv hw hS (v_md (by decide)) gs_atc E_md inX6 rfl tyX6 tyX6_ok nmX6 11 (by decide) k_555 rfl rfl rfl rfl (Nat.le_of_ble_eq_true rfl) E_md (gs_up e9) dX6_answer_25 (fun H locs hw hS => ?_)
      refine lv_aload_n hx hb dX6_answer_28 rfl (lv_at hl 1 rfl) ?_
      refine lv_sipush (v := nI 1000) hx hb dX6_answer_29 (by decide) ?_
      obtain ⟨m12, e11, h⟩ := t_lt h
      refine r_put hx hb hts hown hK hcv hw hS (v_md (by decide)) gs_atc E_md inX6 rfl tyX6 tyX6_ok nmX6 12 (by decide) k_556 rfl rfl rfl rfl (Nat.le_of_ble_eq_true rfl) E_md (gs_up e11) dX6_answer_32 (fun H locs hw hS => ?_)
      refine lv_aload_n hx hb dX6_answer_35 rfl (lv_at hl 1 rfl) ?_
      refine lv_iconst (v := -1) hx hb dX6_answer_36 (by decide) ?_
      obtain ⟨m14, e13, h⟩ := t_lt h
      refine r_put hx hb hts hown hK hcv hw hS (v_md (by decide)) gs_atc E_md inX6 rfl tyX6 tyX6_ok nmX6 13 (by decide) k_557 rfl rfl rfl rfl (Nat.le_of_ble_eq_true rfl) E_md (gs_up e13) dX6_answer_37 (fun H locs hw hS => ?_)
      refine lv_iconst (v := nI 0) hx hb dX6_answer_40 (by decide) ?_
      refine lv_istore (lv' := [(4, .int (nI 0)), (3, .int r2), (0, .ref (ad 9 0)), (1, .int p0), (2, .int p1)]) hx hb dX6_answer_41 hl (by decide) rfl (fun ls hl => ?_)
      exact L43 FU m14 r2 (nI 0) h H locs hw hS ls (lv_sub hl [2, 3, 4, 1, 0] rfl)
    · replace h := t_pos h q3
      refine lv_bipush (v := -5) hx hb dX6_answer_11 (by decide) ?_
      have e1 := (t_ret h).1
      have e2 := (t_ret h).2
      exact e_i hx hb hr hlk hw hS e1 (by rw [e2]) dX6_answer_13
  exact main _ _ hw hS ls hl

theorem cf_X6_stopIt : cfV RX6 yX6_stopIt cX6_stopIt 3 none 1 := ⟨⟨k_708, k_s20, k_7, k_709⟩, by decide +kernel⟩
def f_X6_stopIt_L9 (p0 : Int32) : Nat → SM → Int32 → Option (Int32 × SM)
  | 0, _, _ => none
  | n + 1, m, x2 => (if (nI 3) ≤ x2 then some (0, m) else bd (f_X6_answer m p0 x2) fun r3 m4 => bd (f_X6_putAsked m4 p0 ((nI 5) + x2) r3) fun r6 m7 => f_X6_stopIt_L9 p0 n m7 (x2 + (nI 1)))
def f_X6_stopIt (m : SM) (p0 : Int32) : Option (Int32 × SM) :=
  bd (f_X6_putAsked m p0 (nI 4) (nI 1)) fun r2 m3 => f_X6_stopIt_L9 p0 FU m3 (nI 0)
set_option maxHeartbeats 4000000 in
set_option maxRecDepth 100000 in
theorem c_X6_stopIt {l : Launch} {D : va_G} {cy : Nat → ClassId} {ad : Nat → Nat → Nat} (hcv : CV ad) {M0 : MM} {m : SM} (hm : M0 9 = m) {p0 : Int32} {r : Int32} {x : SM} (h : f_X6_stopIt m p0 = some (r, x)) : Met l yX6_stopIt (.code yX6_stopIt cX6_stopIt 3 none :: TB) ({ frames := 4, cells := 0, slots := 0, locals := 93 } : Room) (PW D cy ad M0 [.ref (ad 9 0), .int p0]) (QV D cy ad (gs M0 9 x)) 0 0 (AD ad) := by
  refine m_in (by decide +kernel) (Nat.le_of_ble_eq_true rfl) ?_
  intro p e s md args below meth c hC hw hS ls hl
  obtain ⟨hx, hb, hr, hml, hown, hts, hK, hlk⟩ := hC
  have hl : lv_has ls 3 [(0, .ref (ad 9 0)), (1, .int p0)] := hl
  rw [← gs_same hm] at hw
  have L9 : ∀ (n : Nat), ∀ (m : SM) (x2 : Int32), f_X6_stopIt_L9 p0 n m x2 = some (r, x) → JL p l e ({ frames := 4, cells := 0, slots := 0, locals := 93 } : Room) s md args below meth c D cy ad (MQ below (QV D cy ad (gs M0 9 x)) args s 0 0 (AD ad)) (gs M0 9 m) 3 [(0, .ref (ad 9 0)), (1, .int p0), (2, .int x2)] 9 [] := by
    intro n
    induction n with
    | zero =>
      intro m x2 h
      cases h
    | succ n ih =>
      intro m x2 h H locs hw hS ls hl
      rw [f_X6_stopIt_L9.eq_2] at h
      refine lv_iload_n hx hb dX6_stopIt_9 rfl (lv_at hl 2 rfl) ?_
      refine lv_iconst (v := nI 3) hx hb dX6_stopIt_10 (by decide) ?_
      refine lv_icmp_ge (tgt := 34) hx hb dX6_stopIt_11 (by decide) (fun q1 => ?_) (fun q1 => ?_)
      · replace h := t_pos h q1
        have e1 := (t_ret h).1
        have e2 := (t_ret h).2
        exact e_v hx hb hr hlk hw hS (by rw [e2]) dX6_stopIt_34
      · replace h := t_neg h q1
        refine lv_aload_n hx hb dX6_stopIt_14 rfl (lv_at hl 0 rfl) ?_
        refine lv_iload_n hx hb dX6_stopIt_15 rfl (lv_at hl 1 rfl) ?_
        refine lv_iconst (v := nI 5) hx hb dX6_stopIt_16 (by decide) ?_
        refine lv_iload_n hx hb dX6_stopIt_17 rfl (lv_at hl 2 rfl) ?_
        refine lv_iadd hx hb dX6_stopIt_18 ?_
        refine lv_aload_n hx hb dX6_stopIt_19 rfl (lv_at hl 0 rfl) ?_
        refine lv_iload_n hx hb dX6_stopIt_20 rfl (lv_at hl 1 rfl) ?_
        refine lv_iload_n hx hb dX6_stopIt_21 rfl (lv_at hl 2 rfl) ?_
        obtain ⟨r3, m4, y2, h⟩ := t_bd h
        refine c_vi hx hb hml hown hts hK hw hS (fun _ h => h) (As := [.int p0, .int x2]) (rest := [.int ((nI 5) + x2), .int p0, .ref (ad 9 0)]) (c_X6_answer hcv (M0 := gs M0 9 m) (m := m) (hm := gs_at) y2) cf_X6_answer k_686 rfl rfl ⟨Nat.le_of_ble_eq_true rfl, Nat.le_of_ble_eq_true rfl⟩ (r_recv hK hw (v_md (by decide)) E_md rfl) rfl hl.1 rfl (Nat.le_of_ble_eq_true rfl) ⟨Nat.le_refl _, Nat.le_refl _⟩ dX6_stopIt_22 (fun H locs hw hS => ?_)
        rw [gs_gs] at hw
        obtain ⟨r6, m7, y5, h⟩ := t_bd h
        refine c_vv hx hb hml hown hts hK hw hS (fun _ h => h) (As := [.int p0, .int ((nI 5) + x2), .int r3]) (rest := []) (c_X6_putAsked hcv (M0 := gs M0 9 m4) (m := m4) (hm := gs_at) y5) cf_X6_putAsked k_710 rfl rfl ⟨Nat.le_of_ble_eq_true rfl, Nat.le_of_ble_eq_true rfl⟩ (r_recv hK hw (v_md (by decide)) E_md rfl) rfl hl.1 rfl (Nat.le_of_ble_eq_true rfl) ⟨Nat.le_refl _, Nat.le_refl _⟩ dX6_stopIt_25 (fun H locs hw hS => ?_)
        rw [gs_gs] at hw
        refine lv_iinc (v := (x2 + (nI 1))) (lv' := [(2, .int (x2 + (nI 1))), (0, .ref (ad 9 0)), (1, .int p0)]) hx hb dX6_stopIt_28 hl (k := 2) rfl rfl (by decide) rfl (fun ls hl => ?_)
        refine lv_goto (tgt := 9) hx hb dX6_stopIt_31 (by decide) ?_
        exact ih m7 (x2 + (nI 1)) h H locs hw hS ls (lv_sub hl [1, 2, 0] rfl)
  unfold f_X6_stopIt at h
  have main : JL p l e ({ frames := 4, cells := 0, slots := 0, locals := 93 } : Room) s md args below meth c D cy ad (MQ below (QV D cy ad (gs M0 9 x)) args s 0 0 (AD ad)) (gs M0 9 m) 3 [(0, .ref (ad 9 0)), (1, .int p0)] 0 [] := by
    intro H locs hw hS ls hl
    refine lv_aload_n hx hb dX6_stopIt_0 rfl (lv_at hl 0 rfl) ?_
    refine lv_iload_n hx hb dX6_stopIt_1 rfl (lv_at hl 1 rfl) ?_
    refine lv_iconst (v := nI 4) hx hb dX6_stopIt_2 (by decide) ?_
    refine lv_iconst (v := nI 1) hx hb dX6_stopIt_3 (by decide) ?_
    obtain ⟨r2, m3, y1, h⟩ := t_bd h
    refine c_vv hx hb hml hown hts hK hw hS (fun _ h => h) (As := [.int p0, .int (nI 4), .int (nI 1)]) (rest := []) (c_X6_putAsked hcv (M0 := gs M0 9 m) (m := m) (hm := gs_at) y1) cf_X6_putAsked k_710 rfl rfl ⟨Nat.le_of_ble_eq_true rfl, Nat.le_of_ble_eq_true rfl⟩ (r_recv hK hw (v_md (by decide)) E_md rfl) rfl hl.1 rfl (Nat.le_of_ble_eq_true rfl) ⟨Nat.le_refl _, Nat.le_refl _⟩ dX6_stopIt_4 (fun H locs hw hS => ?_)
    rw [gs_gs] at hw
    refine lv_iconst (v := nI 0) hx hb dX6_stopIt_7 (by decide) ?_
    refine lv_istore_n (lv' := [(2, .int (nI 0)), (0, .ref (ad 9 0)), (1, .int p0)]) hx hb dX6_stopIt_8 rfl hl (by decide) rfl (fun ls hl => ?_)
    exact L9 FU m3 (nI 0) h H locs hw hS ls (lv_sub hl [1, 2, 0] rfl)
  exact main _ _ hw hS ls hl

theorem cf_X6_settle : cfV RX6 yX6_settle cX6_settle 3 none 0 := ⟨⟨k_672, k_s11, k_7, k_673⟩, by decide +kernel⟩
def f_X6_settle_L35 (k2 : SM → Int32 → Option (Int32 × SM)) (m : SM) (x1 : Int32) (s0 : Int32) : Option (Int32 × SM) :=
  (if s0 = (nI 0) then k2 m (x1 + (nI 1)) else bd (f_X6_answer m x1 (nI 1)) fun r3 m4 => bd (f_X6_answer m4 x1 (nI 0)) fun r6 m7 => b1 (f_X6_asked m7 x1 (nI 3)) fun r9 => (if r9 < (r3 - r6) then k2 m7 (x1 + (nI 1)) else bd (f_X6_stopIt m7 x1) fun r12 m13 => k2 m13 (x1 + (nI 1))))
def f_X6_settle_L34 (k2 : SM → Int32 → Option (Int32 × SM)) (m : SM) (x1 : Int32) : Option (Int32 × SM) :=
  f_X6_settle_L35 k2 m x1 (nI 0)
def f_X6_settle_L2 : Nat → SM → Int32 → Option (Int32 × SM)
  | 0, _, _ => none
  | n + 1, m, x1 => gd (nI 1) 220 ((if (m 1 (nI 1).toNatClampNeg) ≤ x1 then some (0, m) else b1 (f_X6_asked m x1 (nI 4)) fun r4 => (if r4 = (nI 0) then b1 (f_X6_rowsOf m x1 (nI 3)) fun r7 => (if r7 ≤ (nI 0) then f_X6_settle_L34 (f_X6_settle_L2 n) m x1 else f_X6_settle_L35 (f_X6_settle_L2 n) m x1 (nI 1)) else f_X6_settle_L34 (f_X6_settle_L2 n) m x1)))
def f_X6_settle (m : SM) : Option (Int32 × SM) :=
  f_X6_settle_L2 FU m (nI 0)
set_option maxHeartbeats 4000000 in
set_option maxRecDepth 100000 in
theorem c_X6_settle {l : Launch} {D : va_G} {cy : Nat → ClassId} {ad : Nat → Nat → Nat} (hcv : CV ad) {M0 : MM} {m : SM} (hm : M0 9 = m) {r : Int32} {x : SM} (h : f_X6_settle m = some (r, x)) : Met l yX6_settle (.code yX6_settle cX6_settle 3 none :: TB) ({ frames := 5, cells := 0, slots := 0, locals := 115 } : Room) (PW D cy ad M0 [.ref (ad 9 0)]) (QV D cy ad (gs M0 9 x)) 0 0 (AD ad) := by
  refine m_in (by decide +kernel) (Nat.le_of_ble_eq_true rfl) ?_
  intro p e s md args below meth c hC hw hS ls hl
  obtain ⟨hx, hb, hr, hml, hown, hts, hK, hlk⟩ := hC
  have hl : lv_has ls 3 [(0, .ref (ad 9 0))] := hl
  rw [← gs_same hm] at hw
  have L35 : ∀ (k2 : SM → Int32 → Option (Int32 × SM)) (hk2 : ∀ (m : SM) (x1 : Int32), k2 m x1 = some (r, x) → JL p l e ({ frames := 5, cells := 0, slots := 0, locals := 115 } : Room) s md args below meth c D cy ad (MQ below (QV D cy ad (gs M0 9 x)) args s 0 0 (AD ad)) (gs M0 9 m) 3 [(0, .ref (ad 9 0)), (1, .int x1)] 2 []), ∀ (m : SM) (x1 : Int32) (s0 : Int32), f_X6_settle_L35 k2 m x1 s0 = some (r, x) → JL p l e ({ frames := 5, cells := 0, slots := 0, locals := 115 } : Room) s md args below meth c D cy ad (MQ below (QV D cy ad (gs M0 9 x)) args s 0 0 (AD ad)) (gs M0 9 m) 3 [(0, .ref (ad 9 0)), (1, .int x1)] 35 [.int s0] := by
    intro k2 hk2 m x1 s0 h H locs hw hS ls hl
    unfold f_X6_settle_L35 at h
    refine lv_istore_n (lv' := [(2, .int s0), (0, .ref (ad 9 0)), (1, .int x1)]) hx hb dX6_settle_35 rfl hl (by decide) rfl (fun ls hl => ?_)
    refine lv_iload_n hx hb dX6_settle_36 rfl (lv_at hl 0 rfl) ?_
    refine lv_if_eq (tgt := 67) hx hb dX6_settle_37 (by decide) (fun q1 => ?_) (fun q1 => ?_)
    · replace h := t_pos h q1
      refine lv_iinc (v := (x1 + (nI 1))) (lv' := [(1, .int (x1 + (nI 1))), (2, .int s0), (0, .ref (ad 9 0))]) hx hb dX6_settle_67 hl (k := 2) rfl rfl (by decide) rfl (fun ls hl => ?_)
      refine lv_goto (tgt := 2) hx hb dX6_settle_70 (by decide) ?_
      exact hk2 m (x1 + (nI 1)) h H locs hw hS ls (lv_sub hl [2, 0] rfl)
    · replace h := t_neg h q1
      refine lv_aload_n hx hb dX6_settle_40 rfl (lv_at hl 1 rfl) ?_
      refine lv_iload_n hx hb dX6_settle_41 rfl (lv_at hl 2 rfl) ?_
      refine lv_iconst (v := nI 1) hx hb dX6_settle_42 (by decide) ?_
      obtain ⟨r3, m4, y2, h⟩ := t_bd h
      refine c_vi hx hb hml hown hts hK hw hS (fun _ h => h) (As := [.int x1, .int (nI 1)]) (rest := []) (c_X6_answer hcv (M0 := gs M0 9 m) (m := m) (hm := gs_at) y2) cf_X6_answer k_686 rfl rfl ⟨Nat.le_of_ble_eq_true rfl, Nat.le_of_ble_eq_true rfl⟩ (r_recv hK hw (v_md (by decide)) E_md rfl) rfl hl.1 rfl (Nat.le_of_ble_eq_true rfl) ⟨Nat.le_refl _, Nat.le_refl _⟩ dX6_settle_43 (fun H locs hw hS => ?_)
      rw [gs_gs] at hw
      refine lv_aload_n hx hb dX6_settle_46 rfl (lv_at hl 1 rfl) ?_
      refine lv_iload_n hx hb dX6_settle_47 rfl (lv_at hl 2 rfl) ?_
      refine lv_iconst (v := nI 0) hx hb dX6_settle_48 (by decide) ?_
      obtain ⟨r6, m7, y5, h⟩ := t_bd h
      refine c_vi hx hb hml hown hts hK hw hS (fun _ h => h) (As := [.int x1, .int (nI 0)]) (rest := [.int r3]) (c_X6_answer hcv (M0 := gs M0 9 m4) (m := m4) (hm := gs_at) y5) cf_X6_answer k_686 rfl rfl ⟨Nat.le_of_ble_eq_true rfl, Nat.le_of_ble_eq_true rfl⟩ (r_recv hK hw (v_md (by decide)) E_md rfl) rfl hl.1 rfl (Nat.le_of_ble_eq_true rfl) ⟨Nat.le_refl _, Nat.le_refl _⟩ dX6_settle_49 (fun H locs hw hS => ?_)
      rw [gs_gs] at hw
      refine lv_isub hx hb dX6_settle_52 ?_
      refine lv_aload_n hx hb dX6_settle_53 rfl (lv_at hl 1 rfl) ?_
      refine lv_iload_n hx hb dX6_settle_54 rfl (lv_at hl 2 rfl) ?_
      refine lv_iconst (v := nI 3) hx hb dX6_settle_55 (by decide) ?_
      obtain ⟨r9, y8, h⟩ := t_b1 h
      refine c_vi hx hb hml hown hts hK hw hS (fun _ h => h) (As := [.int x1, .int (nI 3)]) (rest := [.int (r3 - r6)]) (c_X6_asked hcv (M0 := gs M0 9 m7) (m := m7) (hm := gs_at) y8) cf_X6_asked k_674 rfl rfl ⟨Nat.le_of_ble_eq_true rfl, Nat.le_of_ble_eq_true rfl⟩ (r_recv hK hw (v_md (by decide)) E_md rfl) rfl hl.1 rfl (Nat.le_of_ble_eq_true rfl) ⟨Nat.le_refl _, Nat.le_refl _⟩ dX6_settle_56 (fun H locs hw hS => ?_)
      refine lv_icmp_gt (tgt := 67) hx hb dX6_settle_59 (by decide) (fun q10 => ?_) (fun q10 => ?_)
      · replace h := t_pos h q10
        refine lv_iinc (v := (x1 + (nI 1))) (lv' := [(1, .int (x1 + (nI 1))), (2, .int s0), (0, .ref (ad 9 0))]) hx hb dX6_settle_67 hl (k := 2) rfl rfl (by decide) rfl (fun ls hl => ?_)
        refine lv_goto (tgt := 2) hx hb dX6_settle_70 (by decide) ?_
        exact hk2 m7 (x1 + (nI 1)) h H locs hw hS ls (lv_sub hl [2, 0] rfl)
      · replace h := t_neg h q10
        refine lv_aload_n hx hb dX6_settle_62 rfl (lv_at hl 1 rfl) ?_
        refine lv_iload_n hx hb dX6_settle_63 rfl (lv_at hl 2 rfl) ?_
        obtain ⟨r12, m13, y11, h⟩ := t_bd h
        refine c_vv hx hb hml hown hts hK hw hS (fun _ h => h) (As := [.int x1]) (rest := []) (c_X6_stopIt hcv (M0 := gs M0 9 m7) (m := m7) (hm := gs_at) y11) cf_X6_stopIt k_706 rfl rfl ⟨Nat.le_of_ble_eq_true rfl, Nat.le_of_ble_eq_true rfl⟩ (r_recv hK hw (v_md (by decide)) E_md rfl) rfl hl.1 rfl (Nat.le_of_ble_eq_true rfl) ⟨Nat.le_refl _, Nat.le_refl _⟩ dX6_settle_64 (fun H locs hw hS => ?_)
        rw [gs_gs] at hw
        refine lv_iinc (v := (x1 + (nI 1))) (lv' := [(1, .int (x1 + (nI 1))), (2, .int s0), (0, .ref (ad 9 0))]) hx hb dX6_settle_67 hl (k := 2) rfl rfl (by decide) rfl (fun ls hl => ?_)
        refine lv_goto (tgt := 2) hx hb dX6_settle_70 (by decide) ?_
        exact hk2 m13 (x1 + (nI 1)) h H locs hw hS ls (lv_sub hl [2, 0] rfl)
  have L34 : ∀ (k2 : SM → Int32 → Option (Int32 × SM)) (hk2 : ∀ (m : SM) (x1 : Int32), k2 m x1 = some (r, x) → JL p l e ({ frames := 5, cells := 0, slots := 0, locals := 115 } : Room) s md args below meth c D cy ad (MQ below (QV D cy ad (gs M0 9 x)) args s 0 0 (AD ad)) (gs M0 9 m) 3 [(0, .ref (ad 9 0)), (1, .int x1)] 2 []), ∀ (m : SM) (x1 : Int32), f_X6_settle_L34 k2 m x1 = some (r, x) → JL p l e ({ frames := 5, cells := 0, slots := 0, locals := 115 } : Room) s md args below meth c D cy ad (MQ below (QV D cy ad (gs M0 9 x)) args s 0 0 (AD ad)) (gs M0 9 m) 3 [(0, .ref (ad 9 0)), (1, .int x1)] 34 [] := by
    intro k2 hk2 m x1 h H locs hw hS ls hl
    unfold f_X6_settle_L34 at h
    refine lv_iconst (v := nI 0) hx hb dX6_settle_34 (by decide) ?_
    exact L35 k2 hk2 m x1 (nI 0) h H locs hw hS ls (lv_sub hl [0, 1] rfl)
  have L2 : ∀ (n : Nat), ∀ (m : SM) (x1 : Int32), f_X6_settle_L2 n m x1 = some (r, x) → JL p l e ({ frames := 5, cells := 0, slots := 0, locals := 115 } : Room) s md args below meth c D cy ad (MQ below (QV D cy ad (gs M0 9 x)) args s 0 0 (AD ad)) (gs M0 9 m) 3 [(0, .ref (ad 9 0)), (1, .int x1)] 2 [] := by
    intro n
    induction n with
    | zero =>
      intro m x1 h
      cases h
    | succ n ih =>
      intro m x1 h H locs hw hS ls hl
      rw [f_X6_settle_L2.eq_2] at h
      refine lv_iload_n hx hb dX6_settle_2 rfl (lv_at hl 1 rfl) ?_
      refine lv_aload_n hx hb dX6_settle_3 rfl (lv_at hl 0 rfl) ?_
      refine r_get hx hb hts hown hK hw (v_md (by decide)) gs_atc E_md inX6 rfl 0 (by decide) k_544 rfl rfl dX6_settle_4 ?_
      refine lv_iconst (v := nI 1) hx hb dX6_settle_7 (by decide) ?_
      obtain ⟨q1, h⟩ := t_gd h
      refine r_iald hx hb hK hw (v_md (by decide)) gs_atc E_m1 q1 dX6_settle_8 ?_
      refine lv_icmp_ge (tgt := 73) hx hb dX6_settle_9 (by decide) (fun q2 => ?_) (fun q2 => ?_)
      · replace h := t_pos h q2
        have e1 := (t_ret h).1
        have e2 := (t_ret h).2
        exact e_v hx hb hr hlk hw hS (by rw [e2]) dX6_settle_73
      · replace h := t_neg h q2
        refine lv_aload_n hx hb dX6_settle_12 rfl (lv_at hl 0 rfl) ?_
        refine lv_iload_n hx hb dX6_settle_13 rfl (lv_at hl 1 rfl) ?_
        refine lv_iconst (v := nI 4) hx hb dX6_settle_14 (by decide) ?_
        obtain ⟨r4, y3, h⟩ := t_b1 h
        refine c_vi hx hb hml hown hts hK hw hS (fun _ h => h) (As := [.int x1, .int (nI 4)]) (rest := []) (c_X6_asked hcv (M0 := gs M0 9 m) (m := m) (hm := gs_at) y3) cf_X6_asked k_674 rfl rfl ⟨Nat.le_of_ble_eq_true rfl, Nat.le_of_ble_eq_true rfl⟩ (r_recv hK hw (v_md (by decide)) E_md rfl) rfl hl.1 rfl (Nat.le_of_ble_eq_true rfl) ⟨Nat.le_refl _, Nat.le_refl _⟩ dX6_settle_15 (fun H locs hw hS => ?_)
        refine lv_if_ne (tgt := 34) hx hb dX6_settle_18 (by decide) (fun q5 => ?_) (fun q5 => ?_)
        · replace h := t_neg h q5
          exact L34 (f_X6_settle_L2 n) ih m x1 h H locs hw hS ls (lv_sub hl [0, 1] rfl)
        · replace h := t_pos h q5
          refine lv_aload_n hx hb dX6_settle_21 rfl (lv_at hl 0 rfl) ?_
          refine lv_iload_n hx hb dX6_settle_22 rfl (lv_at hl 1 rfl) ?_
          refine lv_iconst (v := nI 3) hx hb dX6_settle_23 (by decide) ?_
          obtain ⟨r7, y6, h⟩ := t_b1 h
          refine c_vi hx hb hml hown hts hK hw hS (fun _ h => h) (As := [.int x1, .int (nI 3)]) (rest := []) (c_X6_rowsOf hcv (M0 := gs M0 9 m) (m := m) (hm := gs_at) y6) cf_X6_rowsOf k_678 rfl rfl ⟨Nat.le_of_ble_eq_true rfl, Nat.le_of_ble_eq_true rfl⟩ (r_recv hK hw (v_md (by decide)) E_md rfl) rfl hl.1 rfl (Nat.le_of_ble_eq_true rfl) ⟨Nat.le_refl _, Nat.le_refl _⟩ dX6_settle_24 (fun H locs hw hS => ?_)
          refine lv_if_le (tgt := 34) hx hb dX6_settle_27 (by decide) (fun q8 => ?_) (fun q8 => ?_)
          · replace h := t_pos h q8
            exact L34 (f_X6_settle_L2 n) ih m x1 h H locs hw hS ls (lv_sub hl [0, 1] rfl)
          · replace h := t_neg h q8
            refine lv_iconst (v := nI 1) hx hb dX6_settle_30 (by decide) ?_
            refine lv_goto (tgt := 35) hx hb dX6_settle_31 (by decide) ?_
            exact L35 (f_X6_settle_L2 n) ih m x1 (nI 1) h H locs hw hS ls (lv_sub hl [0, 1] rfl)
  unfold f_X6_settle at h
  have main : JL p l e ({ frames := 5, cells := 0, slots := 0, locals := 115 } : Room) s md args below meth c D cy ad (MQ below (QV D cy ad (gs M0 9 x)) args s 0 0 (AD ad)) (gs M0 9 m) 3 [(0, .ref (ad 9 0))] 0 [] := by
    intro H locs hw hS ls hl
    refine lv_iconst (v := nI 0) hx hb dX6_settle_0 (by decide) ?_
    refine lv_istore_n (lv' := [(1, .int (nI 0)), (0, .ref (ad 9 0))]) hx hb dX6_settle_1 rfl hl (by decide) rfl (fun ls hl => ?_)
    exact L2 FU m (nI 0) h H locs hw hS ls (lv_sub hl [1, 0] rfl)
  exact main _ _ hw hS ls hl

theorem cf_X6_openMany : cfV RX6 yX6_openMany cX6_openMany 3 (some .int) 0 := ⟨⟨k_805, k_s33, k_7, k_806⟩, by decide +kernel⟩
def f_X6_openMany_L4 (m : SM) : Nat → Int32 → Int32 → Option (Int32)
  | 0, _, _ => none
  | n + 1, x1, x2 => gd (nI 1) 220 ((if (m 1 (nI 1).toNatClampNeg) ≤ x2 then some x1 else b1 (f_X6_asked m x2 (nI 4)) fun r4 => f_X6_openMany_L4 m n (x1 + ((nI 1) - r4)) (x2 + (nI 1))))
def f_X6_openMany (m : SM) : Option (Int32) :=
  f_X6_openMany_L4 m FU (nI 0) (nI 0)
set_option maxHeartbeats 4000000 in
set_option maxRecDepth 100000 in
theorem c_X6_openMany {l : Launch} {D : va_G} {cy : Nat → ClassId} {ad : Nat → Nat → Nat} (hcv : CV ad) {M0 : MM} {m : SM} (hm : M0 9 = m) {r : Int32} (h : f_X6_openMany m = some r) : Met l yX6_openMany (.code yX6_openMany cX6_openMany 3 (some .int) :: TB) ({ frames := 1, cells := 0, slots := 0, locals := 22 } : Room) (PW D cy ad M0 [.ref (ad 9 0)]) (QI D cy ad r M0) 0 0 (AD ad) := by
  refine m_in (by decide +kernel) (Nat.le_of_ble_eq_true rfl) ?_
  intro p e s md args below meth c hC hw hS ls hl
  obtain ⟨hx, hb, hr, hml, hown, hts, hK, hlk⟩ := hC
  have hl : lv_has ls 3 [(0, .ref (ad 9 0))] := hl
  rw [← gs_same hm] at hw
  have L4 : ∀ (n : Nat), ∀ (x1 : Int32) (x2 : Int32), f_X6_openMany_L4 m n x1 x2 = some r → JL p l e ({ frames := 1, cells := 0, slots := 0, locals := 22 } : Room) s md args below meth c D cy ad (MQ below (QI D cy ad r M0) args s 0 0 (AD ad)) (gs M0 9 m) 3 [(0, .ref (ad 9 0)), (1, .int x1), (2, .int x2)] 4 [] := by
    intro n
    induction n with
    | zero =>
      intro x1 x2 h
      cases h
    | succ n ih =>
      intro x1 x2 h H locs hw hS ls hl
      rw [f_X6_openMany_L4.eq_2] at h
      refine lv_iload_n hx hb dX6_openMany_4 rfl (lv_at hl 2 rfl) ?_
      refine lv_aload_n hx hb dX6_openMany_5 rfl (lv_at hl 0 rfl) ?_
      refine r_get hx hb hts hown hK hw (v_md (by decide)) gs_atc E_md inX6 rfl 0 (by decide) k_544 rfl rfl dX6_openMany_6 ?_
      refine lv_iconst (v := nI 1) hx hb dX6_openMany_9 (by decide) ?_
      obtain ⟨q1, h⟩ := t_gd h
      refine r_iald hx hb hK hw (v_md (by decide)) gs_atc E_m1 q1 dX6_openMany_10 ?_
      refine lv_icmp_ge (tgt := 31) hx hb dX6_openMany_11 (by decide) (fun q2 => ?_) (fun q2 => ?_)
      · replace h := t_pos h q2
        refine lv_iload_n hx hb dX6_openMany_31 rfl (lv_at hl 1 rfl) ?_
        have e1 := Option.some.inj h
        exact e_i hx hb hr hlk hw hS e1 (gs_same hm) dX6_openMany_32
      · replace h := t_neg h q2
        refine lv_iload_n hx hb dX6_openMany_14 rfl (lv_at hl 1 rfl) ?_
        refine lv_iconst (v := nI 1) hx hb dX6_openMany_15 (by decide) ?_
        refine lv_aload_n hx hb dX6_openMany_16 rfl (lv_at hl 0 rfl) ?_
        refine lv_iload_n hx hb dX6_openMany_17 rfl (lv_at hl 2 rfl) ?_
        refine lv_iconst (v := nI 4) hx hb dX6_openMany_18 (by decide) ?_
        obtain ⟨r4, y3, h⟩ := t_b1 h
        refine c_vi hx hb hml hown hts hK hw hS (fun _ h => h) (As := [.int x2, .int (nI 4)]) (rest := [.int (nI 1), .int x1]) (c_X6_asked hcv (M0 := gs M0 9 m) (m := m) (hm := gs_at) y3) cf_X6_asked k_674 rfl rfl ⟨Nat.le_of_ble_eq_true rfl, Nat.le_of_ble_eq_true rfl⟩ (r_recv hK hw (v_md (by decide)) E_md rfl) rfl hl.1 rfl (Nat.le_of_ble_eq_true rfl) ⟨Nat.le_refl _, Nat.le_refl _⟩ dX6_openMany_19 (fun H locs hw hS => ?_)
        refine lv_isub hx hb dX6_openMany_22 ?_
        refine lv_iadd hx hb dX6_openMany_23 ?_
        refine lv_istore_n (lv' := [(1, .int (x1 + ((nI 1) - r4))), (0, .ref (ad 9 0)), (2, .int x2)]) hx hb dX6_openMany_24 rfl hl (by decide) rfl (fun ls hl => ?_)
        refine lv_iinc (v := (x2 + (nI 1))) (lv' := [(2, .int (x2 + (nI 1))), (1, .int (x1 + ((nI 1) - r4))), (0, .ref (ad 9 0))]) hx hb dX6_openMany_25 hl (k := 2) rfl rfl (by decide) rfl (fun ls hl => ?_)
        refine lv_goto (tgt := 4) hx hb dX6_openMany_28 (by decide) ?_
        exact ih (x1 + ((nI 1) - r4)) (x2 + (nI 1)) h H locs hw hS ls (lv_sub hl [2, 1, 0] rfl)
  unfold f_X6_openMany at h
  have main : JL p l e ({ frames := 1, cells := 0, slots := 0, locals := 22 } : Room) s md args below meth c D cy ad (MQ below (QI D cy ad r M0) args s 0 0 (AD ad)) (gs M0 9 m) 3 [(0, .ref (ad 9 0))] 0 [] := by
    intro H locs hw hS ls hl
    refine lv_iconst (v := nI 0) hx hb dX6_openMany_0 (by decide) ?_
    refine lv_istore_n (lv' := [(1, .int (nI 0)), (0, .ref (ad 9 0))]) hx hb dX6_openMany_1 rfl hl (by decide) rfl (fun ls hl => ?_)
    refine lv_iconst (v := nI 0) hx hb dX6_openMany_2 (by decide) ?_
    refine lv_istore_n (lv' := [(2, .int (nI 0)), (1, .int (nI 0)), (0, .ref (ad 9 0))]) hx hb dX6_openMany_3 rfl hl (by decide) rfl (fun ls hl => ?_)
    exact L4 FU (nI 0) (nI 0) h H locs hw hS ls (lv_sub hl [2, 1, 0] rfl)
  exact main _ _ hw hS ls hl

theorem cf_X6_unread : cfV RX6 yX6_unread cX6_unread 2 (some .int) 1 := ⟨⟨k_781, k_s28, k_7, k_782⟩, by decide +kernel⟩
def f_X6_unread (m : SM) (p0 : Int32) : Option (Int32) :=
  b1 (f_X6_of m p0 (nI 3)) fun r2 => b1 (f_X6_of m p0 (nI 4)) fun r4 => some (r2 - r4)
set_option maxHeartbeats 4000000 in
set_option maxRecDepth 100000 in
theorem c_X6_unread {l : Launch} {D : va_G} {cy : Nat → ClassId} {ad : Nat → Nat → Nat} (hcv : CV ad) {M0 : MM} {m : SM} (hm : M0 9 = m) {p0 : Int32} {r : Int32} (h : f_X6_unread m p0 = some r) : Met l yX6_unread (.code yX6_unread cX6_unread 2 (some .int) :: TB) ({ frames := 1, cells := 0, slots := 0, locals := 22 } : Room) (PW D cy ad M0 [.ref (ad 9 0), .int p0]) (QI D cy ad r M0) 0 0 (AD ad) := by
  refine m_in (by decide +kernel) (Nat.le_of_ble_eq_true rfl) ?_
  intro p e s md args below meth c hC hw hS ls hl
  obtain ⟨hx, hb, hr, hml, hown, hts, hK, hlk⟩ := hC
  have hl : lv_has ls 2 [(0, .ref (ad 9 0)), (1, .int p0)] := hl
  rw [← gs_same hm] at hw
  unfold f_X6_unread at h
  have main : JL p l e ({ frames := 1, cells := 0, slots := 0, locals := 22 } : Room) s md args below meth c D cy ad (MQ below (QI D cy ad r M0) args s 0 0 (AD ad)) (gs M0 9 m) 2 [(0, .ref (ad 9 0)), (1, .int p0)] 0 [] := by
    intro H locs hw hS ls hl
    refine lv_aload_n hx hb dX6_unread_0 rfl (lv_at hl 0 rfl) ?_
    refine lv_iload_n hx hb dX6_unread_1 rfl (lv_at hl 1 rfl) ?_
    refine lv_iconst (v := nI 3) hx hb dX6_unread_2 (by decide) ?_
    obtain ⟨r2, y1, h⟩ := t_b1 h
    refine c_vi hx hb hml hown hts hK hw hS (fun _ h => h) (As := [.int p0, .int (nI 3)]) (rest := []) (c_X6_of hcv (M0 := gs M0 9 m) (m := m) (hm := gs_at) y1) cf_X6_of k_611 rfl rfl ⟨Nat.le_of_ble_eq_true rfl, Nat.le_of_ble_eq_true rfl⟩ (r_recv hK hw (v_md (by decide)) E_md rfl) rfl hl.1 rfl (Nat.le_of_ble_eq_true rfl) ⟨Nat.le_refl _, Nat.le_refl _⟩ dX6_unread_3 (fun H locs hw hS => ?_)
    refine lv_aload_n hx hb dX6_unread_6 rfl (lv_at hl 0 rfl) ?_
    refine lv_iload_n hx hb dX6_unread_7 rfl (lv_at hl 1 rfl) ?_
    refine lv_iconst (v := nI 4) hx hb dX6_unread_8 (by decide) ?_
    obtain ⟨r4, y3, h⟩ := t_b1 h
    refine c_vi hx hb hml hown hts hK hw hS (fun _ h => h) (As := [.int p0, .int (nI 4)]) (rest := [.int r2]) (c_X6_of hcv (M0 := gs M0 9 m) (m := m) (hm := gs_at) y3) cf_X6_of k_611 rfl rfl ⟨Nat.le_of_ble_eq_true rfl, Nat.le_of_ble_eq_true rfl⟩ (r_recv hK hw (v_md (by decide)) E_md rfl) rfl hl.1 rfl (Nat.le_of_ble_eq_true rfl) ⟨Nat.le_refl _, Nat.le_refl _⟩ dX6_unread_9 (fun H locs hw hS => ?_)
    refine lv_isub hx hb dX6_unread_12 ?_
    have e1 := Option.some.inj h
    exact e_i hx hb hr hlk hw hS e1 (gs_same hm) dX6_unread_13
  exact main _ _ hw hS ls hl

theorem cf_X6_weightFor : cfV RX6 yX6_weightFor cX6_weightFor 3 (some .int) 2 := ⟨⟨k_793, k_s31, k_7, k_794⟩, by decide +kernel⟩
def f_X6_weightFor (m : SM) (p0 : Int32) (p1 : Int32) : Option (Int32 × SM) :=
  b1 (f_X6_asked m p0 (nI 0)) fun r2 => (if r2 = (nI 1) then b1 (f_X6_of m p1 (nI 1)) fun r23 => b1 (f_X6_asked m p0 (nI 2)) fun r25 => (if r25 ≤ r23 then some ((nI 0), m) else b1 (f_X6_of m p1 (nI 2)) fun r28 => b1 (f_X6_asked m p0 (nI 2)) fun r30 => (if r28 < r30 then some ((nI 0), m) else some ((nI 100), m))) else (if r2 = (nI 2) then b1 (f_X6_of m p1 (nI 1)) fun r17 => bd (f_X6_answer m p0 (nI 1)) fun r19 m20 => (if r19 ≤ r17 then some ((nI 0), m20) else some ((nI 100), m20)) else (if r2 = (nI 3) then b1 (f_X6_of m p1 (nI 2)) fun r11 => bd (f_X6_answer m p0 (nI 0)) fun r13 m14 => (if r11 ≤ r13 then some ((nI 0), m14) else some ((nI 100), m14)) else (b1 (f_X6_of m p1 (nI 2)) fun r7 => b1 (f_X6_of m p1 (nI 1)) fun r9 => some ((r7 - r9), m)))))
set_option maxHeartbeats 4000000 in
set_option maxRecDepth 100000 in
theorem c_X6_weightFor {l : Launch} {D : va_G} {cy : Nat → ClassId} {ad : Nat → Nat → Nat} (hcv : CV ad) {M0 : MM} {m : SM} (hm : M0 9 = m) {p0 p1 : Int32} {r : Int32} {x : SM} (h : f_X6_weightFor m p0 p1 = some (r, x)) : Met l yX6_weightFor (.code yX6_weightFor cX6_weightFor 3 (some .int) :: TB) ({ frames := 4, cells := 0, slots := 0, locals := 93 } : Room) (PW D cy ad M0 [.ref (ad 9 0), .int p0, .int p1]) (QI D cy ad r (gs M0 9 x)) 0 0 (AD ad) := by
  refine m_in (by decide +kernel) (Nat.le_of_ble_eq_true rfl) ?_
  intro p e s md args below meth c hC hw hS ls hl
  obtain ⟨hx, hb, hr, hml, hown, hts, hK, hlk⟩ := hC
  have hl : lv_has ls 3 [(0, .ref (ad 9 0)), (1, .int p0), (2, .int p1)] := hl
  rw [← gs_same hm] at hw
  unfold f_X6_weightFor at h
  have main : JL p l e ({ frames := 4, cells := 0, slots := 0, locals := 93 } : Room) s md args below meth c D cy ad (MQ below (QI D cy ad r (gs M0 9 x)) args s 0 0 (AD ad)) (gs M0 9 m) 3 [(0, .ref (ad 9 0)), (1, .int p0), (2, .int p1)] 0 [] := by
    intro H locs hw hS ls hl
    refine lv_aload_n hx hb dX6_weightFor_0 rfl (lv_at hl 0 rfl) ?_
    refine lv_iload_n hx hb dX6_weightFor_1 rfl (lv_at hl 1 rfl) ?_
    refine lv_iconst (v := nI 0) hx hb dX6_weightFor_2 (by decide) ?_
    obtain ⟨r2, y1, h⟩ := t_b1 h
    refine c_vi hx hb hml hown hts hK hw hS (fun _ h => h) (As := [.int p0, .int (nI 0)]) (rest := []) (c_X6_asked hcv (M0 := gs M0 9 m) (m := m) (hm := gs_at) y1) cf_X6_asked k_674 rfl rfl ⟨Nat.le_of_ble_eq_true rfl, Nat.le_of_ble_eq_true rfl⟩ (r_recv hK hw (v_md (by decide)) E_md rfl) rfl hl.1 rfl (Nat.le_of_ble_eq_true rfl) ⟨Nat.le_refl _, Nat.le_refl _⟩ dX6_weightFor_3 (fun H locs hw hS => ?_)
    by_cases q3 : r2 = (nI 1)
    · replace h := t_pos h q3
      refine lv_tableIn (off := 26) (tgt := 32) hx hb dX6_weightFor_6 (by rw [q3]; decide) (by rw [q3]; decide) (by rw [q3]; rfl) (by decide) ?_
      refine lv_aload_n hx hb dX6_weightFor_32 rfl (lv_at hl 0 rfl) ?_
      refine lv_iload_n hx hb dX6_weightFor_33 rfl (lv_at hl 2 rfl) ?_
      refine lv_iconst (v := nI 1) hx hb dX6_weightFor_34 (by decide) ?_
      obtain ⟨r23, y22, h⟩ := t_b1 h
      refine c_vi hx hb hml hown hts hK hw hS (fun _ h => h) (As := [.int p1, .int (nI 1)]) (rest := []) (c_X6_of hcv (M0 := gs M0 9 m) (m := m) (hm := gs_at) y22) cf_X6_of k_611 rfl rfl ⟨Nat.le_of_ble_eq_true rfl, Nat.le_of_ble_eq_true rfl⟩ (r_recv hK hw (v_md (by decide)) E_md rfl) rfl hl.1 rfl (Nat.le_of_ble_eq_true rfl) ⟨Nat.le_refl _, Nat.le_refl _⟩ dX6_weightFor_35 (fun H locs hw hS => ?_)
      refine lv_aload_n hx hb dX6_weightFor_38 rfl (lv_at hl 0 rfl) ?_
      refine lv_iload_n hx hb dX6_weightFor_39 rfl (lv_at hl 1 rfl) ?_
      refine lv_iconst (v := nI 2) hx hb dX6_weightFor_40 (by decide) ?_
      obtain ⟨r25, y24, h⟩ := t_b1 h
      refine c_vi hx hb hml hown hts hK hw hS (fun _ h => h) (As := [.int p0, .int (nI 2)]) (rest := [.int r23]) (c_X6_asked hcv (M0 := gs M0 9 m) (m := m) (hm := gs_at) y24) cf_X6_asked k_674 rfl rfl ⟨Nat.le_of_ble_eq_true rfl, Nat.le_of_ble_eq_true rfl⟩ (r_recv hK hw (v_md (by decide)) E_md rfl) rfl hl.1 rfl (Nat.le_of_ble_eq_true rfl) ⟨Nat.le_refl _, Nat.le_refl _⟩ dX6_weightFor_41 (fun H locs hw hS => ?_)
      refine lv_icmp_ge (tgt := 67) hx hb dX6_weightFor_44 (by decide) (fun q26 => ?_) (fun q26 => ?_)
      · replace h := t_pos h q26
        refine lv_iconst (v := nI 0) hx hb dX6_weightFor_67 (by decide) ?_
        have e1 := (t_ret h).1
        have e2 := (t_ret h).2
        exact e_i hx hb hr hlk hw hS e1 (by rw [e2]) dX6_weightFor_68
      · replace h := t_neg h q26
        refine lv_aload_n hx hb dX6_weightFor_47 rfl (lv_at hl 0 rfl) ?_
        refine lv_iload_n hx hb dX6_weightFor_48 rfl (lv_at hl 2 rfl) ?_
        refine lv_iconst (v := nI 2) hx hb dX6_weightFor_49 (by decide) ?_
        obtain ⟨r28, y27, h⟩ := t_b1 h
        refine c_vi hx hb hml hown hts hK hw hS (fun _ h => h) (As := [.int p1, .int (nI 2)]) (rest := []) (c_X6_of hcv (M0 := gs M0 9 m) (m := m) (hm := gs_at) y27) cf_X6_of k_611 rfl rfl ⟨Nat.le_of_ble_eq_true rfl, Nat.le_of_ble_eq_true rfl⟩ (r_recv hK hw (v_md (by decide)) E_md rfl) rfl hl.1 rfl (Nat.le_of_ble_eq_true rfl) ⟨Nat.le_refl _, Nat.le_refl _⟩ dX6_weightFor_50 (fun H locs hw hS => ?_)
        refine lv_aload_n hx hb dX6_weightFor_53 rfl (lv_at hl 0 rfl) ?_
        refine lv_iload_n hx hb dX6_weightFor_54 rfl (lv_at hl 1 rfl) ?_
        refine lv_iconst (v := nI 2) hx hb dX6_weightFor_55 (by decide) ?_
        obtain ⟨r30, y29, h⟩ := t_b1 h
        refine c_vi hx hb hml hown hts hK hw hS (fun _ h => h) (As := [.int p0, .int (nI 2)]) (rest := [.int r28]) (c_X6_asked hcv (M0 := gs M0 9 m) (m := m) (hm := gs_at) y29) cf_X6_asked k_674 rfl rfl ⟨Nat.le_of_ble_eq_true rfl, Nat.le_of_ble_eq_true rfl⟩ (r_recv hK hw (v_md (by decide)) E_md rfl) rfl hl.1 rfl (Nat.le_of_ble_eq_true rfl) ⟨Nat.le_refl _, Nat.le_refl _⟩ dX6_weightFor_56 (fun H locs hw hS => ?_)
        refine lv_icmp_lt (tgt := 67) hx hb dX6_weightFor_59 (by decide) (fun q31 => ?_) (fun q31 => ?_)
        · replace h := t_pos h q31
          refine lv_iconst (v := nI 0) hx hb dX6_weightFor_67 (by decide) ?_
          have e1 := (t_ret h).1
          have e2 := (t_ret h).2
          exact e_i hx hb hr hlk hw hS e1 (by rw [e2]) dX6_weightFor_68
        · replace h := t_neg h q31
          refine lv_bipush (v := nI 100) hx hb dX6_weightFor_62 (by decide) ?_
          refine lv_goto (tgt := 68) hx hb dX6_weightFor_64 (by decide) ?_
          have e1 := (t_ret h).1
          have e2 := (t_ret h).2
          exact e_i hx hb hr hlk hw hS e1 (by rw [e2]) dX6_weightFor_68
    · replace h := t_neg h q3
      by_cases q4 : r2 = (nI 2)
      · replace h := t_pos h q4
        refine lv_tableIn (off := 63) (tgt := 69) hx hb dX6_weightFor_6 (by rw [q4]; decide) (by rw [q4]; decide) (by rw [q4]; rfl) (by decide) ?_
        refine lv_aload_n hx hb dX6_weightFor_69 rfl (lv_at hl 0 rfl) ?_
        refine lv_iload_n hx hb dX6_weightFor_70 rfl (lv_at hl 2 rfl) ?_
        refine lv_iconst (v := nI 1) hx hb dX6_weightFor_71 (by decide) ?_
        obtain ⟨r17, y16, h⟩ := t_b1 h
        refine c_vi hx hb hml hown hts hK hw hS (fun _ h => h) (As := [.int p1, .int (nI 1)]) (rest := []) (c_X6_of hcv (M0 := gs M0 9 m) (m := m) (hm := gs_at) y16) cf_X6_of k_611 rfl rfl ⟨Nat.le_of_ble_eq_true rfl, Nat.le_of_ble_eq_true rfl⟩ (r_recv hK hw (v_md (by decide)) E_md rfl) rfl hl.1 rfl (Nat.le_of_ble_eq_true rfl) ⟨Nat.le_refl _, Nat.le_refl _⟩ dX6_weightFor_72 (fun H locs hw hS => ?_)
        refine lv_aload_n hx hb dX6_weightFor_75 rfl (lv_at hl 0 rfl) ?_
        refine lv_iload_n hx hb dX6_weightFor_76 rfl (lv_at hl 1 rfl) ?_
        refine lv_iconst (v := nI 1) hx hb dX6_weightFor_77 (by decide) ?_
        obtain ⟨r19, m20, y18, h⟩ := t_bd h
        refine c_vi hx hb hml hown hts hK hw hS (fun _ h => h) (As := [.int p0, .int (nI 1)]) (rest := [.int r17]) (c_X6_answer hcv (M0 := gs M0 9 m) (m := m) (hm := gs_at) y18) cf_X6_answer k_686 rfl rfl ⟨Nat.le_of_ble_eq_true rfl, Nat.le_of_ble_eq_true rfl⟩ (r_recv hK hw (v_md (by decide)) E_md rfl) rfl hl.1 rfl (Nat.le_of_ble_eq_true rfl) ⟨Nat.le_refl _, Nat.le_refl _⟩ dX6_weightFor_78 (fun H locs hw hS => ?_)
        rw [gs_gs] at hw
        refine lv_icmp_ge (tgt := 89) hx hb dX6_weightFor_81 (by decide) (fun q21 => ?_) (fun q21 => ?_)
        · replace h := t_pos h q21
          refine lv_iconst (v := nI 0) hx hb dX6_weightFor_89 (by decide) ?_
          have e1 := (t_ret h).1
          have e2 := (t_ret h).2
          exact e_i hx hb hr hlk hw hS e1 (by rw [e2]) dX6_weightFor_90
        · replace h := t_neg h q21
          refine lv_bipush (v := nI 100) hx hb dX6_weightFor_84 (by decide) ?_
          refine lv_goto (tgt := 90) hx hb dX6_weightFor_86 (by decide) ?_
          have e1 := (t_ret h).1
          have e2 := (t_ret h).2
          exact e_i hx hb hr hlk hw hS e1 (by rw [e2]) dX6_weightFor_90
      · replace h := t_neg h q4
        by_cases q5 : r2 = (nI 3)
        · replace h := t_pos h q5
          refine lv_tableIn (off := 85) (tgt := 91) hx hb dX6_weightFor_6 (by rw [q5]; decide) (by rw [q5]; decide) (by rw [q5]; rfl) (by decide) ?_
          refine lv_aload_n hx hb dX6_weightFor_91 rfl (lv_at hl 0 rfl) ?_
          refine lv_iload_n hx hb dX6_weightFor_92 rfl (lv_at hl 2 rfl) ?_
          refine lv_iconst (v := nI 2) hx hb dX6_weightFor_93 (by decide) ?_
          obtain ⟨r11, y10, h⟩ := t_b1 h
          refine c_vi hx hb hml hown hts hK hw hS (fun _ h => h) (As := [.int p1, .int (nI 2)]) (rest := []) (c_X6_of hcv (M0 := gs M0 9 m) (m := m) (hm := gs_at) y10) cf_X6_of k_611 rfl rfl ⟨Nat.le_of_ble_eq_true rfl, Nat.le_of_ble_eq_true rfl⟩ (r_recv hK hw (v_md (by decide)) E_md rfl) rfl hl.1 rfl (Nat.le_of_ble_eq_true rfl) ⟨Nat.le_refl _, Nat.le_refl _⟩ dX6_weightFor_94 (fun H locs hw hS => ?_)
          refine lv_aload_n hx hb dX6_weightFor_97 rfl (lv_at hl 0 rfl) ?_
          refine lv_iload_n hx hb dX6_weightFor_98 rfl (lv_at hl 1 rfl) ?_
          refine lv_iconst (v := nI 0) hx hb dX6_weightFor_99 (by decide) ?_
          obtain ⟨r13, m14, y12, h⟩ := t_bd h
          refine c_vi hx hb hml hown hts hK hw hS (fun _ h => h) (As := [.int p0, .int (nI 0)]) (rest := [.int r11]) (c_X6_answer hcv (M0 := gs M0 9 m) (m := m) (hm := gs_at) y12) cf_X6_answer k_686 rfl rfl ⟨Nat.le_of_ble_eq_true rfl, Nat.le_of_ble_eq_true rfl⟩ (r_recv hK hw (v_md (by decide)) E_md rfl) rfl hl.1 rfl (Nat.le_of_ble_eq_true rfl) ⟨Nat.le_refl _, Nat.le_refl _⟩ dX6_weightFor_100 (fun H locs hw hS => ?_)
          rw [gs_gs] at hw
          refine lv_icmp_le (tgt := 111) hx hb dX6_weightFor_103 (by decide) (fun q15 => ?_) (fun q15 => ?_)
          · replace h := t_pos h q15
            refine lv_iconst (v := nI 0) hx hb dX6_weightFor_111 (by decide) ?_
            have e1 := (t_ret h).1
            have e2 := (t_ret h).2
            exact e_i hx hb hr hlk hw hS e1 (by rw [e2]) dX6_weightFor_112
          · replace h := t_neg h q15
            refine lv_bipush (v := nI 100) hx hb dX6_weightFor_106 (by decide) ?_
            refine lv_goto (tgt := 112) hx hb dX6_weightFor_108 (by decide) ?_
            have e1 := (t_ret h).1
            have e2 := (t_ret h).2
            exact e_i hx hb hr hlk hw hS e1 (by rw [e2]) dX6_weightFor_112
        · replace h := t_neg h q5
          refine lv_tableOut (tgt := 113) hx hb dX6_weightFor_6 (tab_out (lo := 1) (n := 3) (by decide) (lt_s (lt_s (lt_s lt_0 q3) q4) q5)) (by decide) ?_
          refine lv_aload_n hx hb dX6_weightFor_113 rfl (lv_at hl 0 rfl) ?_
          refine lv_iload_n hx hb dX6_weightFor_114 rfl (lv_at hl 2 rfl) ?_
          refine lv_iconst (v := nI 2) hx hb dX6_weightFor_115 (by decide) ?_
          obtain ⟨r7, y6, h⟩ := t_b1 h
          refine c_vi hx hb hml hown hts hK hw hS (fun _ h => h) (As := [.int p1, .int (nI 2)]) (rest := []) (c_X6_of hcv (M0 := gs M0 9 m) (m := m) (hm := gs_at) y6) cf_X6_of k_611 rfl rfl ⟨Nat.le_of_ble_eq_true rfl, Nat.le_of_ble_eq_true rfl⟩ (r_recv hK hw (v_md (by decide)) E_md rfl) rfl hl.1 rfl (Nat.le_of_ble_eq_true rfl) ⟨Nat.le_refl _, Nat.le_refl _⟩ dX6_weightFor_116 (fun H locs hw hS => ?_)
          refine lv_aload_n hx hb dX6_weightFor_119 rfl (lv_at hl 0 rfl) ?_
          refine lv_iload_n hx hb dX6_weightFor_120 rfl (lv_at hl 2 rfl) ?_
          refine lv_iconst (v := nI 1) hx hb dX6_weightFor_121 (by decide) ?_
          obtain ⟨r9, y8, h⟩ := t_b1 h
          refine c_vi hx hb hml hown hts hK hw hS (fun _ h => h) (As := [.int p1, .int (nI 1)]) (rest := [.int r7]) (c_X6_of hcv (M0 := gs M0 9 m) (m := m) (hm := gs_at) y8) cf_X6_of k_611 rfl rfl ⟨Nat.le_of_ble_eq_true rfl, Nat.le_of_ble_eq_true rfl⟩ (r_recv hK hw (v_md (by decide)) E_md rfl) rfl hl.1 rfl (Nat.le_of_ble_eq_true rfl) ⟨Nat.le_refl _, Nat.le_refl _⟩ dX6_weightFor_122 (fun H locs hw hS => ?_)
          refine lv_isub hx hb dX6_weightFor_125 ?_
          have e1 := (t_ret h).1
          have e2 := (t_ret h).2
          exact e_i hx hb hr hlk hw hS e1 (by rw [e2]) dX6_weightFor_126
  exact main _ _ hw hS ls hl

theorem cf_X6_weight : cfV RX6 yX6_weight cX6_weight 4 (some .int) 1 := ⟨⟨k_789, k_s30, k_7, k_790⟩, by decide +kernel⟩
def f_X6_weight_L4 (p0 : Int32) : Nat → SM → Int32 → Int32 → Option (Int32 × SM)
  | 0, _, _, _ => none
  | n + 1, m, x2, x3 => gd (nI 1) 220 ((if (m 1 (nI 1).toNatClampNeg) ≤ x3 then some (x2, m) else b1 (f_X6_asked m x3 (nI 4)) fun r4 => (if r4 = (nI 0) then b1 (f_X6_isOf m x3 p0) fun r7 => (if r7 = (nI 0) then f_X6_weight_L4 p0 n m (x2 + (nI 0)) (x3 + (nI 1)) else bd (f_X6_weightFor m x3 p0) fun r10 m11 => f_X6_weight_L4 p0 n m11 (x2 + r10) (x3 + (nI 1))) else f_X6_weight_L4 p0 n m (x2 + (nI 0)) (x3 + (nI 1)))))
def f_X6_weight (m : SM) (p0 : Int32) : Option (Int32 × SM) :=
  f_X6_weight_L4 p0 FU m (nI 0) (nI 0)
set_option maxHeartbeats 4000000 in
set_option maxRecDepth 100000 in
theorem c_X6_weight {l : Launch} {D : va_G} {cy : Nat → ClassId} {ad : Nat → Nat → Nat} (hcv : CV ad) {M0 : MM} {m : SM} (hm : M0 9 = m) {p0 : Int32} {r : Int32} {x : SM} (h : f_X6_weight m p0 = some (r, x)) : Met l yX6_weight (.code yX6_weight cX6_weight 4 (some .int) :: TB) ({ frames := 5, cells := 0, slots := 0, locals := 115 } : Room) (PW D cy ad M0 [.ref (ad 9 0), .int p0]) (QI D cy ad r (gs M0 9 x)) 0 0 (AD ad) := by
  refine m_in (by decide +kernel) (Nat.le_of_ble_eq_true rfl) ?_
  intro p e s md args below meth c hC hw hS ls hl
  obtain ⟨hx, hb, hr, hml, hown, hts, hK, hlk⟩ := hC
  have hl : lv_has ls 4 [(0, .ref (ad 9 0)), (1, .int p0)] := hl
  rw [← gs_same hm] at hw
  have L4 : ∀ (n : Nat), ∀ (m : SM) (x2 : Int32) (x3 : Int32), f_X6_weight_L4 p0 n m x2 x3 = some (r, x) → JL p l e ({ frames := 5, cells := 0, slots := 0, locals := 115 } : Room) s md args below meth c D cy ad (MQ below (QI D cy ad r (gs M0 9 x)) args s 0 0 (AD ad)) (gs M0 9 m) 4 [(0, .ref (ad 9 0)), (1, .int p0), (2, .int x2), (3, .int x3)] 4 [] := by
    intro n
    induction n with
    | zero =>
      intro m x2 x3 h
      cases h
    | succ n ih =>
      intro m x2 x3 h H locs hw hS ls hl
      rw [f_X6_weight_L4.eq_2] at h
      refine lv_iload_n hx hb dX6_weight_4 rfl (lv_at hl 3 rfl) ?_
      refine lv_aload_n hx hb dX6_weight_5 rfl (lv_at hl 0 rfl) ?_
      refine r_get hx hb hts hown hK hw (v_md (by decide)) gs_atc E_md inX6 rfl 0 (by decide) k_544 rfl rfl dX6_weight_6 ?_
      refine lv_iconst (v := nI 1) hx hb dX6_weight_9 (by decide) ?_
      obtain ⟨q1, h⟩ := t_gd h
      refine r_iald hx hb hK hw (v_md (by decide)) gs_atc E_m1 q1 dX6_weight_10 ?_
      refine lv_icmp_ge (tgt := 51) hx hb dX6_weight_11 (by decide) (fun q2 => ?_) (fun q2 => ?_)
      · replace h := t_pos h q2
        refine lv_iload_n hx hb dX6_weight_51 rfl (lv_at hl 2 rfl) ?_
        have e1 := (t_ret h).1
        have e2 := (t_ret h).2
        exact e_i hx hb hr hlk hw hS e1 (by rw [e2]) dX6_weight_52
      · replace h := t_neg h q2
        refine lv_iload_n hx hb dX6_weight_14 rfl (lv_at hl 2 rfl) ?_
        refine lv_aload_n hx hb dX6_weight_15 rfl (lv_at hl 0 rfl) ?_
        refine lv_iload_n hx hb dX6_weight_16 rfl (lv_at hl 3 rfl) ?_
        refine lv_iconst (v := nI 4) hx hb dX6_weight_17 (by decide) ?_
        obtain ⟨r4, y3, h⟩ := t_b1 h
        refine c_vi hx hb hml hown hts hK hw hS (fun _ h => h) (As := [.int x3, .int (nI 4)]) (rest := [.int x2]) (c_X6_asked hcv (M0 := gs M0 9 m) (m := m) (hm := gs_at) y3) cf_X6_asked k_674 rfl rfl ⟨Nat.le_of_ble_eq_true rfl, Nat.le_of_ble_eq_true rfl⟩ (r_recv hK hw (v_md (by decide)) E_md rfl) rfl hl.1 rfl (Nat.le_of_ble_eq_true rfl) ⟨Nat.le_refl _, Nat.le_refl _⟩ dX6_weight_18 (fun H locs hw hS => ?_)
        refine lv_if_ne (tgt := 42) hx hb dX6_weight_21 (by decide) (fun q5 => ?_) (fun q5 => ?_)
        · replace h := t_neg h q5
          refine lv_iconst (v := nI 0) hx hb dX6_weight_42 (by decide) ?_
          refine lv_iadd hx hb dX6_weight_43 ?_
          refine lv_istore_n (lv' := [(2, .int (x2 + (nI 0))), (0, .ref (ad 9 0)), (1, .int p0), (3, .int x3)]) hx hb dX6_weight_44 rfl hl (by decide) rfl (fun ls hl => ?_)
          refine lv_iinc (v := (x3 + (nI 1))) (lv' := [(3, .int (x3 + (nI 1))), (2, .int (x2 + (nI 0))), (0, .ref (ad 9 0)), (1, .int p0)]) hx hb dX6_weight_45 hl (k := 3) rfl rfl (by decide) rfl (fun ls hl => ?_)
          refine lv_goto (tgt := 4) hx hb dX6_weight_48 (by decide) ?_
          exact ih m (x2 + (nI 0)) (x3 + (nI 1)) h H locs hw hS ls (lv_sub hl [2, 3, 1, 0] rfl)
        · replace h := t_pos h q5
          refine lv_aload_n hx hb dX6_weight_24 rfl (lv_at hl 0 rfl) ?_
          refine lv_iload_n hx hb dX6_weight_25 rfl (lv_at hl 3 rfl) ?_
          refine lv_iload_n hx hb dX6_weight_26 rfl (lv_at hl 1 rfl) ?_
          obtain ⟨r7, y6, h⟩ := t_b1 h
          refine c_vi hx hb hml hown hts hK hw hS (fun _ h => h) (As := [.int x3, .int p0]) (rest := [.int x2]) (c_X6_isOf hcv (M0 := gs M0 9 m) (m := m) (hm := gs_at) y6) cf_X6_isOf k_682 rfl rfl ⟨Nat.le_of_ble_eq_true rfl, Nat.le_of_ble_eq_true rfl⟩ (r_recv hK hw (v_md (by decide)) E_md rfl) rfl hl.1 rfl (Nat.le_of_ble_eq_true rfl) ⟨Nat.le_refl _, Nat.le_refl _⟩ dX6_weight_27 (fun H locs hw hS => ?_)
          refine lv_if_eq (tgt := 42) hx hb dX6_weight_30 (by decide) (fun q8 => ?_) (fun q8 => ?_)
          · replace h := t_pos h q8
            refine lv_iconst (v := nI 0) hx hb dX6_weight_42 (by decide) ?_
            refine lv_iadd hx hb dX6_weight_43 ?_
            refine lv_istore_n (lv' := [(2, .int (x2 + (nI 0))), (0, .ref (ad 9 0)), (1, .int p0), (3, .int x3)]) hx hb dX6_weight_44 rfl hl (by decide) rfl (fun ls hl => ?_)
            refine lv_iinc (v := (x3 + (nI 1))) (lv' := [(3, .int (x3 + (nI 1))), (2, .int (x2 + (nI 0))), (0, .ref (ad 9 0)), (1, .int p0)]) hx hb dX6_weight_45 hl (k := 3) rfl rfl (by decide) rfl (fun ls hl => ?_)
            refine lv_goto (tgt := 4) hx hb dX6_weight_48 (by decide) ?_
            exact ih m (x2 + (nI 0)) (x3 + (nI 1)) h H locs hw hS ls (lv_sub hl [2, 3, 1, 0] rfl)
          · replace h := t_neg h q8
            refine lv_aload_n hx hb dX6_weight_33 rfl (lv_at hl 0 rfl) ?_
            refine lv_iload_n hx hb dX6_weight_34 rfl (lv_at hl 3 rfl) ?_
            refine lv_iload_n hx hb dX6_weight_35 rfl (lv_at hl 1 rfl) ?_
            obtain ⟨r10, m11, y9, h⟩ := t_bd h
            refine c_vi hx hb hml hown hts hK hw hS (fun _ h => h) (As := [.int x3, .int p0]) (rest := [.int x2]) (c_X6_weightFor hcv (M0 := gs M0 9 m) (m := m) (hm := gs_at) y9) cf_X6_weightFor k_791 rfl rfl ⟨Nat.le_of_ble_eq_true rfl, Nat.le_of_ble_eq_true rfl⟩ (r_recv hK hw (v_md (by decide)) E_md rfl) rfl hl.1 rfl (Nat.le_of_ble_eq_true rfl) ⟨Nat.le_refl _, Nat.le_refl _⟩ dX6_weight_36 (fun H locs hw hS => ?_)
            rw [gs_gs] at hw
            refine lv_goto (tgt := 43) hx hb dX6_weight_39 (by decide) ?_
            refine lv_iadd hx hb dX6_weight_43 ?_
            refine lv_istore_n (lv' := [(2, .int (x2 + r10)), (0, .ref (ad 9 0)), (1, .int p0), (3, .int x3)]) hx hb dX6_weight_44 rfl hl (by decide) rfl (fun ls hl => ?_)
            refine lv_iinc (v := (x3 + (nI 1))) (lv' := [(3, .int (x3 + (nI 1))), (2, .int (x2 + r10)), (0, .ref (ad 9 0)), (1, .int p0)]) hx hb dX6_weight_45 hl (k := 3) rfl rfl (by decide) rfl (fun ls hl => ?_)
            refine lv_goto (tgt := 4) hx hb dX6_weight_48 (by decide) ?_
            exact ih m11 (x2 + r10) (x3 + (nI 1)) h H locs hw hS ls (lv_sub hl [2, 3, 1, 0] rfl)
  unfold f_X6_weight at h
  have main : JL p l e ({ frames := 5, cells := 0, slots := 0, locals := 115 } : Room) s md args below meth c D cy ad (MQ below (QI D cy ad r (gs M0 9 x)) args s 0 0 (AD ad)) (gs M0 9 m) 4 [(0, .ref (ad 9 0)), (1, .int p0)] 0 [] := by
    intro H locs hw hS ls hl
    refine lv_iconst (v := nI 0) hx hb dX6_weight_0 (by decide) ?_
    refine lv_istore_n (lv' := [(2, .int (nI 0)), (0, .ref (ad 9 0)), (1, .int p0)]) hx hb dX6_weight_1 rfl hl (by decide) rfl (fun ls hl => ?_)
    refine lv_iconst (v := nI 0) hx hb dX6_weight_2 (by decide) ?_
    refine lv_istore_n (lv' := [(3, .int (nI 0)), (2, .int (nI 0)), (0, .ref (ad 9 0)), (1, .int p0)]) hx hb dX6_weight_3 rfl hl (by decide) rfl (fun ls hl => ?_)
    exact L4 FU m (nI 0) (nI 0) h H locs hw hS ls (lv_sub hl [2, 3, 1, 0] rfl)
  exact main _ _ hw hS ls hl

theorem cf_X6_worth : cfV RX6 yX6_worth cX6_worth 2 (some .int) 1 := ⟨⟨k_785, k_s29, k_7, k_786⟩, by decide +kernel⟩
def f_X6_worth (m : SM) (p0 : Int32) : Option (Int32 × SM) :=
  gd (nI 2) 220 ((if (m 1 (nI 2).toNatClampNeg) = (nI 1) then b1 (f_X6_unread m p0) fun r7 => b1 (f_X6_of m p0 (nI 2)) fun r9 => b1 (f_X6_of m p0 (nI 1)) fun r11 => some ((r7 * (r9 - r11)), m) else bd (f_X6_weight m p0) fun r4 m5 => some (r4, m5)))
set_option maxHeartbeats 4000000 in
set_option maxRecDepth 100000 in
theorem c_X6_worth {l : Launch} {D : va_G} {cy : Nat → ClassId} {ad : Nat → Nat → Nat} (hcv : CV ad) {M0 : MM} {m : SM} (hm : M0 9 = m) {p0 : Int32} {r : Int32} {x : SM} (h : f_X6_worth m p0 = some (r, x)) : Met l yX6_worth (.code yX6_worth cX6_worth 2 (some .int) :: TB) ({ frames := 6, cells := 0, slots := 0, locals := 138 } : Room) (PW D cy ad M0 [.ref (ad 9 0), .int p0]) (QI D cy ad r (gs M0 9 x)) 0 0 (AD ad) := by
  refine m_in (by decide +kernel) (Nat.le_of_ble_eq_true rfl) ?_
  intro p e s md args below meth c hC hw hS ls hl
  obtain ⟨hx, hb, hr, hml, hown, hts, hK, hlk⟩ := hC
  have hl : lv_has ls 2 [(0, .ref (ad 9 0)), (1, .int p0)] := hl
  rw [← gs_same hm] at hw
  unfold f_X6_worth at h
  have main : JL p l e ({ frames := 6, cells := 0, slots := 0, locals := 138 } : Room) s md args below meth c D cy ad (MQ below (QI D cy ad r (gs M0 9 x)) args s 0 0 (AD ad)) (gs M0 9 m) 2 [(0, .ref (ad 9 0)), (1, .int p0)] 0 [] := by
    intro H locs hw hS ls hl
    refine lv_aload_n hx hb dX6_worth_0 rfl (lv_at hl 0 rfl) ?_
    refine r_get hx hb hts hown hK hw (v_md (by decide)) gs_atc E_md inX6 rfl 0 (by decide) k_544 rfl rfl dX6_worth_1 ?_
    refine lv_iconst (v := nI 2) hx hb dX6_worth_4 (by decide) ?_
    obtain ⟨q1, h⟩ := t_gd h
    refine r_iald hx hb hK hw (v_md (by decide)) gs_atc E_m1 q1 dX6_worth_5 ?_
    refine lv_iconst (v := nI 1) hx hb dX6_worth_6 (by decide) ?_
    refine lv_icmp_ne (tgt := 32) hx hb dX6_worth_7 (by decide) (fun q2 => ?_) (fun q2 => ?_)
    · replace h := t_neg h q2
      refine lv_aload_n hx hb dX6_worth_32 rfl (lv_at hl 0 rfl) ?_
      refine lv_iload_n hx hb dX6_worth_33 rfl (lv_at hl 1 rfl) ?_
      obtain ⟨r4, m5, y3, h⟩ := t_bd h
      refine c_vi hx hb hml hown hts hK hw hS (fun _ h => h) (As := [.int p0]) (rest := []) (c_X6_weight hcv (M0 := gs M0 9 m) (m := m) (hm := gs_at) y3) cf_X6_weight k_787 rfl rfl ⟨Nat.le_of_ble_eq_true rfl, Nat.le_of_ble_eq_true rfl⟩ (r_recv hK hw (v_md (by decide)) E_md rfl) rfl hl.1 rfl (Nat.le_of_ble_eq_true rfl) ⟨Nat.le_refl _, Nat.le_refl _⟩ dX6_worth_34 (fun H locs hw hS => ?_)
      rw [gs_gs] at hw
      have e1 := (t_ret h).1
      have e2 := (t_ret h).2
      exact e_i hx hb hr hlk hw hS e1 (by rw [e2]) dX6_worth_37
    · replace h := t_pos h q2
      refine lv_aload_n hx hb dX6_worth_10 rfl (lv_at hl 0 rfl) ?_
      refine lv_iload_n hx hb dX6_worth_11 rfl (lv_at hl 1 rfl) ?_
      obtain ⟨r7, y6, h⟩ := t_b1 h
      refine c_vi hx hb hml hown hts hK hw hS (fun _ h => h) (As := [.int p0]) (rest := []) (c_X6_unread hcv (M0 := gs M0 9 m) (m := m) (hm := gs_at) y6) cf_X6_unread k_779 rfl rfl ⟨Nat.le_of_ble_eq_true rfl, Nat.le_of_ble_eq_true rfl⟩ (r_recv hK hw (v_md (by decide)) E_md rfl) rfl hl.1 rfl (Nat.le_of_ble_eq_true rfl) ⟨Nat.le_refl _, Nat.le_refl _⟩ dX6_worth_12 (fun H locs hw hS => ?_)
      refine lv_aload_n hx hb dX6_worth_15 rfl (lv_at hl 0 rfl) ?_
      refine lv_iload_n hx hb dX6_worth_16 rfl (lv_at hl 1 rfl) ?_
      refine lv_iconst (v := nI 2) hx hb dX6_worth_17 (by decide) ?_
      obtain ⟨r9, y8, h⟩ := t_b1 h
      refine c_vi hx hb hml hown hts hK hw hS (fun _ h => h) (As := [.int p0, .int (nI 2)]) (rest := [.int r7]) (c_X6_of hcv (M0 := gs M0 9 m) (m := m) (hm := gs_at) y8) cf_X6_of k_611 rfl rfl ⟨Nat.le_of_ble_eq_true rfl, Nat.le_of_ble_eq_true rfl⟩ (r_recv hK hw (v_md (by decide)) E_md rfl) rfl hl.1 rfl (Nat.le_of_ble_eq_true rfl) ⟨Nat.le_refl _, Nat.le_refl _⟩ dX6_worth_18 (fun H locs hw hS => ?_)
      refine lv_aload_n hx hb dX6_worth_21 rfl (lv_at hl 0 rfl) ?_
      refine lv_iload_n hx hb dX6_worth_22 rfl (lv_at hl 1 rfl) ?_
      refine lv_iconst (v := nI 1) hx hb dX6_worth_23 (by decide) ?_
      obtain ⟨r11, y10, h⟩ := t_b1 h
      refine c_vi hx hb hml hown hts hK hw hS (fun _ h => h) (As := [.int p0, .int (nI 1)]) (rest := [.int r9, .int r7]) (c_X6_of hcv (M0 := gs M0 9 m) (m := m) (hm := gs_at) y10) cf_X6_of k_611 rfl rfl ⟨Nat.le_of_ble_eq_true rfl, Nat.le_of_ble_eq_true rfl⟩ (r_recv hK hw (v_md (by decide)) E_md rfl) rfl hl.1 rfl (Nat.le_of_ble_eq_true rfl) ⟨Nat.le_refl _, Nat.le_refl _⟩ dX6_worth_24 (fun H locs hw hS => ?_)
      refine lv_isub hx hb dX6_worth_27 ?_
      refine lv_imul hx hb dX6_worth_28 ?_
      refine lv_goto (tgt := 37) hx hb dX6_worth_29 (by decide) ?_
      have e1 := (t_ret h).1
      have e2 := (t_ret h).2
      exact e_i hx hb hr hlk hw hS e1 (by rw [e2]) dX6_worth_37
  exact main _ _ hw hS ls hl

theorem cf_X6_byTurn : cfV RX6 yX6_byTurn cX6_byTurn 3 (some .int) 0 := ⟨⟨k_777, k_s27, k_7, k_778⟩, by decide +kernel⟩
def f_X6_byTurn_L2 (m : SM) : Nat → Int32 → Option (Int32)
  | 0, _ => none
  | n + 1, x1 => gd (nI 0) 220 ((if (m 1 (nI 0).toNatClampNeg) ≤ x1 then some (-5 : Int32) else gd (nI 3) 220 (gd (nI 0) 220 (gn (m 1 (nI 0).toNatClampNeg) (b1 (f_X6_unread m (((m 1 (nI 3).toNatClampNeg) + x1) - ((m 1 (nI 3).toNatClampNeg) + x1) / (m 1 (nI 0).toNatClampNeg) * (m 1 (nI 0).toNatClampNeg))) fun r7 => (if r7 ≤ (nI 0) then f_X6_byTurn_L2 m n (x1 + (nI 1)) else some (((m 1 (nI 3).toNatClampNeg) + x1) - ((m 1 (nI 3).toNatClampNeg) + x1) / (m 1 (nI 0).toNatClampNeg) * (m 1 (nI 0).toNatClampNeg))))))))
def f_X6_byTurn (m : SM) : Option (Int32) :=
  f_X6_byTurn_L2 m FU (nI 0)
set_option maxHeartbeats 4000000 in
set_option maxRecDepth 100000 in
theorem c_X6_byTurn {l : Launch} {D : va_G} {cy : Nat → ClassId} {ad : Nat → Nat → Nat} (hcv : CV ad) {M0 : MM} {m : SM} (hm : M0 9 = m) {r : Int32} (h : f_X6_byTurn m = some r) : Met l yX6_byTurn (.code yX6_byTurn cX6_byTurn 3 (some .int) :: TB) ({ frames := 2, cells := 0, slots := 0, locals := 43 } : Room) (PW D cy ad M0 [.ref (ad 9 0)]) (QI D cy ad r M0) 0 0 (AD ad) := by
  refine m_in (by decide +kernel) (Nat.le_of_ble_eq_true rfl) ?_
  intro p e s md args below meth c hC hw hS ls hl
  obtain ⟨hx, hb, hr, hml, hown, hts, hK, hlk⟩ := hC
  have hl : lv_has ls 3 [(0, .ref (ad 9 0))] := hl
  rw [← gs_same hm] at hw
  have L2 : ∀ (n : Nat), ∀ (x1 : Int32), f_X6_byTurn_L2 m n x1 = some r → JL p l e ({ frames := 2, cells := 0, slots := 0, locals := 43 } : Room) s md args below meth c D cy ad (MQ below (QI D cy ad r M0) args s 0 0 (AD ad)) (gs M0 9 m) 3 [(0, .ref (ad 9 0)), (1, .int x1)] 2 [] := by
    intro n
    induction n with
    | zero =>
      intro x1 h
      cases h
    | succ n ih =>
      intro x1 h H locs hw hS ls hl
      rw [f_X6_byTurn_L2.eq_2] at h
      refine lv_iload_n hx hb dX6_byTurn_2 rfl (lv_at hl 1 rfl) ?_
      refine lv_aload_n hx hb dX6_byTurn_3 rfl (lv_at hl 0 rfl) ?_
      refine r_get hx hb hts hown hK hw (v_md (by decide)) gs_atc E_md inX6 rfl 0 (by decide) k_544 rfl rfl dX6_byTurn_4 ?_
      refine lv_iconst (v := nI 0) hx hb dX6_byTurn_7 (by decide) ?_
      obtain ⟨q1, h⟩ := t_gd h
      refine r_iald hx hb hK hw (v_md (by decide)) gs_atc E_m1 q1 dX6_byTurn_8 ?_
      refine lv_icmp_ge (tgt := 44) hx hb dX6_byTurn_9 (by decide) (fun q2 => ?_) (fun q2 => ?_)
      · replace h := t_pos h q2
        refine lv_bipush (v := -5) hx hb dX6_byTurn_44 (by decide) ?_
        have e1 := Option.some.inj h
        exact e_i hx hb hr hlk hw hS e1 (gs_same hm) dX6_byTurn_46
      · replace h := t_neg h q2
        refine lv_aload_n hx hb dX6_byTurn_12 rfl (lv_at hl 0 rfl) ?_
        refine r_get hx hb hts hown hK hw (v_md (by decide)) gs_atc E_md inX6 rfl 0 (by decide) k_544 rfl rfl dX6_byTurn_13 ?_
        refine lv_iconst (v := nI 3) hx hb dX6_byTurn_16 (by decide) ?_
        obtain ⟨q3, h⟩ := t_gd h
        refine r_iald hx hb hK hw (v_md (by decide)) gs_atc E_m1 q3 dX6_byTurn_17 ?_
        refine lv_iload_n hx hb dX6_byTurn_18 rfl (lv_at hl 1 rfl) ?_
        refine lv_iadd hx hb dX6_byTurn_19 ?_
        refine lv_aload_n hx hb dX6_byTurn_20 rfl (lv_at hl 0 rfl) ?_
        refine r_get hx hb hts hown hK hw (v_md (by decide)) gs_atc E_md inX6 rfl 0 (by decide) k_544 rfl rfl dX6_byTurn_21 ?_
        refine lv_iconst (v := nI 0) hx hb dX6_byTurn_24 (by decide) ?_
        obtain ⟨q4, h⟩ := t_gd h
        refine r_iald hx hb hK hw (v_md (by decide)) gs_atc E_m1 q4 dX6_byTurn_25 ?_
        obtain ⟨q5, h⟩ := t_gn h
        refine lv_irem hx hb dX6_byTurn_26 q5 ?_
        refine lv_istore_n (lv' := [(2, .int (((m 1 (nI 3).toNatClampNeg) + x1) - ((m 1 (nI 3).toNatClampNeg) + x1) / (m 1 (nI 0).toNatClampNeg) * (m 1 (nI 0).toNatClampNeg))), (0, .ref (ad 9 0)), (1, .int x1)]) hx hb dX6_byTurn_27 rfl hl (by decide) rfl (fun ls hl => ?_)
        refine lv_aload_n hx hb dX6_byTurn_28 rfl (lv_at hl 1 rfl) ?_
        refine lv_iload_n hx hb dX6_byTurn_29 rfl (lv_at hl 0 rfl) ?_
        obtain ⟨r7, y6, h⟩ := t_b1 h
        refine c_vi hx hb hml hown hts hK hw hS (fun _ h => h) (As := [.int (((m 1 (nI 3).toNatClampNeg) + x1) - ((m 1 (nI 3).toNatClampNeg) + x1) / (m 1 (nI 0).toNatClampNeg) * (m 1 (nI 0).toNatClampNeg))]) (rest := []) (c_X6_unread hcv (M0 := gs M0 9 m) (m := m) (hm := gs_at) y6) cf_X6_unread k_779 rfl rfl ⟨Nat.le_of_ble_eq_true rfl, Nat.le_of_ble_eq_true rfl⟩ (r_recv hK hw (v_md (by decide)) E_md rfl) rfl hl.1 rfl (Nat.le_of_ble_eq_true rfl) ⟨Nat.le_refl _, Nat.le_refl _⟩ dX6_byTurn_30 (fun H locs hw hS => ?_)
        refine lv_if_le (tgt := 38) hx hb dX6_byTurn_33 (by decide) (fun q8 => ?_) (fun q8 => ?_)
        · replace h := t_pos h q8
          refine lv_iinc (v := (x1 + (nI 1))) (lv' := [(1, .int (x1 + (nI 1))), (2, .int (((m 1 (nI 3).toNatClampNeg) + x1) - ((m 1 (nI 3).toNatClampNeg) + x1) / (m 1 (nI 0).toNatClampNeg) * (m 1 (nI 0).toNatClampNeg))), (0, .ref (ad 9 0))]) hx hb dX6_byTurn_38 hl (k := 2) rfl rfl (by decide) rfl (fun ls hl => ?_)
          refine lv_goto (tgt := 2) hx hb dX6_byTurn_41 (by decide) ?_
          exact ih (x1 + (nI 1)) h H locs hw hS ls (lv_sub hl [2, 0] rfl)
        · replace h := t_neg h q8
          refine lv_iload_n hx hb dX6_byTurn_36 rfl (lv_at hl 0 rfl) ?_
          have e1 := Option.some.inj h
          exact e_i hx hb hr hlk hw hS e1 (gs_same hm) dX6_byTurn_37
  unfold f_X6_byTurn at h
  have main : JL p l e ({ frames := 2, cells := 0, slots := 0, locals := 43 } : Room) s md args below meth c D cy ad (MQ below (QI D cy ad r M0) args s 0 0 (AD ad)) (gs M0 9 m) 3 [(0, .ref (ad 9 0))] 0 [] := by
    intro H locs hw hS ls hl
    refine lv_iconst (v := nI 0) hx hb dX6_byTurn_0 (by decide) ?_
    refine lv_istore_n (lv' := [(1, .int (nI 0)), (0, .ref (ad 9 0))]) hx hb dX6_byTurn_1 rfl hl (by decide) rfl (fun ls hl => ?_)
    exact L2 FU (nI 0) h H locs hw hS ls (lv_sub hl [1, 0] rfl)
  exact main _ _ hw hS ls hl

theorem cf_X6_nextBlock : cfV RX6 yX6_nextBlock cX6_nextBlock 4 (some .int) 0 := ⟨⟨k_773, k_s26, k_7, k_774⟩, by decide +kernel⟩
def f_X6_nextBlock_L54 (k21 : SM → Int32 → Int32 → Int32 → Option (Int32 × SM)) (m : SM) (x3 : Int32) : Option (Int32 × SM) :=
  bd (f_X6_worth m x3) fun r2 m3 => k21 m3 x3 r2 (x3 + (nI 1))
def f_X6_nextBlock_L21 : Nat → SM → Int32 → Int32 → Int32 → Option (Int32 × SM)
  | 0, _, _, _, _ => none
  | n + 1, m, x1, x2, x3 => gd (nI 0) 220 ((if (m 1 (nI 0).toNatClampNeg) ≤ x3 then some (x1, m) else b1 (f_X6_unread m x3) fun r4 => (if r4 ≤ (nI 0) then f_X6_nextBlock_L21 n m x1 x2 (x3 + (nI 1)) else (if x1 = (-5 : Int32) then f_X6_nextBlock_L54 (f_X6_nextBlock_L21 n) m x3 else bd (f_X6_worth m x3) fun r8 m9 => (if r8 ≤ x2 then f_X6_nextBlock_L21 n m9 x1 x2 (x3 + (nI 1)) else f_X6_nextBlock_L54 (f_X6_nextBlock_L21 n) m9 x3)))))
def f_X6_nextBlock (m : SM) : Option (Int32 × SM) :=
  gd (nI 2) 220 ((if (m 1 (nI 2).toNatClampNeg) = (nI 0) then b1 (f_X6_byTurn m) fun r4 => some (r4, m) else f_X6_nextBlock_L21 FU m (-5 : Int32) (nI 0) (nI 0)))
set_option maxHeartbeats 4000000 in
set_option maxRecDepth 100000 in
theorem c_X6_nextBlock {l : Launch} {D : va_G} {cy : Nat → ClassId} {ad : Nat → Nat → Nat} (hcv : CV ad) {M0 : MM} {m : SM} (hm : M0 9 = m) {r : Int32} {x : SM} (h : f_X6_nextBlock m = some (r, x)) : Met l yX6_nextBlock (.code yX6_nextBlock cX6_nextBlock 4 (some .int) :: TB) ({ frames := 7, cells := 0, slots := 0, locals := 159 } : Room) (PW D cy ad M0 [.ref (ad 9 0)]) (QI D cy ad r (gs M0 9 x)) 0 0 (AD ad) := by
  refine m_in (by decide +kernel) (Nat.le_of_ble_eq_true rfl) ?_
  intro p e s md args below meth c hC hw hS ls hl
  obtain ⟨hx, hb, hr, hml, hown, hts, hK, hlk⟩ := hC
  have hl : lv_has ls 4 [(0, .ref (ad 9 0))] := hl
  rw [← gs_same hm] at hw
  have L54 : ∀ (k21 : SM → Int32 → Int32 → Int32 → Option (Int32 × SM)) (hk21 : ∀ (m : SM) (x1 : Int32) (x2 : Int32) (x3 : Int32), k21 m x1 x2 x3 = some (r, x) → JL p l e ({ frames := 7, cells := 0, slots := 0, locals := 159 } : Room) s md args below meth c D cy ad (MQ below (QI D cy ad r (gs M0 9 x)) args s 0 0 (AD ad)) (gs M0 9 m) 4 [(0, .ref (ad 9 0)), (1, .int x1), (2, .int x2), (3, .int x3)] 21 []), ∀ (m : SM) (x3 : Int32), f_X6_nextBlock_L54 k21 m x3 = some (r, x) → JL p l e ({ frames := 7, cells := 0, slots := 0, locals := 159 } : Room) s md args below meth c D cy ad (MQ below (QI D cy ad r (gs M0 9 x)) args s 0 0 (AD ad)) (gs M0 9 m) 4 [(0, .ref (ad 9 0)), (3, .int x3)] 54 [] := by
    intro k21 hk21 m x3 h H locs hw hS ls hl
    unfold f_X6_nextBlock_L54 at h
    refine lv_iload_n hx hb dX6_nextBlock_54 rfl (lv_at hl 1 rfl) ?_
    refine lv_istore_n (lv' := [(1, .int x3), (0, .ref (ad 9 0)), (3, .int x3)]) hx hb dX6_nextBlock_55 rfl hl (by decide) rfl (fun ls hl => ?_)
    refine lv_aload_n hx hb dX6_nextBlock_56 rfl (lv_at hl 1 rfl) ?_
    refine lv_iload_n hx hb dX6_nextBlock_57 rfl (lv_at hl 2 rfl) ?_
    obtain ⟨r2, m3, y1, h⟩ := t_bd h
    refine c_vi hx hb hml hown hts hK hw hS (fun _ h => h) (As := [.int x3]) (rest := []) (c_X6_worth hcv (M0 := gs M0 9 m) (m := m) (hm := gs_at) y1) cf_X6_worth k_783 rfl rfl ⟨Nat.le_of_ble_eq_true rfl, Nat.le_of_ble_eq_true rfl⟩ (r_recv hK hw (v_md (by decide)) E_md rfl) rfl hl.1 rfl (Nat.le_of_ble_eq_true rfl) ⟨Nat.le_refl _, Nat.le_refl _⟩ dX6_nextBlock_58 (fun H locs hw hS => ?_)
    rw [gs_gs] at hw
    refine lv_istore_n (lv' := [(2, .int r2), (1, .int x3), (0, .ref (ad 9 0)), (3, .int x3)]) hx hb dX6_nextBlock_61 rfl hl (by decide) rfl (fun ls hl => ?_)
    refine lv_iinc (v := (x3 + (nI 1))) (lv' := [(3, .int (x3 + (nI 1))), (2, .int r2), (1, .int x3), (0, .ref (ad 9 0))]) hx hb dX6_nextBlock_62 hl (k := 3) rfl rfl (by decide) rfl (fun ls hl => ?_)
    refine lv_goto (tgt := 21) hx hb dX6_nextBlock_65 (by decide) ?_
    exact hk21 m3 x3 r2 (x3 + (nI 1)) h H locs hw hS ls (lv_sub hl [3, 2, 1, 0] rfl)
  have L21 : ∀ (n : Nat), ∀ (m : SM) (x1 : Int32) (x2 : Int32) (x3 : Int32), f_X6_nextBlock_L21 n m x1 x2 x3 = some (r, x) → JL p l e ({ frames := 7, cells := 0, slots := 0, locals := 159 } : Room) s md args below meth c D cy ad (MQ below (QI D cy ad r (gs M0 9 x)) args s 0 0 (AD ad)) (gs M0 9 m) 4 [(0, .ref (ad 9 0)), (1, .int x1), (2, .int x2), (3, .int x3)] 21 [] := by
    intro n
    induction n with
    | zero =>
      intro m x1 x2 x3 h
      cases h
    | succ n ih =>
      intro m x1 x2 x3 h H locs hw hS ls hl
      rw [f_X6_nextBlock_L21.eq_2] at h
      refine lv_iload_n hx hb dX6_nextBlock_21 rfl (lv_at hl 3 rfl) ?_
      refine lv_aload_n hx hb dX6_nextBlock_22 rfl (lv_at hl 0 rfl) ?_
      refine r_get hx hb hts hown hK hw (v_md (by decide)) gs_atc E_md inX6 rfl 0 (by decide) k_544 rfl rfl dX6_nextBlock_23 ?_
      refine lv_iconst (v := nI 0) hx hb dX6_nextBlock_26 (by decide) ?_
      obtain ⟨q1, h⟩ := t_gd h
      refine r_iald hx hb hK hw (v_md (by decide)) gs_atc E_m1 q1 dX6_nextBlock_27 ?_
      refine lv_icmp_ge (tgt := 68) hx hb dX6_nextBlock_28 (by decide) (fun q2 => ?_) (fun q2 => ?_)
      · replace h := t_pos h q2
        refine lv_iload_n hx hb dX6_nextBlock_68 rfl (lv_at hl 1 rfl) ?_
        have e1 := (t_ret h).1
        have e2 := (t_ret h).2
        exact e_i hx hb hr hlk hw hS e1 (by rw [e2]) dX6_nextBlock_69
      · replace h := t_neg h q2
        refine lv_aload_n hx hb dX6_nextBlock_31 rfl (lv_at hl 0 rfl) ?_
        refine lv_iload_n hx hb dX6_nextBlock_32 rfl (lv_at hl 3 rfl) ?_
        obtain ⟨r4, y3, h⟩ := t_b1 h
        refine c_vi hx hb hml hown hts hK hw hS (fun _ h => h) (As := [.int x3]) (rest := []) (c_X6_unread hcv (M0 := gs M0 9 m) (m := m) (hm := gs_at) y3) cf_X6_unread k_779 rfl rfl ⟨Nat.le_of_ble_eq_true rfl, Nat.le_of_ble_eq_true rfl⟩ (r_recv hK hw (v_md (by decide)) E_md rfl) rfl hl.1 rfl (Nat.le_of_ble_eq_true rfl) ⟨Nat.le_refl _, Nat.le_refl _⟩ dX6_nextBlock_33 (fun H locs hw hS => ?_)
        refine lv_if_le (tgt := 62) hx hb dX6_nextBlock_36 (by decide) (fun q5 => ?_) (fun q5 => ?_)
        · replace h := t_pos h q5
          refine lv_iinc (v := (x3 + (nI 1))) (lv' := [(3, .int (x3 + (nI 1))), (0, .ref (ad 9 0)), (1, .int x1), (2, .int x2)]) hx hb dX6_nextBlock_62 hl (k := 3) rfl rfl (by decide) rfl (fun ls hl => ?_)
          refine lv_goto (tgt := 21) hx hb dX6_nextBlock_65 (by decide) ?_
          exact ih m x1 x2 (x3 + (nI 1)) h H locs hw hS ls (lv_sub hl [1, 2, 3, 0] rfl)
        · replace h := t_neg h q5
          refine lv_iload_n hx hb dX6_nextBlock_39 rfl (lv_at hl 1 rfl) ?_
          refine lv_bipush (v := -5) hx hb dX6_nextBlock_40 (by decide) ?_
          refine lv_icmp_eq (tgt := 54) hx hb dX6_nextBlock_42 (by decide) (fun q6 => ?_) (fun q6 => ?_)
          · replace h := t_pos h q6
            exact L54 (f_X6_nextBlock_L21 n) ih m x3 h H locs hw hS ls (lv_sub hl [0, 3] rfl)
          · replace h := t_neg h q6
            refine lv_aload_n hx hb dX6_nextBlock_45 rfl (lv_at hl 0 rfl) ?_
            refine lv_iload_n hx hb dX6_nextBlock_46 rfl (lv_at hl 3 rfl) ?_
            obtain ⟨r8, m9, y7, h⟩ := t_bd h
            refine c_vi hx hb hml hown hts hK hw hS (fun _ h => h) (As := [.int x3]) (rest := []) (c_X6_worth hcv (M0 := gs M0 9 m) (m := m) (hm := gs_at) y7) cf_X6_worth k_783 rfl rfl ⟨Nat.le_of_ble_eq_true rfl, Nat.le_of_ble_eq_true rfl⟩ (r_recv hK hw (v_md (by decide)) E_md rfl) rfl hl.1 rfl (Nat.le_of_ble_eq_true rfl) ⟨Nat.le_refl _, Nat.le_refl _⟩ dX6_nextBlock_47 (fun H locs hw hS => ?_)
            rw [gs_gs] at hw
            refine lv_iload_n hx hb dX6_nextBlock_50 rfl (lv_at hl 2 rfl) ?_
            refine lv_icmp_le (tgt := 62) hx hb dX6_nextBlock_51 (by decide) (fun q10 => ?_) (fun q10 => ?_)
            · replace h := t_pos h q10
              refine lv_iinc (v := (x3 + (nI 1))) (lv' := [(3, .int (x3 + (nI 1))), (0, .ref (ad 9 0)), (1, .int x1), (2, .int x2)]) hx hb dX6_nextBlock_62 hl (k := 3) rfl rfl (by decide) rfl (fun ls hl => ?_)
              refine lv_goto (tgt := 21) hx hb dX6_nextBlock_65 (by decide) ?_
              exact ih m9 x1 x2 (x3 + (nI 1)) h H locs hw hS ls (lv_sub hl [1, 2, 3, 0] rfl)
            · replace h := t_neg h q10
              exact L54 (f_X6_nextBlock_L21 n) ih m9 x3 h H locs hw hS ls (lv_sub hl [0, 3] rfl)
  unfold f_X6_nextBlock at h
  have main : JL p l e ({ frames := 7, cells := 0, slots := 0, locals := 159 } : Room) s md args below meth c D cy ad (MQ below (QI D cy ad r (gs M0 9 x)) args s 0 0 (AD ad)) (gs M0 9 m) 4 [(0, .ref (ad 9 0))] 0 [] := by
    intro H locs hw hS ls hl
    refine lv_aload_n hx hb dX6_nextBlock_0 rfl (lv_at hl 0 rfl) ?_
    refine r_get hx hb hts hown hK hw (v_md (by decide)) gs_atc E_md inX6 rfl 0 (by decide) k_544 rfl rfl dX6_nextBlock_1 ?_
    refine lv_iconst (v := nI 2) hx hb dX6_nextBlock_4 (by decide) ?_
    obtain ⟨q1, h⟩ := t_gd h
    refine r_iald hx hb hK hw (v_md (by decide)) gs_atc E_m1 q1 dX6_nextBlock_5 ?_
    refine lv_if_ne (tgt := 14) hx hb dX6_nextBlock_6 (by decide) (fun q2 => ?_) (fun q2 => ?_)
    · replace h := t_neg h q2
      refine lv_bipush (v := -5) hx hb dX6_nextBlock_14 (by decide) ?_
      refine lv_istore_n (lv' := [(1, .int (-5 : Int32)), (0, .ref (ad 9 0))]) hx hb dX6_nextBlock_16 rfl hl (by decide) rfl (fun ls hl => ?_)
      refine lv_iconst (v := nI 0) hx hb dX6_nextBlock_17 (by decide) ?_
      refine lv_istore_n (lv' := [(2, .int (nI 0)), (1, .int (-5 : Int32)), (0, .ref (ad 9 0))]) hx hb dX6_nextBlock_18 rfl hl (by decide) rfl (fun ls hl => ?_)
      refine lv_iconst (v := nI 0) hx hb dX6_nextBlock_19 (by decide) ?_
      refine lv_istore_n (lv' := [(3, .int (nI 0)), (2, .int (nI 0)), (1, .int (-5 : Int32)), (0, .ref (ad 9 0))]) hx hb dX6_nextBlock_20 rfl hl (by decide) rfl (fun ls hl => ?_)
      exact L21 FU m (-5 : Int32) (nI 0) (nI 0) h H locs hw hS ls (lv_sub hl [3, 2, 1, 0] rfl)
    · replace h := t_pos h q2
      refine lv_aload_n hx hb dX6_nextBlock_9 rfl (lv_at hl 0 rfl) ?_
      obtain ⟨r4, y3, h⟩ := t_b1 h
      refine c_vi hx hb hml hown hts hK hw hS (fun _ h => h) (As := []) (rest := []) (c_X6_byTurn hcv (M0 := gs M0 9 m) (m := m) (hm := gs_at) y3) cf_X6_byTurn k_775 rfl rfl ⟨Nat.le_of_ble_eq_true rfl, Nat.le_of_ble_eq_true rfl⟩ (r_recv hK hw (v_md (by decide)) E_md rfl) rfl hl.1 rfl (Nat.le_of_ble_eq_true rfl) ⟨Nat.le_refl _, Nat.le_refl _⟩ dX6_nextBlock_10 (fun H locs hw hS => ?_)
      have e1 := (t_ret h).1
      have e2 := (t_ret h).2
      exact e_i hx hb hr hlk hw hS e1 (by rw [e2]) dX6_nextBlock_13
  exact main _ _ hw hS ls hl

theorem cf_X6_readOne : cfV RX6 yX6_readOne cX6_readOne 2 none 1 := ⟨⟨k_797, k_s32, k_7, k_798⟩, by decide +kernel⟩
def f_X6_readOne (m : SM) (p0 : Int32) : Option (Int32 × SM) :=
  b1 (f_X6_of m p0 (nI 4)) fun r2 => bd (f_X6_put m p0 (nI 4) (r2 + (nI 1))) fun r4 m5 => bd (f_X6_settle m5) fun r7 m8 => some (0, m8)
set_option maxHeartbeats 4000000 in
set_option maxRecDepth 100000 in
theorem c_X6_readOne {l : Launch} {D : va_G} {cy : Nat → ClassId} {ad : Nat → Nat → Nat} (hcv : CV ad) {M0 : MM} {m : SM} (hm : M0 9 = m) {p0 : Int32} {r : Int32} {x : SM} (h : f_X6_readOne m p0 = some (r, x)) : Met l yX6_readOne (.code yX6_readOne cX6_readOne 2 none :: TB) ({ frames := 6, cells := 0, slots := 0, locals := 137 } : Room) (PW D cy ad M0 [.ref (ad 9 0), .int p0]) (QV D cy ad (gs M0 9 x)) 0 0 (AD ad) := by
  refine m_in (by decide +kernel) (Nat.le_of_ble_eq_true rfl) ?_
  intro p e s md args below meth c hC hw hS ls hl
  obtain ⟨hx, hb, hr, hml, hown, hts, hK, hlk⟩ := hC
  have hl : lv_has ls 2 [(0, .ref (ad 9 0)), (1, .int p0)] := hl
  rw [← gs_same hm] at hw
  unfold f_X6_readOne at h
  have main : JL p l e ({ frames := 6, cells := 0, slots := 0, locals := 137 } : Room) s md args below meth c D cy ad (MQ below (QV D cy ad (gs M0 9 x)) args s 0 0 (AD ad)) (gs M0 9 m) 2 [(0, .ref (ad 9 0)), (1, .int p0)] 0 [] := by
    intro H locs hw hS ls hl
    refine lv_aload_n hx hb dX6_readOne_0 rfl (lv_at hl 0 rfl) ?_
    refine lv_iload_n hx hb dX6_readOne_1 rfl (lv_at hl 1 rfl) ?_
    refine lv_iconst (v := nI 4) hx hb dX6_readOne_2 (by decide) ?_
    refine lv_aload_n hx hb dX6_readOne_3 rfl (lv_at hl 0 rfl) ?_
    refine lv_iload_n hx hb dX6_readOne_4 rfl (lv_at hl 1 rfl) ?_
    refine lv_iconst (v := nI 4) hx hb dX6_readOne_5 (by decide) ?_
    obtain ⟨r2, y1, h⟩ := t_b1 h
    refine c_vi hx hb hml hown hts hK hw hS (fun _ h => h) (As := [.int p0, .int (nI 4)]) (rest := [.int (nI 4), .int p0, .ref (ad 9 0)]) (c_X6_of hcv (M0 := gs M0 9 m) (m := m) (hm := gs_at) y1) cf_X6_of k_611 rfl rfl ⟨Nat.le_of_ble_eq_true rfl, Nat.le_of_ble_eq_true rfl⟩ (r_recv hK hw (v_md (by decide)) E_md rfl) rfl hl.1 rfl (Nat.le_of_ble_eq_true rfl) ⟨Nat.le_refl _, Nat.le_refl _⟩ dX6_readOne_6 (fun H locs hw hS => ?_)
    refine lv_iconst (v := nI 1) hx hb dX6_readOne_9 (by decide) ?_
    refine lv_iadd hx hb dX6_readOne_10 ?_
    obtain ⟨r4, m5, y3, h⟩ := t_bd h
    refine c_vv hx hb hml hown hts hK hw hS (fun _ h => h) (As := [.int p0, .int (nI 4), .int (r2 + (nI 1))]) (rest := []) (c_X6_put hcv (M0 := gs M0 9 m) (m := m) (hm := gs_at) y3) cf_X6_put k_666 rfl rfl ⟨Nat.le_of_ble_eq_true rfl, Nat.le_of_ble_eq_true rfl⟩ (r_recv hK hw (v_md (by decide)) E_md rfl) rfl hl.1 rfl (Nat.le_of_ble_eq_true rfl) ⟨Nat.le_refl _, Nat.le_refl _⟩ dX6_readOne_11 (fun H locs hw hS => ?_)
    rw [gs_gs] at hw
    refine lv_aload_n hx hb dX6_readOne_14 rfl (lv_at hl 0 rfl) ?_
    obtain ⟨r7, m8, y6, h⟩ := t_bd h
    refine c_vv hx hb hml hown hts hK hw hS (fun _ h => h) (As := []) (rest := []) (c_X6_settle hcv (M0 := gs M0 9 m5) (m := m5) (hm := gs_at) y6) cf_X6_settle k_670 rfl rfl ⟨Nat.le_of_ble_eq_true rfl, Nat.le_of_ble_eq_true rfl⟩ (r_recv hK hw (v_md (by decide)) E_md rfl) rfl hl.1 rfl (Nat.le_of_ble_eq_true rfl) ⟨Nat.le_refl _, Nat.le_refl _⟩ dX6_readOne_15 (fun H locs hw hS => ?_)
    rw [gs_gs] at hw
    have e1 := (t_ret h).1
    have e2 := (t_ret h).2
    exact e_v hx hb hr hlk hw hS (by rw [e2]) dX6_readOne_18
  exact main _ _ hw hS ls hl

theorem cf_X6_readNext : cfV RX6 yX6_readNext cX6_readNext 2 none 0 := ⟨⟨k_769, k_s25, k_7, k_770⟩, by decide +kernel⟩
def f_X6_readNext (m : SM) : Option (Int32 × SM) :=
  bd (f_X6_nextBlock m) fun r2 m3 => gd (nI 2) 220 ((if (m3 1 (nI 2).toNatClampNeg) = (nI 0) then gd (nI 0) 220 (gn (m3 1 (nI 0).toNatClampNeg) (gd (nI 3) 220 (lt1 (up m3 1 (nI 3).toNatClampNeg ((r2 + (nI 1)) - (r2 + (nI 1)) / (m3 1 (nI 0).toNatClampNeg) * (m3 1 (nI 0).toNatClampNeg))) fun m13 => bd (f_X6_readOne m13 r2) fun r15 m16 => some (0, m16)))) else bd (f_X6_readOne m3 r2) fun r7 m8 => some (0, m8)))
set_option maxHeartbeats 4000000 in
set_option maxRecDepth 100000 in
theorem c_X6_readNext {l : Launch} {D : va_G} {cy : Nat → ClassId} {ad : Nat → Nat → Nat} (hcv : CV ad) {M0 : MM} {m : SM} (hm : M0 9 = m) {r : Int32} {x : SM} (h : f_X6_readNext m = some (r, x)) : Met l yX6_readNext (.code yX6_readNext cX6_readNext 2 none :: TB) ({ frames := 8, cells := 0, slots := 0, locals := 182 } : Room) (PW D cy ad M0 [.ref (ad 9 0)]) (QV D cy ad (gs M0 9 x)) 0 0 (AD ad) := by
  refine m_in (by decide +kernel) (Nat.le_of_ble_eq_true rfl) ?_
  intro p e s md args below meth c hC hw hS ls hl
  obtain ⟨hx, hb, hr, hml, hown, hts, hK, hlk⟩ := hC
  have hl : lv_has ls 2 [(0, .ref (ad 9 0))] := hl
  rw [← gs_same hm] at hw
  unfold f_X6_readNext at h
  have main : JL p l e ({ frames := 8, cells := 0, slots := 0, locals := 182 } : Room) s md args below meth c D cy ad (MQ below (QV D cy ad (gs M0 9 x)) args s 0 0 (AD ad)) (gs M0 9 m) 2 [(0, .ref (ad 9 0))] 0 [] := by
    intro H locs hw hS ls hl
    refine lv_aload_n hx hb dX6_readNext_0 rfl (lv_at hl 0 rfl) ?_
    obtain ⟨r2, m3, y1, h⟩ := t_bd h
    refine c_vi hx hb hml hown hts hK hw hS (fun _ h => h) (As := []) (rest := []) (c_X6_nextBlock hcv (M0 := gs M0 9 m) (m := m) (hm := gs_at) y1) cf_X6_nextBlock k_771 rfl rfl ⟨Nat.le_of_ble_eq_true rfl, Nat.le_of_ble_eq_true rfl⟩ (r_recv hK hw (v_md (by decide)) E_md rfl) rfl hl.1 rfl (Nat.le_of_ble_eq_true rfl) ⟨Nat.le_refl _, Nat.le_refl _⟩ dX6_readNext_1 (fun H locs hw hS => ?_)
    rw [gs_gs] at hw
    refine lv_istore_n (lv' := [(1, .int r2), (0, .ref (ad 9 0))]) hx hb dX6_readNext_4 rfl hl (by decide) rfl (fun ls hl => ?_)
    refine lv_aload_n hx hb dX6_readNext_5 rfl (lv_at hl 1 rfl) ?_
    refine r_get hx hb hts hown hK hw (v_md (by decide)) gs_atc E_md inX6 rfl 0 (by decide) k_544 rfl rfl dX6_readNext_6 ?_
    refine lv_iconst (v := nI 2) hx hb dX6_readNext_9 (by decide) ?_
    obtain ⟨q4, h⟩ := t_gd h
    refine r_iald hx hb hK hw (v_md (by decide)) gs_atc E_m1 q4 dX6_readNext_10 ?_
    refine lv_if_ne (tgt := 30) hx hb dX6_readNext_11 (by decide) (fun q5 => ?_) (fun q5 => ?_)
    · replace h := t_neg h q5
      refine lv_aload_n hx hb dX6_readNext_30 rfl (lv_at hl 1 rfl) ?_
      refine lv_iload_n hx hb dX6_readNext_31 rfl (lv_at hl 0 rfl) ?_
      obtain ⟨r7, m8, y6, h⟩ := t_bd h
      refine c_vv hx hb hml hown hts hK hw hS (fun _ h => h) (As := [.int r2]) (rest := []) (c_X6_readOne hcv (M0 := gs M0 9 m3) (m := m3) (hm := gs_at) y6) cf_X6_readOne k_795 rfl rfl ⟨Nat.le_of_ble_eq_true rfl, Nat.le_of_ble_eq_true rfl⟩ (r_recv hK hw (v_md (by decide)) E_md rfl) rfl hl.1 rfl (Nat.le_of_ble_eq_true rfl) ⟨Nat.le_refl _, Nat.le_refl _⟩ dX6_readNext_32 (fun H locs hw hS => ?_)
      rw [gs_gs] at hw
      have e1 := (t_ret h).1
      have e2 := (t_ret h).2
      exact e_v hx hb hr hlk hw hS (by rw [e2]) dX6_readNext_35
    · replace h := t_pos h q5
      refine lv_aload_n hx hb dX6_readNext_14 rfl (lv_at hl 1 rfl) ?_
      refine r_get hx hb hts hown hK hw (v_md (by decide)) gs_atc E_md inX6 rfl 0 (by decide) k_544 rfl rfl dX6_readNext_15 ?_
      refine lv_iconst (v := nI 3) hx hb dX6_readNext_18 (by decide) ?_
      refine lv_iload_n hx hb dX6_readNext_19 rfl (lv_at hl 0 rfl) ?_
      refine lv_iconst (v := nI 1) hx hb dX6_readNext_20 (by decide) ?_
      refine lv_iadd hx hb dX6_readNext_21 ?_
      refine lv_aload_n hx hb dX6_readNext_22 rfl (lv_at hl 1 rfl) ?_
      refine r_get hx hb hts hown hK hw (v_md (by decide)) gs_atc E_md inX6 rfl 0 (by decide) k_544 rfl rfl dX6_readNext_23 ?_
      refine lv_iconst (v := nI 0) hx hb dX6_readNext_26 (by decide) ?_
      obtain ⟨q9, h⟩ := t_gd h
      refine r_iald hx hb hK hw (v_md (by decide)) gs_atc E_m1 q9 dX6_readNext_27 ?_
      obtain ⟨q10, h⟩ := t_gn h
      refine lv_irem hx hb dX6_readNext_28 q10 ?_
      obtain ⟨q11, h⟩ := t_gd h
      obtain ⟨m13, e12, h⟩ := t_lt h
      refine r_iast hx hb hK hcv hw hS (v_md (by decide)) gs_atc (fun _ => E_m1) q11 (gs_up e12) dX6_readNext_29 (fun H locs hw hS => ?_)
      refine lv_aload_n hx hb dX6_readNext_30 rfl (lv_at hl 1 rfl) ?_
      refine lv_iload_n hx hb dX6_readNext_31 rfl (lv_at hl 0 rfl) ?_
      obtain ⟨r15, m16, y14, h⟩ := t_bd h
      refine c_vv hx hb hml hown hts hK hw hS (fun _ h => h) (As := [.int r2]) (rest := []) (c_X6_readOne hcv (M0 := gs M0 9 m13) (m := m13) (hm := gs_at) y14) cf_X6_readOne k_795 rfl rfl ⟨Nat.le_of_ble_eq_true rfl, Nat.le_of_ble_eq_true rfl⟩ (r_recv hK hw (v_md (by decide)) E_md rfl) rfl hl.1 rfl (Nat.le_of_ble_eq_true rfl) ⟨Nat.le_refl _, Nat.le_refl _⟩ dX6_readNext_32 (fun H locs hw hS => ?_)
      rw [gs_gs] at hw
      have e1 := (t_ret h).1
      have e2 := (t_ret h).2
      exact e_v hx hb hr hlk hw hS (by rw [e2]) dX6_readNext_35
  exact main _ _ hw hS ls hl

theorem cf_X6_type : cfV RX6 yX6_type cX6_type 2 (some .int) 1 := ⟨⟨k_624, k_625, k_7, k_626⟩, by decide +kernel⟩
def f_X6_type (m : SM) (p0 : Int32) : Option (Int32 × SM) :=
  (if (m 0 7) = (nI 80) then some ((-3 : Int32), m) else gd (m 0 7) 80 (lt1 (up m 5 (m 0 7).toNatClampNeg (vp_nar .char p0)) fun m4 => lt1 (up m4 0 7 ((m4 0 7) + (nI 1))) fun m6 => some ((m6 0 7), m6)))
set_option maxHeartbeats 4000000 in
set_option maxRecDepth 100000 in
theorem c_X6_type {l : Launch} {D : va_G} {cy : Nat → ClassId} {ad : Nat → Nat → Nat} (hcv : CV ad) {M0 : MM} {m : SM} (hm : M0 9 = m) {p0 : Int32} {r : Int32} {x : SM} (h : f_X6_type m p0 = some (r, x)) : Met l yX6_type (.code yX6_type cX6_type 2 (some .int) :: TB) ({ frames := 0, cells := 0, slots := 0, locals := 0 } : Room) (PW D cy ad M0 [.ref (ad 9 0), .int p0]) (QI D cy ad r (gs M0 9 x)) 0 0 (AD ad) := by
  refine m_in (by decide +kernel) (Nat.le_of_ble_eq_true rfl) ?_
  intro p e s md args below meth c hC hw hS ls hl
  obtain ⟨hx, hb, hr, hml, hown, hts, hK, hlk⟩ := hC
  have hl : lv_has ls 2 [(0, .ref (ad 9 0)), (1, .int p0)] := hl
  rw [← gs_same hm] at hw
  unfold f_X6_type at h
  have main : JL p l e ({ frames := 0, cells := 0, slots := 0, locals := 0 } : Room) s md args below meth c D cy ad (MQ below (QI D cy ad r (gs M0 9 x)) args s 0 0 (AD ad)) (gs M0 9 m) 2 [(0, .ref (ad 9 0)), (1, .int p0)] 0 [] := by
    intro H locs hw hS ls hl
    refine lv_aload_n hx hb dX6_type_0 rfl (lv_at hl 0 rfl) ?_
    refine r_get hx hb hts hown hK hw (v_md (by decide)) gs_atc E_md inX6 rfl 7 (by decide) k_551 rfl rfl dX6_type_1 ?_
    refine lv_bipush (v := nI 80) hx hb dX6_type_4 (by decide) ?_
    refine lv_icmp_ne (tgt := 12) hx hb dX6_type_6 (by decide) (fun q1 => ?_) (fun q1 => ?_)
    · replace h := t_neg h q1
      refine lv_aload_n hx hb dX6_type_12 rfl (lv_at hl 0 rfl) ?_
      refine r_get hx hb hts hown hK hw (v_md (by decide)) gs_atc E_md inX6 rfl 6 (by decide) k_550 rfl rfl dX6_type_13 ?_
      refine lv_aload_n hx hb dX6_type_16 rfl (lv_at hl 0 rfl) ?_
      refine r_get hx hb hts hown hK hw (v_md (by decide)) gs_atc E_md inX6 rfl 7 (by decide) k_551 rfl rfl dX6_type_17 ?_
      refine lv_iload_n hx hb dX6_type_20 rfl (lv_at hl 1 rfl) ?_
      obtain ⟨q2, h⟩ := t_gd h
      obtain ⟨m4, e3, h⟩ := t_lt h
      refine r_cast hx hb hK hcv hw hS (v_md (by decide)) gs_atc (fun _ => E_m5) q2 (gs_up e3) dX6_type_21 (fun H locs hw hS => ?_)
      refine lv_aload_n hx hb dX6_type_22 rfl (lv_at hl 0 rfl) ?_
      refine lv_dup hx hb dX6_type_23 rfl ?_
      refine r_get hx hb hts hown hK hw (v_md (by decide)) gs_atc E_md inX6 rfl 7 (by decide) k_551 rfl rfl dX6_type_24 ?_
      refine lv_iconst (v := nI 1) hx hb dX6_type_27 (by decide) ?_
      refine lv_iadd hx hb dX6_type_28 ?_
      obtain ⟨m6, e5, h⟩ := t_lt h
      refine r_put hx hb hts hown hK hcv hw hS (v_md (by decide)) gs_atc E_md inX6 rfl tyX6 tyX6_ok nmX6 7 (by decide) k_551 rfl rfl rfl rfl (Nat.le_of_ble_eq_true rfl) E_md (gs_up e5) dX6_type_29 (fun H locs hw hS => ?_)
      refine lv_aload_n hx hb dX6_type_32 rfl (lv_at hl 0 rfl) ?_
      refine r_get hx hb hts hown hK hw (v_md (by decide)) gs_atc E_md inX6 rfl 7 (by decide) k_551 rfl rfl dX6_type_33 ?_
      have e1 := (t_ret h).1
      have e2 := (t_ret h).2
      exact e_i hx hb hr hlk hw hS e1 (by rw [e2]) dX6_type_36
    · replace h := t_pos h q1
      refine lv_bipush (v := -3) hx hb dX6_type_9 (by decide) ?_
      have e1 := (t_ret h).1
      have e2 := (t_ret h).2
      exact e_i hx hb hr hlk hw hS e1 (by rw [e2]) dX6_type_11
  exact main _ _ hw hS ls hl

theorem cf_X6_clearText : cfV RX6 yX6_clearText cX6_clearText 2 (some .int) 0 := ⟨⟨k_628, k_629, k_7, k_630⟩, by decide +kernel⟩
def f_X6_clearText (m : SM) : Option (Int32 × SM) :=
  lt1 (up m 0 7 (nI 0)) fun m2 => some ((m 0 7), m2)
set_option maxHeartbeats 4000000 in
set_option maxRecDepth 100000 in
theorem c_X6_clearText {l : Launch} {D : va_G} {cy : Nat → ClassId} {ad : Nat → Nat → Nat} (hcv : CV ad) {M0 : MM} {m : SM} (hm : M0 9 = m) {r : Int32} {x : SM} (h : f_X6_clearText m = some (r, x)) : Met l yX6_clearText (.code yX6_clearText cX6_clearText 2 (some .int) :: TB) ({ frames := 0, cells := 0, slots := 0, locals := 0 } : Room) (PW D cy ad M0 [.ref (ad 9 0)]) (QI D cy ad r (gs M0 9 x)) 0 0 (AD ad) := by
  refine m_in (by decide +kernel) (Nat.le_of_ble_eq_true rfl) ?_
  intro p e s md args below meth c hC hw hS ls hl
  obtain ⟨hx, hb, hr, hml, hown, hts, hK, hlk⟩ := hC
  have hl : lv_has ls 2 [(0, .ref (ad 9 0))] := hl
  rw [← gs_same hm] at hw
  unfold f_X6_clearText at h
  have main : JL p l e ({ frames := 0, cells := 0, slots := 0, locals := 0 } : Room) s md args below meth c D cy ad (MQ below (QI D cy ad r (gs M0 9 x)) args s 0 0 (AD ad)) (gs M0 9 m) 2 [(0, .ref (ad 9 0))] 0 [] := by
    intro H locs hw hS ls hl
    refine lv_aload_n hx hb dX6_clearText_0 rfl (lv_at hl 0 rfl) ?_
    refine r_get hx hb hts hown hK hw (v_md (by decide)) gs_atc E_md inX6 rfl 7 (by decide) k_551 rfl rfl dX6_clearText_1 ?_
    refine lv_istore_n (lv' := [(1, .int (m 0 7)), (0, .ref (ad 9 0))]) hx hb dX6_clearText_4 rfl hl (by decide) rfl (fun ls hl => ?_)
    refine lv_aload_n hx hb dX6_clearText_5 rfl (lv_at hl 1 rfl) ?_
    refine lv_iconst (v := nI 0) hx hb dX6_clearText_6 (by decide) ?_
    obtain ⟨m2, e1, h⟩ := t_lt h
    refine r_put hx hb hts hown hK hcv hw hS (v_md (by decide)) gs_atc E_md inX6 rfl tyX6 tyX6_ok nmX6 7 (by decide) k_551 rfl rfl rfl rfl (Nat.le_of_ble_eq_true rfl) E_md (gs_up e1) dX6_clearText_7 (fun H locs hw hS => ?_)
    refine lv_iload_n hx hb dX6_clearText_10 rfl (lv_at hl 0 rfl) ?_
    have e1 := (t_ret h).1
    have e2 := (t_ret h).2
    exact e_i hx hb hr hlk hw hS e1 (by rw [e2]) dX6_clearText_11
  exact main _ _ hw hS ls hl

theorem cf_X6_letter : cfV RX6 yX6_letter cX6_letter 2 (some .int) 1 := ⟨⟨k_641, k_s4, k_7, k_642⟩, by decide +kernel⟩
def f_X6_letter (m : SM) (p0 : Int32) : Option (Int32) :=
  (if (m 0 7) ≤ p0 then some (-1 : Int32) else gd p0 80 (some (m 5 p0.toNatClampNeg)))
set_option maxHeartbeats 4000000 in
set_option maxRecDepth 100000 in
theorem c_X6_letter {l : Launch} {D : va_G} {cy : Nat → ClassId} {ad : Nat → Nat → Nat} (hcv : CV ad) {M0 : MM} {m : SM} (hm : M0 9 = m) {p0 : Int32} {r : Int32} (h : f_X6_letter m p0 = some r) : Met l yX6_letter (.code yX6_letter cX6_letter 2 (some .int) :: TB) ({ frames := 0, cells := 0, slots := 0, locals := 0 } : Room) (PW D cy ad M0 [.ref (ad 9 0), .int p0]) (QI D cy ad r M0) 0 0 (AD ad) := by
  refine m_in (by decide +kernel) (Nat.le_of_ble_eq_true rfl) ?_
  intro p e s md args below meth c hC hw hS ls hl
  obtain ⟨hx, hb, hr, hml, hown, hts, hK, hlk⟩ := hC
  have hl : lv_has ls 2 [(0, .ref (ad 9 0)), (1, .int p0)] := hl
  rw [← gs_same hm] at hw
  unfold f_X6_letter at h
  have main : JL p l e ({ frames := 0, cells := 0, slots := 0, locals := 0 } : Room) s md args below meth c D cy ad (MQ below (QI D cy ad r M0) args s 0 0 (AD ad)) (gs M0 9 m) 2 [(0, .ref (ad 9 0)), (1, .int p0)] 0 [] := by
    intro H locs hw hS ls hl
    refine lv_iload_n hx hb dX6_letter_0 rfl (lv_at hl 1 rfl) ?_
    refine lv_aload_n hx hb dX6_letter_1 rfl (lv_at hl 0 rfl) ?_
    refine r_get hx hb hts hown hK hw (v_md (by decide)) gs_atc E_md inX6 rfl 7 (by decide) k_551 rfl rfl dX6_letter_2 ?_
    refine lv_icmp_ge (tgt := 17) hx hb dX6_letter_5 (by decide) (fun q1 => ?_) (fun q1 => ?_)
    · replace h := t_pos h q1
      refine lv_iconst (v := -1) hx hb dX6_letter_17 (by decide) ?_
      have e1 := Option.some.inj h
      exact e_i hx hb hr hlk hw hS e1 (gs_same hm) dX6_letter_18
    · replace h := t_neg h q1
      refine lv_aload_n hx hb dX6_letter_8 rfl (lv_at hl 0 rfl) ?_
      refine r_get hx hb hts hown hK hw (v_md (by decide)) gs_atc E_md inX6 rfl 6 (by decide) k_550 rfl rfl dX6_letter_9 ?_
      refine lv_iload_n hx hb dX6_letter_12 rfl (lv_at hl 1 rfl) ?_
      obtain ⟨q2, h⟩ := t_gd h
      refine r_cald hx hb hK hw (v_md (by decide)) gs_atc E_m5 q2 dX6_letter_13 ?_
      refine lv_goto (tgt := 18) hx hb dX6_letter_14 (by decide) ?_
      have e1 := Option.some.inj h
      exact e_i hx hb hr hlk hw hS e1 (gs_same hm) dX6_letter_18
  exact main _ _ hw hS ls hl

theorem cf_X6_fail : cfV RX6 yX6_fail cX6_fail 1 none 0 := ⟨⟨k_645, k_s5, k_7, k_646⟩, by decide +kernel⟩
def f_X6_fail (m : SM) : Option (Int32 × SM) :=
  (if (m 0 17) = (-5 : Int32) then lt1 (up m 0 17 (m 0 16)) fun m5 => some (0, m5) else lt1 (up m 0 17 (m 0 17)) fun m3 => some (0, m3))
set_option maxHeartbeats 4000000 in
set_option maxRecDepth 100000 in
theorem c_X6_fail {l : Launch} {D : va_G} {cy : Nat → ClassId} {ad : Nat → Nat → Nat} (hcv : CV ad) {M0 : MM} {m : SM} (hm : M0 9 = m) {r : Int32} {x : SM} (h : f_X6_fail m = some (r, x)) : Met l yX6_fail (.code yX6_fail cX6_fail 1 none :: TB) ({ frames := 0, cells := 0, slots := 0, locals := 0 } : Room) (PW D cy ad M0 [.ref (ad 9 0)]) (QV D cy ad (gs M0 9 x)) 0 0 (AD ad) := by
  refine m_in (by decide +kernel) (Nat.le_of_ble_eq_true rfl) ?_
  intro p e s md args below meth c hC hw hS ls hl
  obtain ⟨hx, hb, hr, hml, hown, hts, hK, hlk⟩ := hC
  have hl : lv_has ls 1 [(0, .ref (ad 9 0))] := hl
  rw [← gs_same hm] at hw
  unfold f_X6_fail at h
  have main : JL p l e ({ frames := 0, cells := 0, slots := 0, locals := 0 } : Room) s md args below meth c D cy ad (MQ below (QV D cy ad (gs M0 9 x)) args s 0 0 (AD ad)) (gs M0 9 m) 1 [(0, .ref (ad 9 0))] 0 [] := by
    intro H locs hw hS ls hl
    refine lv_aload_n hx hb dX6_fail_0 rfl (lv_at hl 0 rfl) ?_
    refine lv_aload_n hx hb dX6_fail_1 rfl (lv_at hl 0 rfl) ?_
    refine r_get hx hb hts hown hK hw (v_md (by decide)) gs_atc E_md inX6 rfl 17 (by decide) k_561 rfl rfl dX6_fail_2 ?_
    refine lv_bipush (v := -5) hx hb dX6_fail_5 (by decide) ?_
    refine lv_icmp_ne (tgt := 17) hx hb dX6_fail_7 (by decide) (fun q1 => ?_) (fun q1 => ?_)
    · replace h := t_neg h q1
      refine lv_aload_n hx hb dX6_fail_17 rfl (lv_at hl 0 rfl) ?_
      refine r_get hx hb hts hown hK hw (v_md (by decide)) gs_atc E_md inX6 rfl 17 (by decide) k_561 rfl rfl dX6_fail_18 ?_
      obtain ⟨m3, e2, h⟩ := t_lt h
      refine r_put hx hb hts hown hK hcv hw hS (v_md (by decide)) gs_atc E_md inX6 rfl tyX6 tyX6_ok nmX6 17 (by decide) k_561 rfl rfl rfl rfl (Nat.le_of_ble_eq_true rfl) E_md (gs_up e2) dX6_fail_21 (fun H locs hw hS => ?_)
      have e1 := (t_ret h).1
      have e2 := (t_ret h).2
      exact e_v hx hb hr hlk hw hS (by rw [e2]) dX6_fail_24
    · replace h := t_pos h q1
      refine lv_aload_n hx hb dX6_fail_10 rfl (lv_at hl 0 rfl) ?_
      refine r_get hx hb hts hown hK hw (v_md (by decide)) gs_atc E_md inX6 rfl 16 (by decide) k_560 rfl rfl dX6_fail_11 ?_
      refine lv_goto (tgt := 21) hx hb dX6_fail_14 (by decide) ?_
      obtain ⟨m5, e4, h⟩ := t_lt h
      refine r_put hx hb hts hown hK hcv hw hS (v_md (by decide)) gs_atc E_md inX6 rfl tyX6 tyX6_ok nmX6 17 (by decide) k_561 rfl rfl rfl rfl (Nat.le_of_ble_eq_true rfl) E_md (gs_up e4) dX6_fail_21 (fun H locs hw hS => ?_)
      have e1 := (t_ret h).1
      have e2 := (t_ret h).2
      exact e_v hx hb hr hlk hw hS (by rw [e2]) dX6_fail_24
  exact main _ _ hw hS ls hl

theorem cf_X6_takes : cfV RX6 yX6_takes cX6_takes 2 none 1 := ⟨⟨k_649, k_s6, k_7, k_650⟩, by decide +kernel⟩
def f_X6_takes_L16 (p0 : Int32) (m : SM) : Option (Int32 × SM) :=
  lt1 (up m 0 16 ((m 0 16) + (nI 1))) fun m2 => some (0, m2)
def f_X6_takes (m : SM) (p0 : Int32) : Option (Int32 × SM) :=
  b1 (f_X6_letter m (m 0 16)) fun r2 => (if r2 = p0 then f_X6_takes_L16 p0 m else bd (f_X6_fail m) fun r5 m6 => f_X6_takes_L16 p0 m6)
set_option maxHeartbeats 4000000 in
set_option maxRecDepth 100000 in
theorem c_X6_takes {l : Launch} {D : va_G} {cy : Nat → ClassId} {ad : Nat → Nat → Nat} (hcv : CV ad) {M0 : MM} {m : SM} (hm : M0 9 = m) {p0 : Int32} {r : Int32} {x : SM} (h : f_X6_takes m p0 = some (r, x)) : Met l yX6_takes (.code yX6_takes cX6_takes 2 none :: TB) ({ frames := 1, cells := 0, slots := 0, locals := 21 } : Room) (PW D cy ad M0 [.ref (ad 9 0), .int p0]) (QV D cy ad (gs M0 9 x)) 0 0 (AD ad) := by
  refine m_in (by decide +kernel) (Nat.le_of_ble_eq_true rfl) ?_
  intro p e s md args below meth c hC hw hS ls hl
  obtain ⟨hx, hb, hr, hml, hown, hts, hK, hlk⟩ := hC
  have hl : lv_has ls 2 [(0, .ref (ad 9 0)), (1, .int p0)] := hl
  rw [← gs_same hm] at hw
  have L16 : ∀ (m : SM), f_X6_takes_L16 p0 m = some (r, x) → JL p l e ({ frames := 1, cells := 0, slots := 0, locals := 21 } : Room) s md args below meth c D cy ad (MQ below (QV D cy ad (gs M0 9 x)) args s 0 0 (AD ad)) (gs M0 9 m) 2 [(0, .ref (ad 9 0))] 16 [] := by
    intro m h H locs hw hS ls hl
    unfold f_X6_takes_L16 at h
    refine lv_aload_n hx hb dX6_takes_16 rfl (lv_at hl 0 rfl) ?_
    refine lv_dup hx hb dX6_takes_17 rfl ?_
    refine r_get hx hb hts hown hK hw (v_md (by decide)) gs_atc E_md inX6 rfl 16 (by decide) k_560 rfl rfl dX6_takes_18 ?_
    refine lv_iconst (v := nI 1) hx hb dX6_takes_21 (by decide) ?_
    refine lv_iadd hx hb dX6_takes_22 ?_
    obtain ⟨m2, e1, h⟩ := t_lt h
    refine r_put hx hb hts hown hK hcv hw hS (v_md (by decide)) gs_atc E_md inX6 rfl tyX6 tyX6_ok nmX6 16 (by decide) k_560 rfl rfl rfl rfl (Nat.le_of_ble_eq_true rfl) E_md (gs_up e1) dX6_takes_23 (fun H locs hw hS => ?_)
    have e1 := (t_ret h).1
    have e2 := (t_ret h).2
    exact e_v hx hb hr hlk hw hS (by rw [e2]) dX6_takes_26
  unfold f_X6_takes at h
  have main : JL p l e ({ frames := 1, cells := 0, slots := 0, locals := 21 } : Room) s md args below meth c D cy ad (MQ below (QV D cy ad (gs M0 9 x)) args s 0 0 (AD ad)) (gs M0 9 m) 2 [(0, .ref (ad 9 0)), (1, .int p0)] 0 [] := by
    intro H locs hw hS ls hl
    refine lv_aload_n hx hb dX6_takes_0 rfl (lv_at hl 0 rfl) ?_
    refine lv_aload_n hx hb dX6_takes_1 rfl (lv_at hl 0 rfl) ?_
    refine r_get hx hb hts hown hK hw (v_md (by decide)) gs_atc E_md inX6 rfl 16 (by decide) k_560 rfl rfl dX6_takes_2 ?_
    obtain ⟨r2, y1, h⟩ := t_b1 h
    refine c_vi hx hb hml hown hts hK hw hS (fun _ h => h) (As := [.int (m 0 16)]) (rest := []) (c_X6_letter hcv (M0 := gs M0 9 m) (m := m) (hm := gs_at) y1) cf_X6_letter k_639 rfl rfl ⟨Nat.le_of_ble_eq_true rfl, Nat.le_of_ble_eq_true rfl⟩ (r_recv hK hw (v_md (by decide)) E_md rfl) rfl hl.1 rfl (Nat.le_of_ble_eq_true rfl) ⟨Nat.le_refl _, Nat.le_refl _⟩ dX6_takes_5 (fun H locs hw hS => ?_)
    refine lv_iload_n hx hb dX6_takes_8 rfl (lv_at hl 1 rfl) ?_
    refine lv_icmp_eq (tgt := 16) hx hb dX6_takes_9 (by decide) (fun q3 => ?_) (fun q3 => ?_)
    · replace h := t_pos h q3
      exact L16 m h H locs hw hS ls (lv_sub hl [0] rfl)
    · replace h := t_neg h q3
      refine lv_aload_n hx hb dX6_takes_12 rfl (lv_at hl 0 rfl) ?_
      obtain ⟨r5, m6, y4, h⟩ := t_bd h
      refine c_vv hx hb hml hown hts hK hw hS (fun _ h => h) (As := []) (rest := []) (c_X6_fail hcv (M0 := gs M0 9 m) (m := m) (hm := gs_at) y4) cf_X6_fail k_643 rfl rfl ⟨Nat.le_of_ble_eq_true rfl, Nat.le_of_ble_eq_true rfl⟩ (r_recv hK hw (v_md (by decide)) E_md rfl) rfl hl.1 rfl (Nat.le_of_ble_eq_true rfl) ⟨Nat.le_refl _, Nat.le_refl _⟩ dX6_takes_13 (fun H locs hw hS => ?_)
      rw [gs_gs] at hw
      exact L16 m6 h H locs hw hS ls (lv_sub hl [0] rfl)
  exact main _ _ hw hS ls hl

theorem cf_X6_isDigit : cfV RX6 yX6_isDigit cX6_isDigit 2 (some .boolean) 1 := ⟨⟨k_657, k_s8, k_7, k_658⟩, by decide +kernel⟩
def f_X6_isDigit (m : SM) (p0 : Int32) : Option (Int32) :=
  b1 (f_X6_letter m p0) fun r2 => (if r2 < (nI 48) then some (nI 0) else b1 (f_X6_letter m p0) fun r5 => (if (nI 57) < r5 then some (nI 0) else some (nI 1)))
set_option maxHeartbeats 4000000 in
set_option maxRecDepth 100000 in
theorem c_X6_isDigit {l : Launch} {D : va_G} {cy : Nat → ClassId} {ad : Nat → Nat → Nat} (hcv : CV ad) {M0 : MM} {m : SM} (hm : M0 9 = m) {p0 : Int32} {r : Int32} (h : f_X6_isDigit m p0 = some r) : Met l yX6_isDigit (.code yX6_isDigit cX6_isDigit 2 (some .boolean) :: TB) ({ frames := 1, cells := 0, slots := 0, locals := 21 } : Room) (PW D cy ad M0 [.ref (ad 9 0), .int p0]) (QI D cy ad r M0) 0 0 (AD ad) := by
  refine m_in (by decide +kernel) (Nat.le_of_ble_eq_true rfl) ?_
  intro p e s md args below meth c hC hw hS ls hl
  obtain ⟨hx, hb, hr, hml, hown, hts, hK, hlk⟩ := hC
  have hl : lv_has ls 2 [(0, .ref (ad 9 0)), (1, .int p0)] := hl
  rw [← gs_same hm] at hw
  unfold f_X6_isDigit at h
  have main : JL p l e ({ frames := 1, cells := 0, slots := 0, locals := 21 } : Room) s md args below meth c D cy ad (MQ below (QI D cy ad r M0) args s 0 0 (AD ad)) (gs M0 9 m) 2 [(0, .ref (ad 9 0)), (1, .int p0)] 0 [] := by
    intro H locs hw hS ls hl
    refine lv_aload_n hx hb dX6_isDigit_0 rfl (lv_at hl 0 rfl) ?_
    refine lv_iload_n hx hb dX6_isDigit_1 rfl (lv_at hl 1 rfl) ?_
    obtain ⟨r2, y1, h⟩ := t_b1 h
    refine c_vi hx hb hml hown hts hK hw hS (fun _ h => h) (As := [.int p0]) (rest := []) (c_X6_letter hcv (M0 := gs M0 9 m) (m := m) (hm := gs_at) y1) cf_X6_letter k_639 rfl rfl ⟨Nat.le_of_ble_eq_true rfl, Nat.le_of_ble_eq_true rfl⟩ (r_recv hK hw (v_md (by decide)) E_md rfl) rfl hl.1 rfl (Nat.le_of_ble_eq_true rfl) ⟨Nat.le_refl _, Nat.le_refl _⟩ dX6_isDigit_2 (fun H locs hw hS => ?_)
    refine lv_bipush (v := nI 48) hx hb dX6_isDigit_5 (by decide) ?_
    refine lv_icmp_lt (tgt := 24) hx hb dX6_isDigit_7 (by decide) (fun q3 => ?_) (fun q3 => ?_)
    · replace h := t_pos h q3
      refine lv_iconst (v := nI 0) hx hb dX6_isDigit_24 (by decide) ?_
      have e1 := Option.some.inj h
      exact e_z hx hb hr hlk (Or.inl rfl) hw hS e1 (gs_same hm) dX6_isDigit_25
    · replace h := t_neg h q3
      refine lv_aload_n hx hb dX6_isDigit_10 rfl (lv_at hl 0 rfl) ?_
      refine lv_iload_n hx hb dX6_isDigit_11 rfl (lv_at hl 1 rfl) ?_
      obtain ⟨r5, y4, h⟩ := t_b1 h
      refine c_vi hx hb hml hown hts hK hw hS (fun _ h => h) (As := [.int p0]) (rest := []) (c_X6_letter hcv (M0 := gs M0 9 m) (m := m) (hm := gs_at) y4) cf_X6_letter k_639 rfl rfl ⟨Nat.le_of_ble_eq_true rfl, Nat.le_of_ble_eq_true rfl⟩ (r_recv hK hw (v_md (by decide)) E_md rfl) rfl hl.1 rfl (Nat.le_of_ble_eq_true rfl) ⟨Nat.le_refl _, Nat.le_refl _⟩ dX6_isDigit_12 (fun H locs hw hS => ?_)
      refine lv_bipush (v := nI 57) hx hb dX6_isDigit_15 (by decide) ?_
      refine lv_icmp_gt (tgt := 24) hx hb dX6_isDigit_17 (by decide) (fun q6 => ?_) (fun q6 => ?_)
      · replace h := t_pos h q6
        refine lv_iconst (v := nI 0) hx hb dX6_isDigit_24 (by decide) ?_
        have e1 := Option.some.inj h
        exact e_z hx hb hr hlk (Or.inl rfl) hw hS e1 (gs_same hm) dX6_isDigit_25
      · replace h := t_neg h q6
        refine lv_iconst (v := nI 1) hx hb dX6_isDigit_20 (by decide) ?_
        refine lv_goto (tgt := 25) hx hb dX6_isDigit_21 (by decide) ?_
        have e1 := Option.some.inj h
        exact e_z hx hb hr hlk (Or.inr rfl) hw hS e1 (gs_same hm) dX6_isDigit_25
  exact main _ _ hw hS ls hl

theorem cf_X6_takesNumber : cfV RX6 yX6_takesNumber cX6_takesNumber 3 (some .int) 0 := ⟨⟨k_653, k_s7, k_7, k_654⟩, by decide +kernel⟩
def f_X6_takesNumber_L72 (k33 : SM → Int32 → Int32 → Option (Int32 × SM)) (m : SM) (x1 : Int32) (x2 : Int32) : Option (Int32 × SM) :=
  b1 (f_X6_letter m (m 0 16)) fun r2 => lt1 (up m 0 16 ((m 0 16) + (nI 1))) fun m4 => k33 m4 x1 ((((nI 10) * x2) + r2) - (nI 48))
def f_X6_takesNumber_L33 : Nat → SM → Int32 → Int32 → Option (Int32 × SM)
  | 0, _, _, _ => none
  | n + 1, m, x1, x2 => b1 (f_X6_isDigit m (m 0 16)) fun r2 => (if r2 = (nI 0) then some (x2, m) else (if (nI 3) ≤ ((m 0 16) - x1) then some (x2, m) else (if (m 0 16) = x1 then f_X6_takesNumber_L72 (f_X6_takesNumber_L33 n) m x1 x2 else b1 (f_X6_letter m x1) fun r7 => (if r7 = (nI 48) then some (x2, m) else f_X6_takesNumber_L72 (f_X6_takesNumber_L33 n) m x1 x2))))
def f_X6_takesNumber (m : SM) : Option (Int32 × SM) :=
  (if (m 0 17) = (-5 : Int32) then b1 (f_X6_isDigit m (m 0 16)) fun r6 => (if r6 = (nI 0) then bd (f_X6_fail m) fun r9 m10 => some ((nI 0), m10) else f_X6_takesNumber_L33 FU m (m 0 16) (nI 0)) else bd (f_X6_fail m) fun r3 m4 => some ((nI 0), m4))
set_option maxHeartbeats 4000000 in
set_option maxRecDepth 100000 in
theorem c_X6_takesNumber {l : Launch} {D : va_G} {cy : Nat → ClassId} {ad : Nat → Nat → Nat} (hcv : CV ad) {M0 : MM} {m : SM} (hm : M0 9 = m) {r : Int32} {x : SM} (h : f_X6_takesNumber m = some (r, x)) : Met l yX6_takesNumber (.code yX6_takesNumber cX6_takesNumber 3 (some .int) :: TB) ({ frames := 2, cells := 0, slots := 0, locals := 42 } : Room) (PW D cy ad M0 [.ref (ad 9 0)]) (QI D cy ad r (gs M0 9 x)) 0 0 (AD ad) := by
  refine m_in (by decide +kernel) (Nat.le_of_ble_eq_true rfl) ?_
  intro p e s md args below meth c hC hw hS ls hl
  obtain ⟨hx, hb, hr, hml, hown, hts, hK, hlk⟩ := hC
  have hl : lv_has ls 3 [(0, .ref (ad 9 0))] := hl
  rw [← gs_same hm] at hw
  have L72 : ∀ (k33 : SM → Int32 → Int32 → Option (Int32 × SM)) (hk33 : ∀ (m : SM) (x1 : Int32) (x2 : Int32), k33 m x1 x2 = some (r, x) → JL p l e ({ frames := 2, cells := 0, slots := 0, locals := 42 } : Room) s md args below meth c D cy ad (MQ below (QI D cy ad r (gs M0 9 x)) args s 0 0 (AD ad)) (gs M0 9 m) 3 [(0, .ref (ad 9 0)), (1, .int x1), (2, .int x2)] 33 []), ∀ (m : SM) (x1 : Int32) (x2 : Int32), f_X6_takesNumber_L72 k33 m x1 x2 = some (r, x) → JL p l e ({ frames := 2, cells := 0, slots := 0, locals := 42 } : Room) s md args below meth c D cy ad (MQ below (QI D cy ad r (gs M0 9 x)) args s 0 0 (AD ad)) (gs M0 9 m) 3 [(0, .ref (ad 9 0)), (1, .int x1), (2, .int x2)] 72 [] := by
    intro k33 hk33 m x1 x2 h H locs hw hS ls hl
    unfold f_X6_takesNumber_L72 at h
    refine lv_bipush (v := nI 10) hx hb dX6_takesNumber_72 (by decide) ?_
    refine lv_iload_n hx hb dX6_takesNumber_74 rfl (lv_at hl 2 rfl) ?_
    refine lv_imul hx hb dX6_takesNumber_75 ?_
    refine lv_aload_n hx hb dX6_takesNumber_76 rfl (lv_at hl 0 rfl) ?_
    refine lv_aload_n hx hb dX6_takesNumber_77 rfl (lv_at hl 0 rfl) ?_
    refine r_get hx hb hts hown hK hw (v_md (by decide)) gs_atc E_md inX6 rfl 16 (by decide) k_560 rfl rfl dX6_takesNumber_78 ?_
    obtain ⟨r2, y1, h⟩ := t_b1 h
    refine c_vi hx hb hml hown hts hK hw hS (fun _ h => h) (As := [.int (m 0 16)]) (rest := [.int ((nI 10) * x2)]) (c_X6_letter hcv (M0 := gs M0 9 m) (m := m) (hm := gs_at) y1) cf_X6_letter k_639 rfl rfl ⟨Nat.le_of_ble_eq_true rfl, Nat.le_of_ble_eq_true rfl⟩ (r_recv hK hw (v_md (by decide)) E_md rfl) rfl hl.1 rfl (Nat.le_of_ble_eq_true rfl) ⟨Nat.le_refl _, Nat.le_refl _⟩ dX6_takesNumber_81 (fun H locs hw hS => ?_)
    refine lv_iadd hx hb dX6_takesNumber_84 ?_
    refine lv_bipush (v := nI 48) hx hb dX6_takesNumber_85 (by decide) ?_
    refine lv_isub hx hb dX6_takesNumber_87 ?_
    refine lv_istore_n (lv' := [(2, .int ((((nI 10) * x2) + r2) - (nI 48))), (0, .ref (ad 9 0)), (1, .int x1)]) hx hb dX6_takesNumber_88 rfl hl (by decide) rfl (fun ls hl => ?_)
    refine lv_aload_n hx hb dX6_takesNumber_89 rfl (lv_at hl 1 rfl) ?_
    refine lv_dup hx hb dX6_takesNumber_90 rfl ?_
    refine r_get hx hb hts hown hK hw (v_md (by decide)) gs_atc E_md inX6 rfl 16 (by decide) k_560 rfl rfl dX6_takesNumber_91 ?_
    refine lv_iconst (v := nI 1) hx hb dX6_takesNumber_94 (by decide) ?_
    refine lv_iadd hx hb dX6_takesNumber_95 ?_
    obtain ⟨m4, e3, h⟩ := t_lt h
    refine r_put hx hb hts hown hK hcv hw hS (v_md (by decide)) gs_atc E_md inX6 rfl tyX6 tyX6_ok nmX6 16 (by decide) k_560 rfl rfl rfl rfl (Nat.le_of_ble_eq_true rfl) E_md (gs_up e3) dX6_takesNumber_96 (fun H locs hw hS => ?_)
    refine lv_goto (tgt := 33) hx hb dX6_takesNumber_99 (by decide) ?_
    exact hk33 m4 x1 ((((nI 10) * x2) + r2) - (nI 48)) h H locs hw hS ls (lv_sub hl [1, 2, 0] rfl)
  have L33 : ∀ (n : Nat), ∀ (m : SM) (x1 : Int32) (x2 : Int32), f_X6_takesNumber_L33 n m x1 x2 = some (r, x) → JL p l e ({ frames := 2, cells := 0, slots := 0, locals := 42 } : Room) s md args below meth c D cy ad (MQ below (QI D cy ad r (gs M0 9 x)) args s 0 0 (AD ad)) (gs M0 9 m) 3 [(0, .ref (ad 9 0)), (1, .int x1), (2, .int x2)] 33 [] := by
    intro n
    induction n with
    | zero =>
      intro m x1 x2 h
      cases h
    | succ n ih =>
      intro m x1 x2 h H locs hw hS ls hl
      rw [f_X6_takesNumber_L33.eq_2] at h
      refine lv_aload_n hx hb dX6_takesNumber_33 rfl (lv_at hl 0 rfl) ?_
      refine lv_aload_n hx hb dX6_takesNumber_34 rfl (lv_at hl 0 rfl) ?_
      refine r_get hx hb hts hown hK hw (v_md (by decide)) gs_atc E_md inX6 rfl 16 (by decide) k_560 rfl rfl dX6_takesNumber_35 ?_
      obtain ⟨r2, y1, h⟩ := t_b1 h
      refine c_vi hx hb hml hown hts hK hw hS (fun _ h => h) (As := [.int (m 0 16)]) (rest := []) (c_X6_isDigit hcv (M0 := gs M0 9 m) (m := m) (hm := gs_at) y1) cf_X6_isDigit k_655 rfl rfl ⟨Nat.le_of_ble_eq_true rfl, Nat.le_of_ble_eq_true rfl⟩ (r_recv hK hw (v_md (by decide)) E_md rfl) rfl hl.1 rfl (Nat.le_of_ble_eq_true rfl) ⟨Nat.le_refl _, Nat.le_refl _⟩ dX6_takesNumber_38 (fun H locs hw hS => ?_)
      refine lv_if_eq (tgt := 102) hx hb dX6_takesNumber_41 (by decide) (fun q3 => ?_) (fun q3 => ?_)
      · replace h := t_pos h q3
        refine lv_iload_n hx hb dX6_takesNumber_102 rfl (lv_at hl 2 rfl) ?_
        have e1 := (t_ret h).1
        have e2 := (t_ret h).2
        exact e_i hx hb hr hlk hw hS e1 (by rw [e2]) dX6_takesNumber_103
      · replace h := t_neg h q3
        refine lv_aload_n hx hb dX6_takesNumber_44 rfl (lv_at hl 0 rfl) ?_
        refine r_get hx hb hts hown hK hw (v_md (by decide)) gs_atc E_md inX6 rfl 16 (by decide) k_560 rfl rfl dX6_takesNumber_45 ?_
        refine lv_iload_n hx hb dX6_takesNumber_48 rfl (lv_at hl 1 rfl) ?_
        refine lv_isub hx hb dX6_takesNumber_49 ?_
        refine lv_iconst (v := nI 3) hx hb dX6_takesNumber_50 (by decide) ?_
        refine lv_icmp_ge (tgt := 102) hx hb dX6_takesNumber_51 (by decide) (fun q4 => ?_) (fun q4 => ?_)
        · replace h := t_pos h q4
          refine lv_iload_n hx hb dX6_takesNumber_102 rfl (lv_at hl 2 rfl) ?_
          have e1 := (t_ret h).1
          have e2 := (t_ret h).2
          exact e_i hx hb hr hlk hw hS e1 (by rw [e2]) dX6_takesNumber_103
        · replace h := t_neg h q4
          refine lv_aload_n hx hb dX6_takesNumber_54 rfl (lv_at hl 0 rfl) ?_
          refine r_get hx hb hts hown hK hw (v_md (by decide)) gs_atc E_md inX6 rfl 16 (by decide) k_560 rfl rfl dX6_takesNumber_55 ?_
          refine lv_iload_n hx hb dX6_takesNumber_58 rfl (lv_at hl 1 rfl) ?_
          refine lv_icmp_eq (tgt := 72) hx hb dX6_takesNumber_59 (by decide) (fun q5 => ?_) (fun q5 => ?_)
          · replace h := t_pos h q5
            exact L72 (f_X6_takesNumber_L33 n) ih m x1 x2 h H locs hw hS ls (lv_sub hl [0, 1, 2] rfl)
          · replace h := t_neg h q5
            refine lv_aload_n hx hb dX6_takesNumber_62 rfl (lv_at hl 0 rfl) ?_
            refine lv_iload_n hx hb dX6_takesNumber_63 rfl (lv_at hl 1 rfl) ?_
            obtain ⟨r7, y6, h⟩ := t_b1 h
            refine c_vi hx hb hml hown hts hK hw hS (fun _ h => h) (As := [.int x1]) (rest := []) (c_X6_letter hcv (M0 := gs M0 9 m) (m := m) (hm := gs_at) y6) cf_X6_letter k_639 rfl rfl ⟨Nat.le_of_ble_eq_true rfl, Nat.le_of_ble_eq_true rfl⟩ (r_recv hK hw (v_md (by decide)) E_md rfl) rfl hl.1 rfl (Nat.le_of_ble_eq_true rfl) ⟨Nat.le_refl _, Nat.le_refl _⟩ dX6_takesNumber_64 (fun H locs hw hS => ?_)
            refine lv_bipush (v := nI 48) hx hb dX6_takesNumber_67 (by decide) ?_
            refine lv_icmp_eq (tgt := 102) hx hb dX6_takesNumber_69 (by decide) (fun q8 => ?_) (fun q8 => ?_)
            · replace h := t_pos h q8
              refine lv_iload_n hx hb dX6_takesNumber_102 rfl (lv_at hl 2 rfl) ?_
              have e1 := (t_ret h).1
              have e2 := (t_ret h).2
              exact e_i hx hb hr hlk hw hS e1 (by rw [e2]) dX6_takesNumber_103
            · replace h := t_neg h q8
              exact L72 (f_X6_takesNumber_L33 n) ih m x1 x2 h H locs hw hS ls (lv_sub hl [0, 1, 2] rfl)
  unfold f_X6_takesNumber at h
  have main : JL p l e ({ frames := 2, cells := 0, slots := 0, locals := 42 } : Room) s md args below meth c D cy ad (MQ below (QI D cy ad r (gs M0 9 x)) args s 0 0 (AD ad)) (gs M0 9 m) 3 [(0, .ref (ad 9 0))] 0 [] := by
    intro H locs hw hS ls hl
    refine lv_aload_n hx hb dX6_takesNumber_0 rfl (lv_at hl 0 rfl) ?_
    refine r_get hx hb hts hown hK hw (v_md (by decide)) gs_atc E_md inX6 rfl 17 (by decide) k_561 rfl rfl dX6_takesNumber_1 ?_
    refine lv_bipush (v := -5) hx hb dX6_takesNumber_4 (by decide) ?_
    refine lv_icmp_ne (tgt := 20) hx hb dX6_takesNumber_6 (by decide) (fun q1 => ?_) (fun q1 => ?_)
    · replace h := t_neg h q1
      refine lv_aload_n hx hb dX6_takesNumber_20 rfl (lv_at hl 0 rfl) ?_
      obtain ⟨r3, m4, y2, h⟩ := t_bd h
      refine c_vv hx hb hml hown hts hK hw hS (fun _ h => h) (As := []) (rest := []) (c_X6_fail hcv (M0 := gs M0 9 m) (m := m) (hm := gs_at) y2) cf_X6_fail k_643 rfl rfl ⟨Nat.le_of_ble_eq_true rfl, Nat.le_of_ble_eq_true rfl⟩ (r_recv hK hw (v_md (by decide)) E_md rfl) rfl hl.1 rfl (Nat.le_of_ble_eq_true rfl) ⟨Nat.le_refl _, Nat.le_refl _⟩ dX6_takesNumber_21 (fun H locs hw hS => ?_)
      rw [gs_gs] at hw
      refine lv_iconst (v := nI 0) hx hb dX6_takesNumber_24 (by decide) ?_
      have e1 := (t_ret h).1
      have e2 := (t_ret h).2
      exact e_i hx hb hr hlk hw hS e1 (by rw [e2]) dX6_takesNumber_25
    · replace h := t_pos h q1
      refine lv_aload_n hx hb dX6_takesNumber_9 rfl (lv_at hl 0 rfl) ?_
      refine lv_aload_n hx hb dX6_takesNumber_10 rfl (lv_at hl 0 rfl) ?_
      refine r_get hx hb hts hown hK hw (v_md (by decide)) gs_atc E_md inX6 rfl 16 (by decide) k_560 rfl rfl dX6_takesNumber_11 ?_
      obtain ⟨r6, y5, h⟩ := t_b1 h
      refine c_vi hx hb hml hown hts hK hw hS (fun _ h => h) (As := [.int (m 0 16)]) (rest := []) (c_X6_isDigit hcv (M0 := gs M0 9 m) (m := m) (hm := gs_at) y5) cf_X6_isDigit k_655 rfl rfl ⟨Nat.le_of_ble_eq_true rfl, Nat.le_of_ble_eq_true rfl⟩ (r_recv hK hw (v_md (by decide)) E_md rfl) rfl hl.1 rfl (Nat.le_of_ble_eq_true rfl) ⟨Nat.le_refl _, Nat.le_refl _⟩ dX6_takesNumber_14 (fun H locs hw hS => ?_)
      refine lv_if_ne (tgt := 26) hx hb dX6_takesNumber_17 (by decide) (fun q7 => ?_) (fun q7 => ?_)
      · replace h := t_neg h q7
        refine lv_aload_n hx hb dX6_takesNumber_26 rfl (lv_at hl 0 rfl) ?_
        refine r_get hx hb hts hown hK hw (v_md (by decide)) gs_atc E_md inX6 rfl 16 (by decide) k_560 rfl rfl dX6_takesNumber_27 ?_
        refine lv_istore_n (lv' := [(1, .int (m 0 16)), (0, .ref (ad 9 0))]) hx hb dX6_takesNumber_30 rfl hl (by decide) rfl (fun ls hl => ?_)
        refine lv_iconst (v := nI 0) hx hb dX6_takesNumber_31 (by decide) ?_
        refine lv_istore_n (lv' := [(2, .int (nI 0)), (1, .int (m 0 16)), (0, .ref (ad 9 0))]) hx hb dX6_takesNumber_32 rfl hl (by decide) rfl (fun ls hl => ?_)
        exact L33 FU m (m 0 16) (nI 0) h H locs hw hS ls (lv_sub hl [2, 1, 0] rfl)
      · replace h := t_pos h q7
        refine lv_aload_n hx hb dX6_takesNumber_20 rfl (lv_at hl 0 rfl) ?_
        obtain ⟨r9, m10, y8, h⟩ := t_bd h
        refine c_vv hx hb hml hown hts hK hw hS (fun _ h => h) (As := []) (rest := []) (c_X6_fail hcv (M0 := gs M0 9 m) (m := m) (hm := gs_at) y8) cf_X6_fail k_643 rfl rfl ⟨Nat.le_of_ble_eq_true rfl, Nat.le_of_ble_eq_true rfl⟩ (r_recv hK hw (v_md (by decide)) E_md rfl) rfl hl.1 rfl (Nat.le_of_ble_eq_true rfl) ⟨Nat.le_refl _, Nat.le_refl _⟩ dX6_takesNumber_21 (fun H locs hw hS => ?_)
        rw [gs_gs] at hw
        refine lv_iconst (v := nI 0) hx hb dX6_takesNumber_24 (by decide) ?_
        have e1 := (t_ret h).1
        have e2 := (t_ret h).2
        exact e_i hx hb hr hlk hw hS e1 (by rw [e2]) dX6_takesNumber_25
  exact main _ _ hw hS ls hl

theorem cf_X6_readText : cfV RX6 yX6_readText cX6_readText 2 (some .int) 0 := ⟨⟨k_637, k_s3, k_7, k_638⟩, by decide +kernel⟩
def f_X6_readText_L176 (k104 : SM → Int32 → Option (Int32 × SM)) (m : SM) : Option (Int32 × SM) :=
  bd (f_X6_takes m (nI 44)) fun r2 m3 => (if (m3 0 17) = (-5 : Int32) then k104 m3 (nI 1) else k104 m3 (nI 0))
def f_X6_readText_L158 (k104 : SM → Int32 → Option (Int32 × SM)) (m : SM) (s0 : Int32) : Option (Int32 × SM) :=
  (if s0 = (nI 0) then k104 m s0 else (if (m 0 15) = (nI 16) then bd (f_X6_fail m) fun r4 m5 => f_X6_readText_L176 k104 m5 else f_X6_readText_L176 k104 m))
def f_X6_readText_L157 (k104 : SM → Int32 → Option (Int32 × SM)) (m : SM) : Option (Int32 × SM) :=
  f_X6_readText_L158 k104 m (nI 0)
def f_X6_readText_L104 : Nat → SM → Int32 → Option (Int32 × SM)
  | 0, _, _ => none
  | n + 1, m, x1 => (if x1 = (nI 0) then some ((m 0 17), m) else bd (f_X6_takesNumber m) fun r3 m4 => gd ((nI 3) + (m 0 15)) 19 (lt1 (up m4 8 ((nI 3) + (m 0 15)).toNatClampNeg r3) fun m7 => lt1 (up m7 0 15 ((m7 0 15) + (nI 1))) fun m9 => (if (m9 0 17) = (-5 : Int32) then (if (m9 0 7) ≤ (m9 0 16) then f_X6_readText_L157 (f_X6_readText_L104 n) m9 else f_X6_readText_L158 (f_X6_readText_L104 n) m9 (nI 1)) else f_X6_readText_L157 (f_X6_readText_L104 n) m9)))
def f_X6_readText_L54 (m : SM) : Option (Int32 × SM) :=
  lt1 (up m 0 16 ((m 0 16) + (nI 1))) fun m2 => bd (f_X6_takes m2 (nI 58)) fun r4 m5 => bd (f_X6_takesNumber m5) fun r7 m8 => gd (nI 1) 19 (lt1 (up m8 8 (nI 1).toNatClampNeg r7) fun m11 => bd (f_X6_takes m11 (nI 45)) fun r13 m14 => bd (f_X6_takesNumber m14) fun r16 m17 => gd (nI 2) 19 (lt1 (up m17 8 (nI 2).toNatClampNeg r16) fun m20 => bd (f_X6_takes m20 (nI 61)) fun r22 m23 => f_X6_readText_L104 FU m23 (nI 1)))
def f_X6_readText_L50 (m : SM) : Option (Int32 × SM) :=
  bd (f_X6_fail m) fun r2 m3 => f_X6_readText_L54 m3
def f_X6_readText (m : SM) : Option (Int32 × SM) :=
  lt1 (up m 0 17 (-5 : Int32)) fun m2 => lt1 (up m2 0 16 (nI 0)) fun m4 => lt1 (up m4 0 15 (nI 0)) fun m6 => b1 (f_X6_letter m6 (nI 0)) fun r8 => gd (nI 0) 19 (lt1 (up m6 8 (nI 0).toNatClampNeg (r8 - (nI 48))) fun m11 => b1 (f_X6_letter m11 (nI 0)) fun r13 => (if r13 < (nI 48) then f_X6_readText_L50 m11 else b1 (f_X6_letter m11 (nI 0)) fun r16 => (if r16 ≤ (nI 51) then f_X6_readText_L54 m11 else f_X6_readText_L50 m11)))
set_option maxHeartbeats 4000000 in
set_option maxRecDepth 100000 in
theorem c_X6_readText {l : Launch} {D : va_G} {cy : Nat → ClassId} {ad : Nat → Nat → Nat} (hcv : CV ad) {M0 : MM} {m : SM} (hm : M0 9 = m) {r : Int32} {x : SM} (h : f_X6_readText m = some (r, x)) : Met l yX6_readText (.code yX6_readText cX6_readText 2 (some .int) :: TB) ({ frames := 3, cells := 0, slots := 0, locals := 64 } : Room) (PW D cy ad M0 [.ref (ad 9 0)]) (QI D cy ad r (gs M0 9 x)) 0 0 (AD ad) := by
  refine m_in (by decide +kernel) (Nat.le_of_ble_eq_true rfl) ?_
  intro p e s md args below meth c hC hw hS ls hl
  obtain ⟨hx, hb, hr, hml, hown, hts, hK, hlk⟩ := hC
  have hl : lv_has ls 2 [(0, .ref (ad 9 0))] := hl
  rw [← gs_same hm] at hw
  have L176 : ∀ (k104 : SM → Int32 → Option (Int32 × SM)) (hk104 : ∀ (m : SM) (x1 : Int32), k104 m x1 = some (r, x) → JL p l e ({ frames := 3, cells := 0, slots := 0, locals := 64 } : Room) s md args below meth c D cy ad (MQ below (QI D cy ad r (gs M0 9 x)) args s 0 0 (AD ad)) (gs M0 9 m) 2 [(0, .ref (ad 9 0)), (1, .int x1)] 104 []), ∀ (m : SM), f_X6_readText_L176 k104 m = some (r, x) → JL p l e ({ frames := 3, cells := 0, slots := 0, locals := 64 } : Room) s md args below meth c D cy ad (MQ below (QI D cy ad r (gs M0 9 x)) args s 0 0 (AD ad)) (gs M0 9 m) 2 [(0, .ref (ad 9 0))] 176 [] := by
    intro k104 hk104 m h H locs hw hS ls hl
    unfold f_X6_readText_L176 at h
    refine lv_aload_n hx hb dX6_readText_176 rfl (lv_at hl 0 rfl) ?_
    refine lv_bipush (v := nI 44) hx hb dX6_readText_177 (by decide) ?_
    obtain ⟨r2, m3, y1, h⟩ := t_bd h
    refine c_vv hx hb hml hown hts hK hw hS (fun _ h => h) (As := [.int (nI 44)]) (rest := []) (c_X6_takes hcv (M0 := gs M0 9 m) (m := m) (hm := gs_at) y1) cf_X6_takes k_647 rfl rfl ⟨Nat.le_of_ble_eq_true rfl, Nat.le_of_ble_eq_true rfl⟩ (r_recv hK hw (v_md (by decide)) E_md rfl) rfl hl.1 rfl (Nat.le_of_ble_eq_true rfl) ⟨Nat.le_refl _, Nat.le_refl _⟩ dX6_readText_179 (fun H locs hw hS => ?_)
    rw [gs_gs] at hw
    refine lv_aload_n hx hb dX6_readText_182 rfl (lv_at hl 0 rfl) ?_
    refine r_get hx hb hts hown hK hw (v_md (by decide)) gs_atc E_md inX6 rfl 17 (by decide) k_561 rfl rfl dX6_readText_183 ?_
    refine lv_bipush (v := -5) hx hb dX6_readText_186 (by decide) ?_
    refine lv_icmp_ne (tgt := 195) hx hb dX6_readText_188 (by decide) (fun q4 => ?_) (fun q4 => ?_)
    · replace h := t_neg h q4
      refine lv_iconst (v := nI 0) hx hb dX6_readText_195 (by decide) ?_
      refine lv_istore_n (lv' := [(1, .int (nI 0)), (0, .ref (ad 9 0))]) hx hb dX6_readText_196 rfl hl (by decide) rfl (fun ls hl => ?_)
      refine lv_goto (tgt := 104) hx hb dX6_readText_197 (by decide) ?_
      exact hk104 m3 (nI 0) h H locs hw hS ls (lv_sub hl [1, 0] rfl)
    · replace h := t_pos h q4
      refine lv_iconst (v := nI 1) hx hb dX6_readText_191 (by decide) ?_
      refine lv_goto (tgt := 196) hx hb dX6_readText_192 (by decide) ?_
      refine lv_istore_n (lv' := [(1, .int (nI 1)), (0, .ref (ad 9 0))]) hx hb dX6_readText_196 rfl hl (by decide) rfl (fun ls hl => ?_)
      refine lv_goto (tgt := 104) hx hb dX6_readText_197 (by decide) ?_
      exact hk104 m3 (nI 1) h H locs hw hS ls (lv_sub hl [1, 0] rfl)
  have L158 : ∀ (k104 : SM → Int32 → Option (Int32 × SM)) (hk104 : ∀ (m : SM) (x1 : Int32), k104 m x1 = some (r, x) → JL p l e ({ frames := 3, cells := 0, slots := 0, locals := 64 } : Room) s md args below meth c D cy ad (MQ below (QI D cy ad r (gs M0 9 x)) args s 0 0 (AD ad)) (gs M0 9 m) 2 [(0, .ref (ad 9 0)), (1, .int x1)] 104 []), ∀ (m : SM) (s0 : Int32), f_X6_readText_L158 k104 m s0 = some (r, x) → JL p l e ({ frames := 3, cells := 0, slots := 0, locals := 64 } : Room) s md args below meth c D cy ad (MQ below (QI D cy ad r (gs M0 9 x)) args s 0 0 (AD ad)) (gs M0 9 m) 2 [(0, .ref (ad 9 0))] 158 [.int s0] := by
    intro k104 hk104 m s0 h H locs hw hS ls hl
    unfold f_X6_readText_L158 at h
    refine lv_istore_n (lv' := [(1, .int s0), (0, .ref (ad 9 0))]) hx hb dX6_readText_158 rfl hl (by decide) rfl (fun ls hl => ?_)
    refine lv_iload_n hx hb dX6_readText_159 rfl (lv_at hl 0 rfl) ?_
    refine lv_if_eq (tgt := 104) hx hb dX6_readText_160 (by decide) (fun q1 => ?_) (fun q1 => ?_)
    · replace h := t_pos h q1
      exact hk104 m s0 h H locs hw hS ls (lv_sub hl [1, 0] rfl)
    · replace h := t_neg h q1
      refine lv_aload_n hx hb dX6_readText_163 rfl (lv_at hl 1 rfl) ?_
      refine r_get hx hb hts hown hK hw (v_md (by decide)) gs_atc E_md inX6 rfl 15 (by decide) k_559 rfl rfl dX6_readText_164 ?_
      refine lv_bipush (v := nI 16) hx hb dX6_readText_167 (by decide) ?_
      refine lv_icmp_ne (tgt := 176) hx hb dX6_readText_169 (by decide) (fun q2 => ?_) (fun q2 => ?_)
      · replace h := t_neg h q2
        exact L176 k104 hk104 m h H locs hw hS ls (lv_sub hl [1] rfl)
      · replace h := t_pos h q2
        refine lv_aload_n hx hb dX6_readText_172 rfl (lv_at hl 1 rfl) ?_
        obtain ⟨r4, m5, y3, h⟩ := t_bd h
        refine c_vv hx hb hml hown hts hK hw hS (fun _ h => h) (As := []) (rest := []) (c_X6_fail hcv (M0 := gs M0 9 m) (m := m) (hm := gs_at) y3) cf_X6_fail k_643 rfl rfl ⟨Nat.le_of_ble_eq_true rfl, Nat.le_of_ble_eq_true rfl⟩ (r_recv hK hw (v_md (by decide)) E_md rfl) rfl hl.1 rfl (Nat.le_of_ble_eq_true rfl) ⟨Nat.le_refl _, Nat.le_refl _⟩ dX6_readText_173 (fun H locs hw hS => ?_)
        rw [gs_gs] at hw
        exact L176 k104 hk104 m5 h H locs hw hS ls (lv_sub hl [1] rfl)
  have L157 : ∀ (k104 : SM → Int32 → Option (Int32 × SM)) (hk104 : ∀ (m : SM) (x1 : Int32), k104 m x1 = some (r, x) → JL p l e ({ frames := 3, cells := 0, slots := 0, locals := 64 } : Room) s md args below meth c D cy ad (MQ below (QI D cy ad r (gs M0 9 x)) args s 0 0 (AD ad)) (gs M0 9 m) 2 [(0, .ref (ad 9 0)), (1, .int x1)] 104 []), ∀ (m : SM), f_X6_readText_L157 k104 m = some (r, x) → JL p l e ({ frames := 3, cells := 0, slots := 0, locals := 64 } : Room) s md args below meth c D cy ad (MQ below (QI D cy ad r (gs M0 9 x)) args s 0 0 (AD ad)) (gs M0 9 m) 2 [(0, .ref (ad 9 0))] 157 [] := by
    intro k104 hk104 m h H locs hw hS ls hl
    unfold f_X6_readText_L157 at h
    refine lv_iconst (v := nI 0) hx hb dX6_readText_157 (by decide) ?_
    exact L158 k104 hk104 m (nI 0) h H locs hw hS ls (lv_sub hl [0] rfl)
  have L104 : ∀ (n : Nat), ∀ (m : SM) (x1 : Int32), f_X6_readText_L104 n m x1 = some (r, x) → JL p l e ({ frames := 3, cells := 0, slots := 0, locals := 64 } : Room) s md args below meth c D cy ad (MQ below (QI D cy ad r (gs M0 9 x)) args s 0 0 (AD ad)) (gs M0 9 m) 2 [(0, .ref (ad 9 0)), (1, .int x1)] 104 [] := by
    intro n
    induction n with
    | zero =>
      intro m x1 h
      cases h
    | succ n ih =>
      intro m x1 h H locs hw hS ls hl
      rw [f_X6_readText_L104.eq_2] at h
      refine lv_iload_n hx hb dX6_readText_104 rfl (lv_at hl 1 rfl) ?_
      refine lv_if_eq (tgt := 200) hx hb dX6_readText_105 (by decide) (fun q1 => ?_) (fun q1 => ?_)
      · replace h := t_pos h q1
        refine lv_aload_n hx hb dX6_readText_200 rfl (lv_at hl 0 rfl) ?_
        refine r_get hx hb hts hown hK hw (v_md (by decide)) gs_atc E_md inX6 rfl 17 (by decide) k_561 rfl rfl dX6_readText_201 ?_
        have e1 := (t_ret h).1
        have e2 := (t_ret h).2
        exact e_i hx hb hr hlk hw hS e1 (by rw [e2]) dX6_readText_204
      · replace h := t_neg h q1
        refine lv_aload_n hx hb dX6_readText_108 rfl (lv_at hl 0 rfl) ?_
        refine r_get hx hb hts hown hK hw (v_md (by decide)) gs_atc E_md inX6 rfl 14 (by decide) k_558 rfl rfl dX6_readText_109 ?_
        refine lv_iconst (v := nI 3) hx hb dX6_readText_112 (by decide) ?_
        refine lv_aload_n hx hb dX6_readText_113 rfl (lv_at hl 0 rfl) ?_
        refine r_get hx hb hts hown hK hw (v_md (by decide)) gs_atc E_md inX6 rfl 15 (by decide) k_559 rfl rfl dX6_readText_114 ?_
        refine lv_iadd hx hb dX6_readText_117 ?_
        refine lv_aload_n hx hb dX6_readText_118 rfl (lv_at hl 0 rfl) ?_
        obtain ⟨r3, m4, y2, h⟩ := t_bd h
        refine c_vi hx hb hml hown hts hK hw hS (fun _ h => h) (As := []) (rest := [.int ((nI 3) + (m 0 15)), .ref (ad 9 8)]) (c_X6_takesNumber hcv (M0 := gs M0 9 m) (m := m) (hm := gs_at) y2) cf_X6_takesNumber k_651 rfl rfl ⟨Nat.le_of_ble_eq_true rfl, Nat.le_of_ble_eq_true rfl⟩ (r_recv hK hw (v_md (by decide)) E_md rfl) rfl hl.1 rfl (Nat.le_of_ble_eq_true rfl) ⟨Nat.le_refl _, Nat.le_refl _⟩ dX6_readText_119 (fun H locs hw hS => ?_)
        rw [gs_gs] at hw
        obtain ⟨q5, h⟩ := t_gd h
        obtain ⟨m7, e6, h⟩ := t_lt h
        refine r_iast hx hb hK hcv hw hS (v_md (by decide)) gs_atc (fun _ => E_m8) q5 (gs_up e6) dX6_readText_122 (fun H locs hw hS => ?_)
        refine lv_aload_n hx hb dX6_readText_123 rfl (lv_at hl 0 rfl) ?_
        refine lv_dup hx hb dX6_readText_124 rfl ?_
        refine r_get hx hb hts hown hK hw (v_md (by decide)) gs_atc E_md inX6 rfl 15 (by decide) k_559 rfl rfl dX6_readText_125 ?_
        refine lv_iconst (v := nI 1) hx hb dX6_readText_128 (by decide) ?_
        refine lv_iadd hx hb dX6_readText_129 ?_
        obtain ⟨m9, e8, h⟩ := t_lt h
        refine r_put hx hb hts hown hK hcv hw hS (v_md (by decide)) gs_atc E_md inX6 rfl tyX6 tyX6_ok nmX6 15 (by decide) k_559 rfl rfl rfl rfl (Nat.le_of_ble_eq_true rfl) E_md (gs_up e8) dX6_readText_130 (fun H locs hw hS => ?_)
        refine lv_aload_n hx hb dX6_readText_133 rfl (lv_at hl 0 rfl) ?_
        refine r_get hx hb hts hown hK hw (v_md (by decide)) gs_atc E_md inX6 rfl 17 (by decide) k_561 rfl rfl dX6_readText_134 ?_
        refine lv_bipush (v := -5) hx hb dX6_readText_137 (by decide) ?_
        refine lv_icmp_ne (tgt := 157) hx hb dX6_readText_139 (by decide) (fun q10 => ?_) (fun q10 => ?_)
        · replace h := t_neg h q10
          exact L157 (f_X6_readText_L104 n) ih m9 h H locs hw hS ls (lv_sub hl [0] rfl)
        · replace h := t_pos h q10
          refine lv_aload_n hx hb dX6_readText_142 rfl (lv_at hl 0 rfl) ?_
          refine r_get hx hb hts hown hK hw (v_md (by decide)) gs_atc E_md inX6 rfl 16 (by decide) k_560 rfl rfl dX6_readText_143 ?_
          refine lv_aload_n hx hb dX6_readText_146 rfl (lv_at hl 0 rfl) ?_
          refine r_get hx hb hts hown hK hw (v_md (by decide)) gs_atc E_md inX6 rfl 7 (by decide) k_551 rfl rfl dX6_readText_147 ?_
          refine lv_icmp_ge (tgt := 157) hx hb dX6_readText_150 (by decide) (fun q11 => ?_) (fun q11 => ?_)
          · replace h := t_pos h q11
            exact L157 (f_X6_readText_L104 n) ih m9 h H locs hw hS ls (lv_sub hl [0] rfl)
          · replace h := t_neg h q11
            refine lv_iconst (v := nI 1) hx hb dX6_readText_153 (by decide) ?_
            refine lv_goto (tgt := 158) hx hb dX6_readText_154 (by decide) ?_
            exact L158 (f_X6_readText_L104 n) ih m9 (nI 1) h H locs hw hS ls (lv_sub hl [0] rfl)
  have L54 : ∀ (m : SM), f_X6_readText_L54 m = some (r, x) → JL p l e ({ frames := 3, cells := 0, slots := 0, locals := 64 } : Room) s md args below meth c D cy ad (MQ below (QI D cy ad r (gs M0 9 x)) args s 0 0 (AD ad)) (gs M0 9 m) 2 [(0, .ref (ad 9 0))] 54 [] := by
    intro m h H locs hw hS ls hl
    unfold f_X6_readText_L54 at h
    refine lv_aload_n hx hb dX6_readText_54 rfl (lv_at hl 0 rfl) ?_
    refine lv_dup hx hb dX6_readText_55 rfl ?_
    refine r_get hx hb hts hown hK hw (v_md (by decide)) gs_atc E_md inX6 rfl 16 (by decide) k_560 rfl rfl dX6_readText_56 ?_
    refine lv_iconst (v := nI 1) hx hb dX6_readText_59 (by decide) ?_
    refine lv_iadd hx hb dX6_readText_60 ?_
    obtain ⟨m2, e1, h⟩ := t_lt h
    refine r_put hx hb hts hown hK hcv hw hS (v_md (by decide)) gs_atc E_md inX6 rfl tyX6 tyX6_ok nmX6 16 (by decide) k_560 rfl rfl rfl rfl (Nat.le_of_ble_eq_true rfl) E_md (gs_up e1) dX6_readText_61 (fun H locs hw hS => ?_)
    refine lv_aload_n hx hb dX6_readText_64 rfl (lv_at hl 0 rfl) ?_
    refine lv_bipush (v := nI 58) hx hb dX6_readText_65 (by decide) ?_
    obtain ⟨r4, m5, y3, h⟩ := t_bd h
    refine c_vv hx hb hml hown hts hK hw hS (fun _ h => h) (As := [.int (nI 58)]) (rest := []) (c_X6_takes hcv (M0 := gs M0 9 m2) (m := m2) (hm := gs_at) y3) cf_X6_takes k_647 rfl rfl ⟨Nat.le_of_ble_eq_true rfl, Nat.le_of_ble_eq_true rfl⟩ (r_recv hK hw (v_md (by decide)) E_md rfl) rfl hl.1 rfl (Nat.le_of_ble_eq_true rfl) ⟨Nat.le_refl _, Nat.le_refl _⟩ dX6_readText_67 (fun H locs hw hS => ?_)
    rw [gs_gs] at hw
    refine lv_aload_n hx hb dX6_readText_70 rfl (lv_at hl 0 rfl) ?_
    refine r_get hx hb hts hown hK hw (v_md (by decide)) gs_atc E_md inX6 rfl 14 (by decide) k_558 rfl rfl dX6_readText_71 ?_
    refine lv_iconst (v := nI 1) hx hb dX6_readText_74 (by decide) ?_
    refine lv_aload_n hx hb dX6_readText_75 rfl (lv_at hl 0 rfl) ?_
    obtain ⟨r7, m8, y6, h⟩ := t_bd h
    refine c_vi hx hb hml hown hts hK hw hS (fun _ h => h) (As := []) (rest := [.int (nI 1), .ref (ad 9 8)]) (c_X6_takesNumber hcv (M0 := gs M0 9 m5) (m := m5) (hm := gs_at) y6) cf_X6_takesNumber k_651 rfl rfl ⟨Nat.le_of_ble_eq_true rfl, Nat.le_of_ble_eq_true rfl⟩ (r_recv hK hw (v_md (by decide)) E_md rfl) rfl hl.1 rfl (Nat.le_of_ble_eq_true rfl) ⟨Nat.le_refl _, Nat.le_refl _⟩ dX6_readText_76 (fun H locs hw hS => ?_)
    rw [gs_gs] at hw
    obtain ⟨q9, h⟩ := t_gd h
    obtain ⟨m11, e10, h⟩ := t_lt h
    refine r_iast hx hb hK hcv hw hS (v_md (by decide)) gs_atc (fun _ => E_m8) q9 (gs_up e10) dX6_readText_79 (fun H locs hw hS => ?_)
    refine lv_aload_n hx hb dX6_readText_80 rfl (lv_at hl 0 rfl) ?_
    refine lv_bipush (v := nI 45) hx hb dX6_readText_81 (by decide) ?_
    obtain ⟨r13, m14, y12, h⟩ := t_bd h
    refine c_vv hx hb hml hown hts hK hw hS (fun _ h => h) (As := [.int (nI 45)]) (rest := []) (c_X6_takes hcv (M0 := gs M0 9 m11) (m := m11) (hm := gs_at) y12) cf_X6_takes k_647 rfl rfl ⟨Nat.le_of_ble_eq_true rfl, Nat.le_of_ble_eq_true rfl⟩ (r_recv hK hw (v_md (by decide)) E_md rfl) rfl hl.1 rfl (Nat.le_of_ble_eq_true rfl) ⟨Nat.le_refl _, Nat.le_refl _⟩ dX6_readText_83 (fun H locs hw hS => ?_)
    rw [gs_gs] at hw
    refine lv_aload_n hx hb dX6_readText_86 rfl (lv_at hl 0 rfl) ?_
    refine r_get hx hb hts hown hK hw (v_md (by decide)) gs_atc E_md inX6 rfl 14 (by decide) k_558 rfl rfl dX6_readText_87 ?_
    refine lv_iconst (v := nI 2) hx hb dX6_readText_90 (by decide) ?_
    refine lv_aload_n hx hb dX6_readText_91 rfl (lv_at hl 0 rfl) ?_
    obtain ⟨r16, m17, y15, h⟩ := t_bd h
    refine c_vi hx hb hml hown hts hK hw hS (fun _ h => h) (As := []) (rest := [.int (nI 2), .ref (ad 9 8)]) (c_X6_takesNumber hcv (M0 := gs M0 9 m14) (m := m14) (hm := gs_at) y15) cf_X6_takesNumber k_651 rfl rfl ⟨Nat.le_of_ble_eq_true rfl, Nat.le_of_ble_eq_true rfl⟩ (r_recv hK hw (v_md (by decide)) E_md rfl) rfl hl.1 rfl (Nat.le_of_ble_eq_true rfl) ⟨Nat.le_refl _, Nat.le_refl _⟩ dX6_readText_92 (fun H locs hw hS => ?_)
    rw [gs_gs] at hw
    obtain ⟨q18, h⟩ := t_gd h
    obtain ⟨m20, e19, h⟩ := t_lt h
    refine r_iast hx hb hK hcv hw hS (v_md (by decide)) gs_atc (fun _ => E_m8) q18 (gs_up e19) dX6_readText_95 (fun H locs hw hS => ?_)
    refine lv_aload_n hx hb dX6_readText_96 rfl (lv_at hl 0 rfl) ?_
    refine lv_bipush (v := nI 61) hx hb dX6_readText_97 (by decide) ?_
    obtain ⟨r22, m23, y21, h⟩ := t_bd h
    refine c_vv hx hb hml hown hts hK hw hS (fun _ h => h) (As := [.int (nI 61)]) (rest := []) (c_X6_takes hcv (M0 := gs M0 9 m20) (m := m20) (hm := gs_at) y21) cf_X6_takes k_647 rfl rfl ⟨Nat.le_of_ble_eq_true rfl, Nat.le_of_ble_eq_true rfl⟩ (r_recv hK hw (v_md (by decide)) E_md rfl) rfl hl.1 rfl (Nat.le_of_ble_eq_true rfl) ⟨Nat.le_refl _, Nat.le_refl _⟩ dX6_readText_99 (fun H locs hw hS => ?_)
    rw [gs_gs] at hw
    refine lv_iconst (v := nI 1) hx hb dX6_readText_102 (by decide) ?_
    refine lv_istore_n (lv' := [(1, .int (nI 1)), (0, .ref (ad 9 0))]) hx hb dX6_readText_103 rfl hl (by decide) rfl (fun ls hl => ?_)
    exact L104 FU m23 (nI 1) h H locs hw hS ls (lv_sub hl [1, 0] rfl)
  have L50 : ∀ (m : SM), f_X6_readText_L50 m = some (r, x) → JL p l e ({ frames := 3, cells := 0, slots := 0, locals := 64 } : Room) s md args below meth c D cy ad (MQ below (QI D cy ad r (gs M0 9 x)) args s 0 0 (AD ad)) (gs M0 9 m) 2 [(0, .ref (ad 9 0))] 50 [] := by
    intro m h H locs hw hS ls hl
    unfold f_X6_readText_L50 at h
    refine lv_aload_n hx hb dX6_readText_50 rfl (lv_at hl 0 rfl) ?_
    obtain ⟨r2, m3, y1, h⟩ := t_bd h
    refine c_vv hx hb hml hown hts hK hw hS (fun _ h => h) (As := []) (rest := []) (c_X6_fail hcv (M0 := gs M0 9 m) (m := m) (hm := gs_at) y1) cf_X6_fail k_643 rfl rfl ⟨Nat.le_of_ble_eq_true rfl, Nat.le_of_ble_eq_true rfl⟩ (r_recv hK hw (v_md (by decide)) E_md rfl) rfl hl.1 rfl (Nat.le_of_ble_eq_true rfl) ⟨Nat.le_refl _, Nat.le_refl _⟩ dX6_readText_51 (fun H locs hw hS => ?_)
    rw [gs_gs] at hw
    exact L54 m3 h H locs hw hS ls (lv_sub hl [0] rfl)
  unfold f_X6_readText at h
  have main : JL p l e ({ frames := 3, cells := 0, slots := 0, locals := 64 } : Room) s md args below meth c D cy ad (MQ below (QI D cy ad r (gs M0 9 x)) args s 0 0 (AD ad)) (gs M0 9 m) 2 [(0, .ref (ad 9 0))] 0 [] := by
    intro H locs hw hS ls hl
    refine lv_aload_n hx hb dX6_readText_0 rfl (lv_at hl 0 rfl) ?_
    refine lv_bipush (v := -5) hx hb dX6_readText_1 (by decide) ?_
    obtain ⟨m2, e1, h⟩ := t_lt h
    refine r_put hx hb hts hown hK hcv hw hS (v_md (by decide)) gs_atc E_md inX6 rfl tyX6 tyX6_ok nmX6 17 (by decide) k_561 rfl rfl rfl rfl (Nat.le_of_ble_eq_true rfl) E_md (gs_up e1) dX6_readText_3 (fun H locs hw hS => ?_)
    refine lv_aload_n hx hb dX6_readText_6 rfl (lv_at hl 0 rfl) ?_
    refine lv_iconst (v := nI 0) hx hb dX6_readText_7 (by decide) ?_
    obtain ⟨m4, e3, h⟩ := t_lt h
    refine r_put hx hb hts hown hK hcv hw hS (v_md (by decide)) gs_atc E_md inX6 rfl tyX6 tyX6_ok nmX6 16 (by decide) k_560 rfl rfl rfl rfl (Nat.le_of_ble_eq_true rfl) E_md (gs_up e3) dX6_readText_8 (fun H locs hw hS => ?_)
    refine lv_aload_n hx hb dX6_readText_11 rfl (lv_at hl 0 rfl) ?_
    refine lv_iconst (v := nI 0) hx hb dX6_readText_12 (by decide) ?_
    obtain ⟨m6, e5, h⟩ := t_lt h
    refine r_put hx hb hts hown hK hcv hw hS (v_md (by decide)) gs_atc E_md inX6 rfl tyX6 tyX6_ok nmX6 15 (by decide) k_559 rfl rfl rfl rfl (Nat.le_of_ble_eq_true rfl) E_md (gs_up e5) dX6_readText_13 (fun H locs hw hS => ?_)
    refine lv_aload_n hx hb dX6_readText_16 rfl (lv_at hl 0 rfl) ?_
    refine r_get hx hb hts hown hK hw (v_md (by decide)) gs_atc E_md inX6 rfl 14 (by decide) k_558 rfl rfl dX6_readText_17 ?_
    refine lv_iconst (v := nI 0) hx hb dX6_readText_20 (by decide) ?_
    refine lv_aload_n hx hb dX6_readText_21 rfl (lv_at hl 0 rfl) ?_
    refine lv_iconst (v := nI 0) hx hb dX6_readText_22 (by decide) ?_
    obtain ⟨r8, y7, h⟩ := t_b1 h
    refine c_vi hx hb hml hown hts hK hw hS (fun _ h => h) (As := [.int (nI 0)]) (rest := [.int (nI 0), .ref (ad 9 8)]) (c_X6_letter hcv (M0 := gs M0 9 m6) (m := m6) (hm := gs_at) y7) cf_X6_letter k_639 rfl rfl ⟨Nat.le_of_ble_eq_true rfl, Nat.le_of_ble_eq_true rfl⟩ (r_recv hK hw (v_md (by decide)) E_md rfl) rfl hl.1 rfl (Nat.le_of_ble_eq_true rfl) ⟨Nat.le_refl _, Nat.le_refl _⟩ dX6_readText_23 (fun H locs hw hS => ?_)
    refine lv_bipush (v := nI 48) hx hb dX6_readText_26 (by decide) ?_
    refine lv_isub hx hb dX6_readText_28 ?_
    obtain ⟨q9, h⟩ := t_gd h
    obtain ⟨m11, e10, h⟩ := t_lt h
    refine r_iast hx hb hK hcv hw hS (v_md (by decide)) gs_atc (fun _ => E_m8) q9 (gs_up e10) dX6_readText_29 (fun H locs hw hS => ?_)
    refine lv_aload_n hx hb dX6_readText_30 rfl (lv_at hl 0 rfl) ?_
    refine lv_iconst (v := nI 0) hx hb dX6_readText_31 (by decide) ?_
    obtain ⟨r13, y12, h⟩ := t_b1 h
    refine c_vi hx hb hml hown hts hK hw hS (fun _ h => h) (As := [.int (nI 0)]) (rest := []) (c_X6_letter hcv (M0 := gs M0 9 m11) (m := m11) (hm := gs_at) y12) cf_X6_letter k_639 rfl rfl ⟨Nat.le_of_ble_eq_true rfl, Nat.le_of_ble_eq_true rfl⟩ (r_recv hK hw (v_md (by decide)) E_md rfl) rfl hl.1 rfl (Nat.le_of_ble_eq_true rfl) ⟨Nat.le_refl _, Nat.le_refl _⟩ dX6_readText_32 (fun H locs hw hS => ?_)
    refine lv_bipush (v := nI 48) hx hb dX6_readText_35 (by decide) ?_
    refine lv_icmp_lt (tgt := 50) hx hb dX6_readText_37 (by decide) (fun q14 => ?_) (fun q14 => ?_)
    · replace h := t_pos h q14
      exact L50 m11 h H locs hw hS ls (lv_sub hl [0] rfl)
    · replace h := t_neg h q14
      refine lv_aload_n hx hb dX6_readText_40 rfl (lv_at hl 0 rfl) ?_
      refine lv_iconst (v := nI 0) hx hb dX6_readText_41 (by decide) ?_
      obtain ⟨r16, y15, h⟩ := t_b1 h
      refine c_vi hx hb hml hown hts hK hw hS (fun _ h => h) (As := [.int (nI 0)]) (rest := []) (c_X6_letter hcv (M0 := gs M0 9 m11) (m := m11) (hm := gs_at) y15) cf_X6_letter k_639 rfl rfl ⟨Nat.le_of_ble_eq_true rfl, Nat.le_of_ble_eq_true rfl⟩ (r_recv hK hw (v_md (by decide)) E_md rfl) rfl hl.1 rfl (Nat.le_of_ble_eq_true rfl) ⟨Nat.le_refl _, Nat.le_refl _⟩ dX6_readText_42 (fun H locs hw hS => ?_)
      refine lv_bipush (v := nI 51) hx hb dX6_readText_45 (by decide) ?_
      refine lv_icmp_le (tgt := 54) hx hb dX6_readText_47 (by decide) (fun q17 => ?_) (fun q17 => ?_)
      · replace h := t_pos h q17
        exact L54 m11 h H locs hw hS ls (lv_sub hl [0] rfl)
      · replace h := t_neg h q17
        exact L50 m11 h H locs hw hS ls (lv_sub hl [0] rfl)
  exact main _ _ hw hS ls hl

theorem cf_X6_areWithin : cfV RX6 yX6_areWithin cX6_areWithin 3 (some .boolean) 0 := ⟨⟨k_661, k_s9, k_7, k_662⟩, by decide +kernel⟩
def f_X6_areWithin_L23 (m : SM) : Nat → Int32 → Int32 → Option (Int32)
  | 0, _, _ => none
  | n + 1, x1, x2 => (if (m 0 15) ≤ x2 then gz x1 (some x1) else (if x1 = (nI 0) then f_X6_areWithin_L23 m n (nI 0) (x2 + (nI 1)) else gd ((nI 3) + x2) 19 (gd (nI 1) 19 (gd (nI 2) 19 (b1 (f_X6_in (m 8 ((nI 3) + x2).toNatClampNeg) (m 8 (nI 1).toNatClampNeg) (m 8 (nI 2).toNatClampNeg)) fun r8 => (if r8 = (nI 0) then f_X6_areWithin_L23 m n (nI 0) (x2 + (nI 1)) else f_X6_areWithin_L23 m n (nI 1) (x2 + (nI 1))))))))
def f_X6_areWithin (m : SM) : Option (Int32) :=
  gd (nI 1) 19 (gd (nI 2) 19 ((if (m 8 (nI 2).toNatClampNeg) < (m 8 (nI 1).toNatClampNeg) then f_X6_areWithin_L23 m FU (nI 0) (nI 0) else f_X6_areWithin_L23 m FU (nI 1) (nI 0))))
set_option maxHeartbeats 4000000 in
set_option maxRecDepth 100000 in
theorem c_X6_areWithin {l : Launch} {D : va_G} {cy : Nat → ClassId} {ad : Nat → Nat → Nat} (hcv : CV ad) {M0 : MM} {m : SM} (hm : M0 9 = m) {r : Int32} (h : f_X6_areWithin m = some r) : Met l yX6_areWithin (.code yX6_areWithin cX6_areWithin 3 (some .boolean) :: TB) ({ frames := 1, cells := 0, slots := 0, locals := 22 } : Room) (PW D cy ad M0 [.ref (ad 9 0)]) (QI D cy ad r M0) 0 0 (AD ad) := by
  refine m_in (by decide +kernel) (Nat.le_of_ble_eq_true rfl) ?_
  intro p e s md args below meth c hC hw hS ls hl
  obtain ⟨hx, hb, hr, hml, hown, hts, hK, hlk⟩ := hC
  have hl : lv_has ls 3 [(0, .ref (ad 9 0))] := hl
  rw [← gs_same hm] at hw
  have L23 : ∀ (n : Nat), ∀ (x1 : Int32) (x2 : Int32), f_X6_areWithin_L23 m n x1 x2 = some r → JL p l e ({ frames := 1, cells := 0, slots := 0, locals := 22 } : Room) s md args below meth c D cy ad (MQ below (QI D cy ad r M0) args s 0 0 (AD ad)) (gs M0 9 m) 3 [(0, .ref (ad 9 0)), (1, .int x1), (2, .int x2)] 23 [] := by
    intro n
    induction n with
    | zero =>
      intro x1 x2 h
      cases h
    | succ n ih =>
      intro x1 x2 h H locs hw hS ls hl
      rw [f_X6_areWithin_L23.eq_2] at h
      refine lv_iload_n hx hb dX6_areWithin_23 rfl (lv_at hl 2 rfl) ?_
      refine lv_aload_n hx hb dX6_areWithin_24 rfl (lv_at hl 0 rfl) ?_
      refine r_get hx hb hts hown hK hw (v_md (by decide)) gs_atc E_md inX6 rfl 15 (by decide) k_559 rfl rfl dX6_areWithin_25 ?_
      refine lv_icmp_ge (tgt := 73) hx hb dX6_areWithin_28 (by decide) (fun q1 => ?_) (fun q1 => ?_)
      · replace h := t_pos h q1
        refine lv_iload_n hx hb dX6_areWithin_73 rfl (lv_at hl 1 rfl) ?_
        obtain ⟨q2, h⟩ := t_gz h
        have e1 := Option.some.inj h
        exact e_z hx hb hr hlk q2 hw hS e1 (gs_same hm) dX6_areWithin_74
      · replace h := t_neg h q1
        refine lv_iload_n hx hb dX6_areWithin_31 rfl (lv_at hl 1 rfl) ?_
        refine lv_if_eq (tgt := 65) hx hb dX6_areWithin_32 (by decide) (fun q3 => ?_) (fun q3 => ?_)
        · replace h := t_pos h q3
          refine lv_iconst (v := nI 0) hx hb dX6_areWithin_65 (by decide) ?_
          refine lv_istore_n (lv' := [(1, .int (nI 0)), (0, .ref (ad 9 0)), (2, .int x2)]) hx hb dX6_areWithin_66 rfl hl (by decide) rfl (fun ls hl => ?_)
          refine lv_iinc (v := (x2 + (nI 1))) (lv' := [(2, .int (x2 + (nI 1))), (1, .int (nI 0)), (0, .ref (ad 9 0))]) hx hb dX6_areWithin_67 hl (k := 2) rfl rfl (by decide) rfl (fun ls hl => ?_)
          refine lv_goto (tgt := 23) hx hb dX6_areWithin_70 (by decide) ?_
          exact ih (nI 0) (x2 + (nI 1)) h H locs hw hS ls (lv_sub hl [2, 1, 0] rfl)
        · replace h := t_neg h q3
          refine lv_aload_n hx hb dX6_areWithin_35 rfl (lv_at hl 0 rfl) ?_
          refine r_get hx hb hts hown hK hw (v_md (by decide)) gs_atc E_md inX6 rfl 14 (by decide) k_558 rfl rfl dX6_areWithin_36 ?_
          refine lv_iconst (v := nI 3) hx hb dX6_areWithin_39 (by decide) ?_
          refine lv_iload_n hx hb dX6_areWithin_40 rfl (lv_at hl 2 rfl) ?_
          refine lv_iadd hx hb dX6_areWithin_41 ?_
          obtain ⟨q4, h⟩ := t_gd h
          refine r_iald hx hb hK hw (v_md (by decide)) gs_atc E_m8 q4 dX6_areWithin_42 ?_
          refine lv_aload_n hx hb dX6_areWithin_43 rfl (lv_at hl 0 rfl) ?_
          refine r_get hx hb hts hown hK hw (v_md (by decide)) gs_atc E_md inX6 rfl 14 (by decide) k_558 rfl rfl dX6_areWithin_44 ?_
          refine lv_iconst (v := nI 1) hx hb dX6_areWithin_47 (by decide) ?_
          obtain ⟨q5, h⟩ := t_gd h
          refine r_iald hx hb hK hw (v_md (by decide)) gs_atc E_m8 q5 dX6_areWithin_48 ?_
          refine lv_aload_n hx hb dX6_areWithin_49 rfl (lv_at hl 0 rfl) ?_
          refine r_get hx hb hts hown hK hw (v_md (by decide)) gs_atc E_md inX6 rfl 14 (by decide) k_558 rfl rfl dX6_areWithin_50 ?_
          refine lv_iconst (v := nI 2) hx hb dX6_areWithin_53 (by decide) ?_
          obtain ⟨q6, h⟩ := t_gd h
          refine r_iald hx hb hK hw (v_md (by decide)) gs_atc E_m8 q6 dX6_areWithin_54 ?_
          obtain ⟨r8, y7, h⟩ := t_b1 h
          refine c_si hx hb hml hown hts hK hw hS (fun _ h => h) (As := [.int (m 8 ((nI 3) + x2).toNatClampNeg), .int (m 8 (nI 1).toNatClampNeg), .int (m 8 (nI 2).toNatClampNeg)]) (rest := []) (c_X6_in hcv (M0 := gs M0 9 m) y7) cf_X6_in k_663 rfl rfl ⟨Nat.le_of_ble_eq_true rfl, Nat.le_of_ble_eq_true rfl⟩ rfl hl.1 rfl (Nat.le_of_ble_eq_true rfl) ⟨Nat.le_refl _, Nat.le_refl _⟩ dX6_areWithin_55 (fun H locs hw hS => ?_)
          refine lv_if_eq (tgt := 65) hx hb dX6_areWithin_58 (by decide) (fun q9 => ?_) (fun q9 => ?_)
          · replace h := t_pos h q9
            refine lv_iconst (v := nI 0) hx hb dX6_areWithin_65 (by decide) ?_
            refine lv_istore_n (lv' := [(1, .int (nI 0)), (0, .ref (ad 9 0)), (2, .int x2)]) hx hb dX6_areWithin_66 rfl hl (by decide) rfl (fun ls hl => ?_)
            refine lv_iinc (v := (x2 + (nI 1))) (lv' := [(2, .int (x2 + (nI 1))), (1, .int (nI 0)), (0, .ref (ad 9 0))]) hx hb dX6_areWithin_67 hl (k := 2) rfl rfl (by decide) rfl (fun ls hl => ?_)
            refine lv_goto (tgt := 23) hx hb dX6_areWithin_70 (by decide) ?_
            exact ih (nI 0) (x2 + (nI 1)) h H locs hw hS ls (lv_sub hl [2, 1, 0] rfl)
          · replace h := t_neg h q9
            refine lv_iconst (v := nI 1) hx hb dX6_areWithin_61 (by decide) ?_
            refine lv_goto (tgt := 66) hx hb dX6_areWithin_62 (by decide) ?_
            refine lv_istore_n (lv' := [(1, .int (nI 1)), (0, .ref (ad 9 0)), (2, .int x2)]) hx hb dX6_areWithin_66 rfl hl (by decide) rfl (fun ls hl => ?_)
            refine lv_iinc (v := (x2 + (nI 1))) (lv' := [(2, .int (x2 + (nI 1))), (1, .int (nI 1)), (0, .ref (ad 9 0))]) hx hb dX6_areWithin_67 hl (k := 2) rfl rfl (by decide) rfl (fun ls hl => ?_)
            refine lv_goto (tgt := 23) hx hb dX6_areWithin_70 (by decide) ?_
            exact ih (nI 1) (x2 + (nI 1)) h H locs hw hS ls (lv_sub hl [2, 1, 0] rfl)
  unfold f_X6_areWithin at h
  have main : JL p l e ({ frames := 1, cells := 0, slots := 0, locals := 22 } : Room) s md args below meth c D cy ad (MQ below (QI D cy ad r M0) args s 0 0 (AD ad)) (gs M0 9 m) 3 [(0, .ref (ad 9 0))] 0 [] := by
    intro H locs hw hS ls hl
    refine lv_aload_n hx hb dX6_areWithin_0 rfl (lv_at hl 0 rfl) ?_
    refine r_get hx hb hts hown hK hw (v_md (by decide)) gs_atc E_md inX6 rfl 14 (by decide) k_558 rfl rfl dX6_areWithin_1 ?_
    refine lv_iconst (v := nI 1) hx hb dX6_areWithin_4 (by decide) ?_
    obtain ⟨q1, h⟩ := t_gd h
    refine r_iald hx hb hK hw (v_md (by decide)) gs_atc E_m8 q1 dX6_areWithin_5 ?_
    refine lv_aload_n hx hb dX6_areWithin_6 rfl (lv_at hl 0 rfl) ?_
    refine r_get hx hb hts hown hK hw (v_md (by decide)) gs_atc E_md inX6 rfl 14 (by decide) k_558 rfl rfl dX6_areWithin_7 ?_
    refine lv_iconst (v := nI 2) hx hb dX6_areWithin_10 (by decide) ?_
    obtain ⟨q2, h⟩ := t_gd h
    refine r_iald hx hb hK hw (v_md (by decide)) gs_atc E_m8 q2 dX6_areWithin_11 ?_
    refine lv_icmp_gt (tgt := 19) hx hb dX6_areWithin_12 (by decide) (fun q3 => ?_) (fun q3 => ?_)
    · replace h := t_pos h q3
      refine lv_iconst (v := nI 0) hx hb dX6_areWithin_19 (by decide) ?_
      refine lv_istore_n (lv' := [(1, .int (nI 0)), (0, .ref (ad 9 0))]) hx hb dX6_areWithin_20 rfl hl (by decide) rfl (fun ls hl => ?_)
      refine lv_iconst (v := nI 0) hx hb dX6_areWithin_21 (by decide) ?_
      refine lv_istore_n (lv' := [(2, .int (nI 0)), (1, .int (nI 0)), (0, .ref (ad 9 0))]) hx hb dX6_areWithin_22 rfl hl (by decide) rfl (fun ls hl => ?_)
      exact L23 FU (nI 0) (nI 0) h H locs hw hS ls (lv_sub hl [2, 1, 0] rfl)
    · replace h := t_neg h q3
      refine lv_iconst (v := nI 1) hx hb dX6_areWithin_15 (by decide) ?_
      refine lv_goto (tgt := 20) hx hb dX6_areWithin_16 (by decide) ?_
      refine lv_istore_n (lv' := [(1, .int (nI 1)), (0, .ref (ad 9 0))]) hx hb dX6_areWithin_20 rfl hl (by decide) rfl (fun ls hl => ?_)
      refine lv_iconst (v := nI 0) hx hb dX6_areWithin_21 (by decide) ?_
      refine lv_istore_n (lv' := [(2, .int (nI 0)), (1, .int (nI 1)), (0, .ref (ad 9 0))]) hx hb dX6_areWithin_22 rfl hl (by decide) rfl (fun ls hl => ?_)
      exact L23 FU (nI 1) (nI 0) h H locs hw hS ls (lv_sub hl [2, 1, 0] rfl)
  exact main _ _ hw hS ls hl

theorem cf_X6_addBlock : cfV RX6 yX6_addBlock cX6_addBlock 3 (some .int) 0 := ⟨⟨k_632, k_633, k_7, k_634⟩, by decide +kernel⟩
def f_X6_addBlock_L106 : Nat → SM → Int32 → Int32 → Option (Int32 × SM)
  | 0, _, _, _ => none
  | n + 1, m, x1, x2 => (if (m 0 15) ≤ x2 then bd (f_X6_settle m) fun r3 m4 => some (x1, m4) else gd ((nI 3) + x2) 19 (bd (f_X6_put m x1 ((nI 5) + x2) (m 8 ((nI 3) + x2).toNatClampNeg)) fun r7 m8 => f_X6_addBlock_L106 n m8 x1 (x2 + (nI 1))))
def f_X6_addBlock_L87 (m : SM) (x1 : Int32) : Option (Int32 × SM) :=
  bd (f_X6_put m x1 (nI 3) (m 0 15)) fun r2 m3 => bd (f_X6_put m3 x1 (nI 4) (nI 0)) fun r5 m6 => f_X6_addBlock_L106 FU m6 x1 (nI 0)
def f_X6_addBlock_L64 : Nat → SM → Int32 → Int32 → Option (Int32 × SM)
  | 0, _, _, _ => none
  | n + 1, m, x1, x2 => (if (nI 3) ≤ x2 then f_X6_addBlock_L87 m x1 else gd x2 19 (bd (f_X6_put m x1 x2 (m 8 x2.toNatClampNeg)) fun r4 m5 => f_X6_addBlock_L64 n m5 x1 (x2 + (nI 1))))
def f_X6_addBlock (m : SM) : Option (Int32 × SM) :=
  bd (f_X6_readText m) fun r2 m3 => (if r2 = (-5 : Int32) then b1 (f_X6_areWithin m3) fun r6 => (if r6 = (nI 0) then some ((-2 : Int32), m3) else gd (nI 0) 220 ((if (m3 1 (nI 0).toNatClampNeg) = (nI 8) then some ((-3 : Int32), m3) else bd (f_X6_record m3) fun r11 m12 => gd (nI 0) 220 (gd (nI 0) 220 (gd (nI 0) 220 (lt1 (up m12 1 (nI 0).toNatClampNeg ((m12 1 (nI 0).toNatClampNeg) + (nI 1))) fun m17 => f_X6_addBlock_L64 FU m17 (m12 1 (nI 0).toNatClampNeg) (nI 0))))))) else some (((-100 : Int32) - (m3 0 17)), m3))
set_option maxHeartbeats 4000000 in
set_option maxRecDepth 100000 in
theorem c_X6_addBlock {l : Launch} {D : va_G} {cy : Nat → ClassId} {ad : Nat → Nat → Nat} (hcv : CV ad) {M0 : MM} {m : SM} (hm : M0 9 = m) {r : Int32} {x : SM} (h : f_X6_addBlock m = some (r, x)) : Met l yX6_addBlock (.code yX6_addBlock cX6_addBlock 3 (some .int) :: TB) ({ frames := 6, cells := 0, slots := 0, locals := 137 } : Room) (PW D cy ad M0 [.ref (ad 9 0)]) (QI D cy ad r (gs M0 9 x)) 0 0 (AD ad) := by
  refine m_in (by decide +kernel) (Nat.le_of_ble_eq_true rfl) ?_
  intro p e s md args below meth c hC hw hS ls hl
  obtain ⟨hx, hb, hr, hml, hown, hts, hK, hlk⟩ := hC
  have hl : lv_has ls 3 [(0, .ref (ad 9 0))] := hl
  rw [← gs_same hm] at hw
  have L106 : ∀ (n : Nat), ∀ (m : SM) (x1 : Int32) (x2 : Int32), f_X6_addBlock_L106 n m x1 x2 = some (r, x) → JL p l e ({ frames := 6, cells := 0, slots := 0, locals := 137 } : Room) s md args below meth c D cy ad (MQ below (QI D cy ad r (gs M0 9 x)) args s 0 0 (AD ad)) (gs M0 9 m) 3 [(0, .ref (ad 9 0)), (1, .int x1), (2, .int x2)] 106 [] := by
    intro n
    induction n with
    | zero =>
      intro m x1 x2 h
      cases h
    | succ n ih =>
      intro m x1 x2 h H locs hw hS ls hl
      rw [f_X6_addBlock_L106.eq_2] at h
      refine lv_iload_n hx hb dX6_addBlock_106 rfl (lv_at hl 2 rfl) ?_
      refine lv_aload_n hx hb dX6_addBlock_107 rfl (lv_at hl 0 rfl) ?_
      refine r_get hx hb hts hown hK hw (v_md (by decide)) gs_atc E_md inX6 rfl 15 (by decide) k_559 rfl rfl dX6_addBlock_108 ?_
      refine lv_icmp_ge (tgt := 136) hx hb dX6_addBlock_111 (by decide) (fun q1 => ?_) (fun q1 => ?_)
      · replace h := t_pos h q1
        refine lv_aload_n hx hb dX6_addBlock_136 rfl (lv_at hl 0 rfl) ?_
        obtain ⟨r3, m4, y2, h⟩ := t_bd h
        refine c_vv hx hb hml hown hts hK hw hS (fun _ h => h) (As := []) (rest := []) (c_X6_settle hcv (M0 := gs M0 9 m) (m := m) (hm := gs_at) y2) cf_X6_settle k_670 rfl rfl ⟨Nat.le_of_ble_eq_true rfl, Nat.le_of_ble_eq_true rfl⟩ (r_recv hK hw (v_md (by decide)) E_md rfl) rfl hl.1 rfl (Nat.le_of_ble_eq_true rfl) ⟨Nat.le_refl _, Nat.le_refl _⟩ dX6_addBlock_137 (fun H locs hw hS => ?_)
        rw [gs_gs] at hw
        refine lv_iload_n hx hb dX6_addBlock_140 rfl (lv_at hl 1 rfl) ?_
        have e1 := (t_ret h).1
        have e2 := (t_ret h).2
        exact e_i hx hb hr hlk hw hS e1 (by rw [e2]) dX6_addBlock_141
      · replace h := t_neg h q1
        refine lv_aload_n hx hb dX6_addBlock_114 rfl (lv_at hl 0 rfl) ?_
        refine lv_iload_n hx hb dX6_addBlock_115 rfl (lv_at hl 1 rfl) ?_
        refine lv_iconst (v := nI 5) hx hb dX6_addBlock_116 (by decide) ?_
        refine lv_iload_n hx hb dX6_addBlock_117 rfl (lv_at hl 2 rfl) ?_
        refine lv_iadd hx hb dX6_addBlock_118 ?_
        refine lv_aload_n hx hb dX6_addBlock_119 rfl (lv_at hl 0 rfl) ?_
        refine r_get hx hb hts hown hK hw (v_md (by decide)) gs_atc E_md inX6 rfl 14 (by decide) k_558 rfl rfl dX6_addBlock_120 ?_
        refine lv_iconst (v := nI 3) hx hb dX6_addBlock_123 (by decide) ?_
        refine lv_iload_n hx hb dX6_addBlock_124 rfl (lv_at hl 2 rfl) ?_
        refine lv_iadd hx hb dX6_addBlock_125 ?_
        obtain ⟨q5, h⟩ := t_gd h
        refine r_iald hx hb hK hw (v_md (by decide)) gs_atc E_m8 q5 dX6_addBlock_126 ?_
        obtain ⟨r7, m8, y6, h⟩ := t_bd h
        refine c_vv hx hb hml hown hts hK hw hS (fun _ h => h) (As := [.int x1, .int ((nI 5) + x2), .int (m 8 ((nI 3) + x2).toNatClampNeg)]) (rest := []) (c_X6_put hcv (M0 := gs M0 9 m) (m := m) (hm := gs_at) y6) cf_X6_put k_666 rfl rfl ⟨Nat.le_of_ble_eq_true rfl, Nat.le_of_ble_eq_true rfl⟩ (r_recv hK hw (v_md (by decide)) E_md rfl) rfl hl.1 rfl (Nat.le_of_ble_eq_true rfl) ⟨Nat.le_refl _, Nat.le_refl _⟩ dX6_addBlock_127 (fun H locs hw hS => ?_)
        rw [gs_gs] at hw
        refine lv_iinc (v := (x2 + (nI 1))) (lv' := [(2, .int (x2 + (nI 1))), (0, .ref (ad 9 0)), (1, .int x1)]) hx hb dX6_addBlock_130 hl (k := 2) rfl rfl (by decide) rfl (fun ls hl => ?_)
        refine lv_goto (tgt := 106) hx hb dX6_addBlock_133 (by decide) ?_
        exact ih m8 x1 (x2 + (nI 1)) h H locs hw hS ls (lv_sub hl [1, 2, 0] rfl)
  have L87 : ∀ (m : SM) (x1 : Int32), f_X6_addBlock_L87 m x1 = some (r, x) → JL p l e ({ frames := 6, cells := 0, slots := 0, locals := 137 } : Room) s md args below meth c D cy ad (MQ below (QI D cy ad r (gs M0 9 x)) args s 0 0 (AD ad)) (gs M0 9 m) 3 [(0, .ref (ad 9 0)), (1, .int x1)] 87 [] := by
    intro m x1 h H locs hw hS ls hl
    unfold f_X6_addBlock_L87 at h
    refine lv_aload_n hx hb dX6_addBlock_87 rfl (lv_at hl 0 rfl) ?_
    refine lv_iload_n hx hb dX6_addBlock_88 rfl (lv_at hl 1 rfl) ?_
    refine lv_iconst (v := nI 3) hx hb dX6_addBlock_89 (by decide) ?_
    refine lv_aload_n hx hb dX6_addBlock_90 rfl (lv_at hl 0 rfl) ?_
    refine r_get hx hb hts hown hK hw (v_md (by decide)) gs_atc E_md inX6 rfl 15 (by decide) k_559 rfl rfl dX6_addBlock_91 ?_
    obtain ⟨r2, m3, y1, h⟩ := t_bd h
    refine c_vv hx hb hml hown hts hK hw hS (fun _ h => h) (As := [.int x1, .int (nI 3), .int (m 0 15)]) (rest := []) (c_X6_put hcv (M0 := gs M0 9 m) (m := m) (hm := gs_at) y1) cf_X6_put k_666 rfl rfl ⟨Nat.le_of_ble_eq_true rfl, Nat.le_of_ble_eq_true rfl⟩ (r_recv hK hw (v_md (by decide)) E_md rfl) rfl hl.1 rfl (Nat.le_of_ble_eq_true rfl) ⟨Nat.le_refl _, Nat.le_refl _⟩ dX6_addBlock_94 (fun H locs hw hS => ?_)
    rw [gs_gs] at hw
    refine lv_aload_n hx hb dX6_addBlock_97 rfl (lv_at hl 0 rfl) ?_
    refine lv_iload_n hx hb dX6_addBlock_98 rfl (lv_at hl 1 rfl) ?_
    refine lv_iconst (v := nI 4) hx hb dX6_addBlock_99 (by decide) ?_
    refine lv_iconst (v := nI 0) hx hb dX6_addBlock_100 (by decide) ?_
    obtain ⟨r5, m6, y4, h⟩ := t_bd h
    refine c_vv hx hb hml hown hts hK hw hS (fun _ h => h) (As := [.int x1, .int (nI 4), .int (nI 0)]) (rest := []) (c_X6_put hcv (M0 := gs M0 9 m3) (m := m3) (hm := gs_at) y4) cf_X6_put k_666 rfl rfl ⟨Nat.le_of_ble_eq_true rfl, Nat.le_of_ble_eq_true rfl⟩ (r_recv hK hw (v_md (by decide)) E_md rfl) rfl hl.1 rfl (Nat.le_of_ble_eq_true rfl) ⟨Nat.le_refl _, Nat.le_refl _⟩ dX6_addBlock_101 (fun H locs hw hS => ?_)
    rw [gs_gs] at hw
    refine lv_iconst (v := nI 0) hx hb dX6_addBlock_104 (by decide) ?_
    refine lv_istore_n (lv' := [(2, .int (nI 0)), (0, .ref (ad 9 0)), (1, .int x1)]) hx hb dX6_addBlock_105 rfl hl (by decide) rfl (fun ls hl => ?_)
    exact L106 FU m6 x1 (nI 0) h H locs hw hS ls (lv_sub hl [1, 2, 0] rfl)
  have L64 : ∀ (n : Nat), ∀ (m : SM) (x1 : Int32) (x2 : Int32), f_X6_addBlock_L64 n m x1 x2 = some (r, x) → JL p l e ({ frames := 6, cells := 0, slots := 0, locals := 137 } : Room) s md args below meth c D cy ad (MQ below (QI D cy ad r (gs M0 9 x)) args s 0 0 (AD ad)) (gs M0 9 m) 3 [(0, .ref (ad 9 0)), (1, .int x1), (2, .int x2)] 64 [] := by
    intro n
    induction n with
    | zero =>
      intro m x1 x2 h
      cases h
    | succ n ih =>
      intro m x1 x2 h H locs hw hS ls hl
      rw [f_X6_addBlock_L64.eq_2] at h
      refine lv_iload_n hx hb dX6_addBlock_64 rfl (lv_at hl 2 rfl) ?_
      refine lv_iconst (v := nI 3) hx hb dX6_addBlock_65 (by decide) ?_
      refine lv_icmp_ge (tgt := 87) hx hb dX6_addBlock_66 (by decide) (fun q1 => ?_) (fun q1 => ?_)
      · replace h := t_pos h q1
        exact L87 m x1 h H locs hw hS ls (lv_sub hl [0, 1] rfl)
      · replace h := t_neg h q1
        refine lv_aload_n hx hb dX6_addBlock_69 rfl (lv_at hl 0 rfl) ?_
        refine lv_iload_n hx hb dX6_addBlock_70 rfl (lv_at hl 1 rfl) ?_
        refine lv_iload_n hx hb dX6_addBlock_71 rfl (lv_at hl 2 rfl) ?_
        refine lv_aload_n hx hb dX6_addBlock_72 rfl (lv_at hl 0 rfl) ?_
        refine r_get hx hb hts hown hK hw (v_md (by decide)) gs_atc E_md inX6 rfl 14 (by decide) k_558 rfl rfl dX6_addBlock_73 ?_
        refine lv_iload_n hx hb dX6_addBlock_76 rfl (lv_at hl 2 rfl) ?_
        obtain ⟨q2, h⟩ := t_gd h
        refine r_iald hx hb hK hw (v_md (by decide)) gs_atc E_m8 q2 dX6_addBlock_77 ?_
        obtain ⟨r4, m5, y3, h⟩ := t_bd h
        refine c_vv hx hb hml hown hts hK hw hS (fun _ h => h) (As := [.int x1, .int x2, .int (m 8 x2.toNatClampNeg)]) (rest := []) (c_X6_put hcv (M0 := gs M0 9 m) (m := m) (hm := gs_at) y3) cf_X6_put k_666 rfl rfl ⟨Nat.le_of_ble_eq_true rfl, Nat.le_of_ble_eq_true rfl⟩ (r_recv hK hw (v_md (by decide)) E_md rfl) rfl hl.1 rfl (Nat.le_of_ble_eq_true rfl) ⟨Nat.le_refl _, Nat.le_refl _⟩ dX6_addBlock_78 (fun H locs hw hS => ?_)
        rw [gs_gs] at hw
        refine lv_iinc (v := (x2 + (nI 1))) (lv' := [(2, .int (x2 + (nI 1))), (0, .ref (ad 9 0)), (1, .int x1)]) hx hb dX6_addBlock_81 hl (k := 2) rfl rfl (by decide) rfl (fun ls hl => ?_)
        refine lv_goto (tgt := 64) hx hb dX6_addBlock_84 (by decide) ?_
        exact ih m5 x1 (x2 + (nI 1)) h H locs hw hS ls (lv_sub hl [1, 2, 0] rfl)
  unfold f_X6_addBlock at h
  have main : JL p l e ({ frames := 6, cells := 0, slots := 0, locals := 137 } : Room) s md args below meth c D cy ad (MQ below (QI D cy ad r (gs M0 9 x)) args s 0 0 (AD ad)) (gs M0 9 m) 3 [(0, .ref (ad 9 0))] 0 [] := by
    intro H locs hw hS ls hl
    refine lv_aload_n hx hb dX6_addBlock_0 rfl (lv_at hl 0 rfl) ?_
    obtain ⟨r2, m3, y1, h⟩ := t_bd h
    refine c_vi hx hb hml hown hts hK hw hS (fun _ h => h) (As := []) (rest := []) (c_X6_readText hcv (M0 := gs M0 9 m) (m := m) (hm := gs_at) y1) cf_X6_readText k_635 rfl rfl ⟨Nat.le_of_ble_eq_true rfl, Nat.le_of_ble_eq_true rfl⟩ (r_recv hK hw (v_md (by decide)) E_md rfl) rfl hl.1 rfl (Nat.le_of_ble_eq_true rfl) ⟨Nat.le_refl _, Nat.le_refl _⟩ dX6_addBlock_1 (fun H locs hw hS => ?_)
    rw [gs_gs] at hw
    refine lv_bipush (v := -5) hx hb dX6_addBlock_4 (by decide) ?_
    refine lv_icmp_eq (tgt := 17) hx hb dX6_addBlock_6 (by decide) (fun q4 => ?_) (fun q4 => ?_)
    · replace h := t_pos h q4
      refine lv_aload_n hx hb dX6_addBlock_17 rfl (lv_at hl 0 rfl) ?_
      obtain ⟨r6, y5, h⟩ := t_b1 h
      refine c_vi hx hb hml hown hts hK hw hS (fun _ h => h) (As := []) (rest := []) (c_X6_areWithin hcv (M0 := gs M0 9 m3) (m := m3) (hm := gs_at) y5) cf_X6_areWithin k_659 rfl rfl ⟨Nat.le_of_ble_eq_true rfl, Nat.le_of_ble_eq_true rfl⟩ (r_recv hK hw (v_md (by decide)) E_md rfl) rfl hl.1 rfl (Nat.le_of_ble_eq_true rfl) ⟨Nat.le_refl _, Nat.le_refl _⟩ dX6_addBlock_18 (fun H locs hw hS => ?_)
      refine lv_if_ne (tgt := 27) hx hb dX6_addBlock_21 (by decide) (fun q7 => ?_) (fun q7 => ?_)
      · replace h := t_neg h q7
        refine lv_aload_n hx hb dX6_addBlock_27 rfl (lv_at hl 0 rfl) ?_
        refine r_get hx hb hts hown hK hw (v_md (by decide)) gs_atc E_md inX6 rfl 0 (by decide) k_544 rfl rfl dX6_addBlock_28 ?_
        refine lv_iconst (v := nI 0) hx hb dX6_addBlock_31 (by decide) ?_
        obtain ⟨q8, h⟩ := t_gd h
        refine r_iald hx hb hK hw (v_md (by decide)) gs_atc E_m1 q8 dX6_addBlock_32 ?_
        refine lv_bipush (v := nI 8) hx hb dX6_addBlock_33 (by decide) ?_
        refine lv_icmp_ne (tgt := 41) hx hb dX6_addBlock_35 (by decide) (fun q9 => ?_) (fun q9 => ?_)
        · replace h := t_neg h q9
          refine lv_aload_n hx hb dX6_addBlock_41 rfl (lv_at hl 0 rfl) ?_
          obtain ⟨r11, m12, y10, h⟩ := t_bd h
          refine c_vv hx hb hml hown hts hK hw hS (fun _ h => h) (As := []) (rest := []) (c_X6_record hcv (M0 := gs M0 9 m3) (m := m3) (hm := gs_at) y10) cf_X6_record k_619 rfl rfl ⟨Nat.le_of_ble_eq_true rfl, Nat.le_of_ble_eq_true rfl⟩ (r_recv hK hw (v_md (by decide)) E_md rfl) rfl hl.1 rfl (Nat.le_of_ble_eq_true rfl) ⟨Nat.le_refl _, Nat.le_refl _⟩ dX6_addBlock_42 (fun H locs hw hS => ?_)
          rw [gs_gs] at hw
          refine lv_aload_n hx hb dX6_addBlock_45 rfl (lv_at hl 0 rfl) ?_
          refine r_get hx hb hts hown hK hw (v_md (by decide)) gs_atc E_md inX6 rfl 0 (by decide) k_544 rfl rfl dX6_addBlock_46 ?_
          refine lv_iconst (v := nI 0) hx hb dX6_addBlock_49 (by decide) ?_
          obtain ⟨q13, h⟩ := t_gd h
          refine r_iald hx hb hK hw (v_md (by decide)) gs_atc E_m1 q13 dX6_addBlock_50 ?_
          refine lv_istore_n (lv' := [(1, .int (m12 1 (nI 0).toNatClampNeg)), (0, .ref (ad 9 0))]) hx hb dX6_addBlock_51 rfl hl (by decide) rfl (fun ls hl => ?_)
          refine lv_aload_n hx hb dX6_addBlock_52 rfl (lv_at hl 1 rfl) ?_
          refine r_get hx hb hts hown hK hw (v_md (by decide)) gs_atc E_md inX6 rfl 0 (by decide) k_544 rfl rfl dX6_addBlock_53 ?_
          refine lv_iconst (v := nI 0) hx hb dX6_addBlock_56 (by decide) ?_
          refine lv_dup2_11 hx hb dX6_addBlock_57 rfl rfl ?_
          obtain ⟨q14, h⟩ := t_gd h
          refine r_iald hx hb hK hw (v_md (by decide)) gs_atc E_m1 q14 dX6_addBlock_58 ?_
          refine lv_iconst (v := nI 1) hx hb dX6_addBlock_59 (by decide) ?_
          refine lv_iadd hx hb dX6_addBlock_60 ?_
          obtain ⟨q15, h⟩ := t_gd h
          obtain ⟨m17, e16, h⟩ := t_lt h
          refine r_iast hx hb hK hcv hw hS (v_md (by decide)) gs_atc (fun _ => E_m1) q15 (gs_up e16) dX6_addBlock_61 (fun H locs hw hS => ?_)
          refine lv_iconst (v := nI 0) hx hb dX6_addBlock_62 (by decide) ?_
          refine lv_istore_n (lv' := [(2, .int (nI 0)), (1, .int (m12 1 (nI 0).toNatClampNeg)), (0, .ref (ad 9 0))]) hx hb dX6_addBlock_63 rfl hl (by decide) rfl (fun ls hl => ?_)
          exact L64 FU m17 (m12 1 (nI 0).toNatClampNeg) (nI 0) h H locs hw hS ls (lv_sub hl [2, 1, 0] rfl)
        · replace h := t_pos h q9
          refine lv_bipush (v := -3) hx hb dX6_addBlock_38 (by decide) ?_
          have e1 := (t_ret h).1
          have e2 := (t_ret h).2
          exact e_i hx hb hr hlk hw hS e1 (by rw [e2]) dX6_addBlock_40
      · replace h := t_pos h q7
        refine lv_bipush (v := -2) hx hb dX6_addBlock_24 (by decide) ?_
        have e1 := (t_ret h).1
        have e2 := (t_ret h).2
        exact e_i hx hb hr hlk hw hS e1 (by rw [e2]) dX6_addBlock_26
    · replace h := t_neg h q4
      refine lv_bipush (v := -100) hx hb dX6_addBlock_9 (by decide) ?_
      refine lv_aload_n hx hb dX6_addBlock_11 rfl (lv_at hl 0 rfl) ?_
      refine r_get hx hb hts hown hK hw (v_md (by decide)) gs_atc E_md inX6 rfl 17 (by decide) k_561 rfl rfl dX6_addBlock_12 ?_
      refine lv_isub hx hb dX6_addBlock_15 ?_
      have e1 := (t_ret h).1
      have e2 := (t_ret h).2
      exact e_i hx hb hr hlk hw hS e1 (by rw [e2]) dX6_addBlock_16
  exact main _ _ hw hS ls hl

theorem cf_X6_addRow : cfV RX6 yX6_addRow cX6_addRow 4 (some .int) 2 := ⟨⟨k_715, k_716, k_7, k_717⟩, by decide +kernel⟩
def f_X6_addRow (m : SM) (p0 : Int32) (p1 : Int32) : Option (Int32 × SM) :=
  b1 (f_X6_isBlock m p0) fun r2 => (if r2 = (nI 0) then some ((-1 : Int32), m) else b1 (f_X6_of m p0 (nI 1)) fun r5 => b1 (f_X6_of m p0 (nI 2)) fun r7 => b1 (f_X6_in p1 r5 r7) fun r9 => (if r9 = (nI 0) then some ((-2 : Int32), m) else b1 (f_X6_of m p0 (nI 3)) fun r12 => (if r12 = (nI 16) then some ((-3 : Int32), m) else bd (f_X6_record m) fun r15 m16 => bd (f_X6_put m16 p0 ((nI 5) + r12) p1) fun r18 m19 => bd (f_X6_put m19 p0 (nI 3) (r12 + (nI 1))) fun r21 m22 => bd (f_X6_settle m22) fun r24 m25 => some ((r12 + (nI 1)), m25))))
set_option maxHeartbeats 4000000 in
set_option maxRecDepth 100000 in
theorem c_X6_addRow {l : Launch} {D : va_G} {cy : Nat → ClassId} {ad : Nat → Nat → Nat} (hcv : CV ad) {M0 : MM} {m : SM} (hm : M0 9 = m) {p0 p1 : Int32} {r : Int32} {x : SM} (h : f_X6_addRow m p0 p1 = some (r, x)) : Met l yX6_addRow (.code yX6_addRow cX6_addRow 4 (some .int) :: TB) ({ frames := 6, cells := 0, slots := 0, locals := 137 } : Room) (PW D cy ad M0 [.ref (ad 9 0), .int p0, .int p1]) (QI D cy ad r (gs M0 9 x)) 0 0 (AD ad) := by
  refine m_in (by decide +kernel) (Nat.le_of_ble_eq_true rfl) ?_
  intro p e s md args below meth c hC hw hS ls hl
  obtain ⟨hx, hb, hr, hml, hown, hts, hK, hlk⟩ := hC
  have hl : lv_has ls 4 [(0, .ref (ad 9 0)), (1, .int p0), (2, .int p1)] := hl
  rw [← gs_same hm] at hw
  unfold f_X6_addRow at h
  have main : JL p l e ({ frames := 6, cells := 0, slots := 0, locals := 137 } : Room) s md args below meth c D cy ad (MQ below (QI D cy ad r (gs M0 9 x)) args s 0 0 (AD ad)) (gs M0 9 m) 4 [(0, .ref (ad 9 0)), (1, .int p0), (2, .int p1)] 0 [] := by
    intro H locs hw hS ls hl
    refine lv_aload_n hx hb dX6_addRow_0 rfl (lv_at hl 0 rfl) ?_
    refine lv_iload_n hx hb dX6_addRow_1 rfl (lv_at hl 1 rfl) ?_
    obtain ⟨r2, y1, h⟩ := t_b1 h
    refine c_vi hx hb hml hown hts hK hw hS (fun _ h => h) (As := [.int p0]) (rest := []) (c_X6_isBlock hcv (M0 := gs M0 9 m) (m := m) (hm := gs_at) y1) cf_X6_isBlock k_718 rfl rfl ⟨Nat.le_of_ble_eq_true rfl, Nat.le_of_ble_eq_true rfl⟩ (r_recv hK hw (v_md (by decide)) E_md rfl) rfl hl.1 rfl (Nat.le_of_ble_eq_true rfl) ⟨Nat.le_refl _, Nat.le_refl _⟩ dX6_addRow_2 (fun H locs hw hS => ?_)
    refine lv_if_ne (tgt := 10) hx hb dX6_addRow_5 (by decide) (fun q3 => ?_) (fun q3 => ?_)
    · replace h := t_neg h q3
      refine lv_iload_n hx hb dX6_addRow_10 rfl (lv_at hl 2 rfl) ?_
      refine lv_aload_n hx hb dX6_addRow_11 rfl (lv_at hl 0 rfl) ?_
      refine lv_iload_n hx hb dX6_addRow_12 rfl (lv_at hl 1 rfl) ?_
      refine lv_iconst (v := nI 1) hx hb dX6_addRow_13 (by decide) ?_
      obtain ⟨r5, y4, h⟩ := t_b1 h
      refine c_vi hx hb hml hown hts hK hw hS (fun _ h => h) (As := [.int p0, .int (nI 1)]) (rest := [.int p1]) (c_X6_of hcv (M0 := gs M0 9 m) (m := m) (hm := gs_at) y4) cf_X6_of k_611 rfl rfl ⟨Nat.le_of_ble_eq_true rfl, Nat.le_of_ble_eq_true rfl⟩ (r_recv hK hw (v_md (by decide)) E_md rfl) rfl hl.1 rfl (Nat.le_of_ble_eq_true rfl) ⟨Nat.le_refl _, Nat.le_refl _⟩ dX6_addRow_14 (fun H locs hw hS => ?_)
      refine lv_aload_n hx hb dX6_addRow_17 rfl (lv_at hl 0 rfl) ?_
      refine lv_iload_n hx hb dX6_addRow_18 rfl (lv_at hl 1 rfl) ?_
      refine lv_iconst (v := nI 2) hx hb dX6_addRow_19 (by decide) ?_
      obtain ⟨r7, y6, h⟩ := t_b1 h
      refine c_vi hx hb hml hown hts hK hw hS (fun _ h => h) (As := [.int p0, .int (nI 2)]) (rest := [.int r5, .int p1]) (c_X6_of hcv (M0 := gs M0 9 m) (m := m) (hm := gs_at) y6) cf_X6_of k_611 rfl rfl ⟨Nat.le_of_ble_eq_true rfl, Nat.le_of_ble_eq_true rfl⟩ (r_recv hK hw (v_md (by decide)) E_md rfl) rfl hl.1 rfl (Nat.le_of_ble_eq_true rfl) ⟨Nat.le_refl _, Nat.le_refl _⟩ dX6_addRow_20 (fun H locs hw hS => ?_)
      obtain ⟨r9, y8, h⟩ := t_b1 h
      refine c_si hx hb hml hown hts hK hw hS (fun _ h => h) (As := [.int p1, .int r5, .int r7]) (rest := []) (c_X6_in hcv (M0 := gs M0 9 m) y8) cf_X6_in k_663 rfl rfl ⟨Nat.le_of_ble_eq_true rfl, Nat.le_of_ble_eq_true rfl⟩ rfl hl.1 rfl (Nat.le_of_ble_eq_true rfl) ⟨Nat.le_refl _, Nat.le_refl _⟩ dX6_addRow_23 (fun H locs hw hS => ?_)
      refine lv_if_ne (tgt := 32) hx hb dX6_addRow_26 (by decide) (fun q10 => ?_) (fun q10 => ?_)
      · replace h := t_neg h q10
        refine lv_aload_n hx hb dX6_addRow_32 rfl (lv_at hl 0 rfl) ?_
        refine lv_iload_n hx hb dX6_addRow_33 rfl (lv_at hl 1 rfl) ?_
        refine lv_iconst (v := nI 3) hx hb dX6_addRow_34 (by decide) ?_
        obtain ⟨r12, y11, h⟩ := t_b1 h
        refine c_vi hx hb hml hown hts hK hw hS (fun _ h => h) (As := [.int p0, .int (nI 3)]) (rest := []) (c_X6_of hcv (M0 := gs M0 9 m) (m := m) (hm := gs_at) y11) cf_X6_of k_611 rfl rfl ⟨Nat.le_of_ble_eq_true rfl, Nat.le_of_ble_eq_true rfl⟩ (r_recv hK hw (v_md (by decide)) E_md rfl) rfl hl.1 rfl (Nat.le_of_ble_eq_true rfl) ⟨Nat.le_refl _, Nat.le_refl _⟩ dX6_addRow_35 (fun H locs hw hS => ?_)
        refine lv_istore_n (lv' := [(3, .int r12), (0, .ref (ad 9 0)), (1, .int p0), (2, .int p1)]) hx hb dX6_addRow_38 rfl hl (by decide) rfl (fun ls hl => ?_)
        refine lv_iload_n hx hb dX6_addRow_39 rfl (lv_at hl 0 rfl) ?_
        refine lv_bipush (v := nI 16) hx hb dX6_addRow_40 (by decide) ?_
        refine lv_icmp_ne (tgt := 48) hx hb dX6_addRow_42 (by decide) (fun q13 => ?_) (fun q13 => ?_)
        · replace h := t_neg h q13
          refine lv_aload_n hx hb dX6_addRow_48 rfl (lv_at hl 1 rfl) ?_
          obtain ⟨r15, m16, y14, h⟩ := t_bd h
          refine c_vv hx hb hml hown hts hK hw hS (fun _ h => h) (As := []) (rest := []) (c_X6_record hcv (M0 := gs M0 9 m) (m := m) (hm := gs_at) y14) cf_X6_record k_619 rfl rfl ⟨Nat.le_of_ble_eq_true rfl, Nat.le_of_ble_eq_true rfl⟩ (r_recv hK hw (v_md (by decide)) E_md rfl) rfl hl.1 rfl (Nat.le_of_ble_eq_true rfl) ⟨Nat.le_refl _, Nat.le_refl _⟩ dX6_addRow_49 (fun H locs hw hS => ?_)
          rw [gs_gs] at hw
          refine lv_aload_n hx hb dX6_addRow_52 rfl (lv_at hl 1 rfl) ?_
          refine lv_iload_n hx hb dX6_addRow_53 rfl (lv_at hl 2 rfl) ?_
          refine lv_iconst (v := nI 5) hx hb dX6_addRow_54 (by decide) ?_
          refine lv_iload_n hx hb dX6_addRow_55 rfl (lv_at hl 0 rfl) ?_
          refine lv_iadd hx hb dX6_addRow_56 ?_
          refine lv_iload_n hx hb dX6_addRow_57 rfl (lv_at hl 3 rfl) ?_
          obtain ⟨r18, m19, y17, h⟩ := t_bd h
          refine c_vv hx hb hml hown hts hK hw hS (fun _ h => h) (As := [.int p0, .int ((nI 5) + r12), .int p1]) (rest := []) (c_X6_put hcv (M0 := gs M0 9 m16) (m := m16) (hm := gs_at) y17) cf_X6_put k_666 rfl rfl ⟨Nat.le_of_ble_eq_true rfl, Nat.le_of_ble_eq_true rfl⟩ (r_recv hK hw (v_md (by decide)) E_md rfl) rfl hl.1 rfl (Nat.le_of_ble_eq_true rfl) ⟨Nat.le_refl _, Nat.le_refl _⟩ dX6_addRow_58 (fun H locs hw hS => ?_)
          rw [gs_gs] at hw
          refine lv_aload_n hx hb dX6_addRow_61 rfl (lv_at hl 1 rfl) ?_
          refine lv_iload_n hx hb dX6_addRow_62 rfl (lv_at hl 2 rfl) ?_
          refine lv_iconst (v := nI 3) hx hb dX6_addRow_63 (by decide) ?_
          refine lv_iload_n hx hb dX6_addRow_64 rfl (lv_at hl 0 rfl) ?_
          refine lv_iconst (v := nI 1) hx hb dX6_addRow_65 (by decide) ?_
          refine lv_iadd hx hb dX6_addRow_66 ?_
          obtain ⟨r21, m22, y20, h⟩ := t_bd h
          refine c_vv hx hb hml hown hts hK hw hS (fun _ h => h) (As := [.int p0, .int (nI 3), .int (r12 + (nI 1))]) (rest := []) (c_X6_put hcv (M0 := gs M0 9 m19) (m := m19) (hm := gs_at) y20) cf_X6_put k_666 rfl rfl ⟨Nat.le_of_ble_eq_true rfl, Nat.le_of_ble_eq_true rfl⟩ (r_recv hK hw (v_md (by decide)) E_md rfl) rfl hl.1 rfl (Nat.le_of_ble_eq_true rfl) ⟨Nat.le_refl _, Nat.le_refl _⟩ dX6_addRow_67 (fun H locs hw hS => ?_)
          rw [gs_gs] at hw
          refine lv_aload_n hx hb dX6_addRow_70 rfl (lv_at hl 1 rfl) ?_
          obtain ⟨r24, m25, y23, h⟩ := t_bd h
          refine c_vv hx hb hml hown hts hK hw hS (fun _ h => h) (As := []) (rest := []) (c_X6_settle hcv (M0 := gs M0 9 m22) (m := m22) (hm := gs_at) y23) cf_X6_settle k_670 rfl rfl ⟨Nat.le_of_ble_eq_true rfl, Nat.le_of_ble_eq_true rfl⟩ (r_recv hK hw (v_md (by decide)) E_md rfl) rfl hl.1 rfl (Nat.le_of_ble_eq_true rfl) ⟨Nat.le_refl _, Nat.le_refl _⟩ dX6_addRow_71 (fun H locs hw hS => ?_)
          rw [gs_gs] at hw
          refine lv_iload_n hx hb dX6_addRow_74 rfl (lv_at hl 0 rfl) ?_
          refine lv_iconst (v := nI 1) hx hb dX6_addRow_75 (by decide) ?_
          refine lv_iadd hx hb dX6_addRow_76 ?_
          have e1 := (t_ret h).1
          have e2 := (t_ret h).2
          exact e_i hx hb hr hlk hw hS e1 (by rw [e2]) dX6_addRow_77
        · replace h := t_pos h q13
          refine lv_bipush (v := -3) hx hb dX6_addRow_45 (by decide) ?_
          have e1 := (t_ret h).1
          have e2 := (t_ret h).2
          exact e_i hx hb hr hlk hw hS e1 (by rw [e2]) dX6_addRow_47
      · replace h := t_pos h q10
        refine lv_bipush (v := -2) hx hb dX6_addRow_29 (by decide) ?_
        have e1 := (t_ret h).1
        have e2 := (t_ret h).2
        exact e_i hx hb hr hlk hw hS e1 (by rw [e2]) dX6_addRow_31
    · replace h := t_pos h q3
      refine lv_iconst (v := -1) hx hb dX6_addRow_8 (by decide) ?_
      have e1 := (t_ret h).1
      have e2 := (t_ret h).2
      exact e_i hx hb hr hlk hw hS e1 (by rw [e2]) dX6_addRow_9
  exact main _ _ hw hS ls hl

theorem cf_X6_change : cfV RX6 yX6_change cX6_change 4 (some .int) 3 := ⟨⟨k_723, k_724, k_7, k_725⟩, by decide +kernel⟩
def f_X6_change (m : SM) (p0 : Int32) (p1 : Int32) (p2 : Int32) : Option (Int32 × SM) :=
  b1 (f_X6_isBlock m p0) fun r2 => (if r2 = (nI 0) then some ((-1 : Int32), m) else (if p1 < (nI 0) then some ((-1 : Int32), m) else b1 (f_X6_of m p0 (nI 3)) fun r6 => (if p1 < r6 then b1 (f_X6_of m p0 (nI 1)) fun r9 => b1 (f_X6_of m p0 (nI 2)) fun r11 => b1 (f_X6_in p2 r9 r11) fun r13 => (if r13 = (nI 0) then some ((-2 : Int32), m) else b1 (f_X6_of m p0 ((nI 5) + p1)) fun r16 => (if r16 = p2 then some ((-5 : Int32), m) else bd (f_X6_record m) fun r19 m20 => bd (f_X6_put m20 p0 ((nI 5) + p1) p2) fun r22 m23 => bd (f_X6_settle m23) fun r25 m26 => b1 (f_X6_of m26 p0 (nI 4)) fun r28 => (if r28 ≤ p1 then some ((nI 0), m26) else some ((nI 1), m26)))) else some ((-1 : Int32), m))))
set_option maxHeartbeats 4000000 in
set_option maxRecDepth 100000 in
theorem c_X6_change {l : Launch} {D : va_G} {cy : Nat → ClassId} {ad : Nat → Nat → Nat} (hcv : CV ad) {M0 : MM} {m : SM} (hm : M0 9 = m) {p0 p1 p2 : Int32} {r : Int32} {x : SM} (h : f_X6_change m p0 p1 p2 = some (r, x)) : Met l yX6_change (.code yX6_change cX6_change 4 (some .int) :: TB) ({ frames := 6, cells := 0, slots := 0, locals := 137 } : Room) (PW D cy ad M0 [.ref (ad 9 0), .int p0, .int p1, .int p2]) (QI D cy ad r (gs M0 9 x)) 0 0 (AD ad) := by
  refine m_in (by decide +kernel) (Nat.le_of_ble_eq_true rfl) ?_
  intro p e s md args below meth c hC hw hS ls hl
  obtain ⟨hx, hb, hr, hml, hown, hts, hK, hlk⟩ := hC
  have hl : lv_has ls 4 [(0, .ref (ad 9 0)), (1, .int p0), (2, .int p1), (3, .int p2)] := hl
  rw [← gs_same hm] at hw
  unfold f_X6_change at h
  have main : JL p l e ({ frames := 6, cells := 0, slots := 0, locals := 137 } : Room) s md args below meth c D cy ad (MQ below (QI D cy ad r (gs M0 9 x)) args s 0 0 (AD ad)) (gs M0 9 m) 4 [(0, .ref (ad 9 0)), (1, .int p0), (2, .int p1), (3, .int p2)] 0 [] := by
    intro H locs hw hS ls hl
    refine lv_aload_n hx hb dX6_change_0 rfl (lv_at hl 0 rfl) ?_
    refine lv_iload_n hx hb dX6_change_1 rfl (lv_at hl 1 rfl) ?_
    obtain ⟨r2, y1, h⟩ := t_b1 h
    refine c_vi hx hb hml hown hts hK hw hS (fun _ h => h) (As := [.int p0]) (rest := []) (c_X6_isBlock hcv (M0 := gs M0 9 m) (m := m) (hm := gs_at) y1) cf_X6_isBlock k_718 rfl rfl ⟨Nat.le_of_ble_eq_true rfl, Nat.le_of_ble_eq_true rfl⟩ (r_recv hK hw (v_md (by decide)) E_md rfl) rfl hl.1 rfl (Nat.le_of_ble_eq_true rfl) ⟨Nat.le_refl _, Nat.le_refl _⟩ dX6_change_2 (fun H locs hw hS => ?_)
    refine lv_if_eq (tgt := 22) hx hb dX6_change_5 (by decide) (fun q3 => ?_) (fun q3 => ?_)
    · replace h := t_pos h q3
      refine lv_iconst (v := -1) hx hb dX6_change_22 (by decide) ?_
      have e1 := (t_ret h).1
      have e2 := (t_ret h).2
      exact e_i hx hb hr hlk hw hS e1 (by rw [e2]) dX6_change_23
    · replace h := t_neg h q3
      refine lv_iload_n hx hb dX6_change_8 rfl (lv_at hl 2 rfl) ?_
      refine lv_if_lt (tgt := 22) hx hb dX6_change_9 (by decide) (fun q4 => ?_) (fun q4 => ?_)
      · replace h := t_pos h q4
        refine lv_iconst (v := -1) hx hb dX6_change_22 (by decide) ?_
        have e1 := (t_ret h).1
        have e2 := (t_ret h).2
        exact e_i hx hb hr hlk hw hS e1 (by rw [e2]) dX6_change_23
      · replace h := t_neg h q4
        refine lv_iload_n hx hb dX6_change_12 rfl (lv_at hl 2 rfl) ?_
        refine lv_aload_n hx hb dX6_change_13 rfl (lv_at hl 0 rfl) ?_
        refine lv_iload_n hx hb dX6_change_14 rfl (lv_at hl 1 rfl) ?_
        refine lv_iconst (v := nI 3) hx hb dX6_change_15 (by decide) ?_
        obtain ⟨r6, y5, h⟩ := t_b1 h
        refine c_vi hx hb hml hown hts hK hw hS (fun _ h => h) (As := [.int p0, .int (nI 3)]) (rest := [.int p1]) (c_X6_of hcv (M0 := gs M0 9 m) (m := m) (hm := gs_at) y5) cf_X6_of k_611 rfl rfl ⟨Nat.le_of_ble_eq_true rfl, Nat.le_of_ble_eq_true rfl⟩ (r_recv hK hw (v_md (by decide)) E_md rfl) rfl hl.1 rfl (Nat.le_of_ble_eq_true rfl) ⟨Nat.le_refl _, Nat.le_refl _⟩ dX6_change_16 (fun H locs hw hS => ?_)
        refine lv_icmp_lt (tgt := 24) hx hb dX6_change_19 (by decide) (fun q7 => ?_) (fun q7 => ?_)
        · replace h := t_pos h q7
          refine lv_iload_n hx hb dX6_change_24 rfl (lv_at hl 3 rfl) ?_
          refine lv_aload_n hx hb dX6_change_25 rfl (lv_at hl 0 rfl) ?_
          refine lv_iload_n hx hb dX6_change_26 rfl (lv_at hl 1 rfl) ?_
          refine lv_iconst (v := nI 1) hx hb dX6_change_27 (by decide) ?_
          obtain ⟨r9, y8, h⟩ := t_b1 h
          refine c_vi hx hb hml hown hts hK hw hS (fun _ h => h) (As := [.int p0, .int (nI 1)]) (rest := [.int p2]) (c_X6_of hcv (M0 := gs M0 9 m) (m := m) (hm := gs_at) y8) cf_X6_of k_611 rfl rfl ⟨Nat.le_of_ble_eq_true rfl, Nat.le_of_ble_eq_true rfl⟩ (r_recv hK hw (v_md (by decide)) E_md rfl) rfl hl.1 rfl (Nat.le_of_ble_eq_true rfl) ⟨Nat.le_refl _, Nat.le_refl _⟩ dX6_change_28 (fun H locs hw hS => ?_)
          refine lv_aload_n hx hb dX6_change_31 rfl (lv_at hl 0 rfl) ?_
          refine lv_iload_n hx hb dX6_change_32 rfl (lv_at hl 1 rfl) ?_
          refine lv_iconst (v := nI 2) hx hb dX6_change_33 (by decide) ?_
          obtain ⟨r11, y10, h⟩ := t_b1 h
          refine c_vi hx hb hml hown hts hK hw hS (fun _ h => h) (As := [.int p0, .int (nI 2)]) (rest := [.int r9, .int p2]) (c_X6_of hcv (M0 := gs M0 9 m) (m := m) (hm := gs_at) y10) cf_X6_of k_611 rfl rfl ⟨Nat.le_of_ble_eq_true rfl, Nat.le_of_ble_eq_true rfl⟩ (r_recv hK hw (v_md (by decide)) E_md rfl) rfl hl.1 rfl (Nat.le_of_ble_eq_true rfl) ⟨Nat.le_refl _, Nat.le_refl _⟩ dX6_change_34 (fun H locs hw hS => ?_)
          obtain ⟨r13, y12, h⟩ := t_b1 h
          refine c_si hx hb hml hown hts hK hw hS (fun _ h => h) (As := [.int p2, .int r9, .int r11]) (rest := []) (c_X6_in hcv (M0 := gs M0 9 m) y12) cf_X6_in k_663 rfl rfl ⟨Nat.le_of_ble_eq_true rfl, Nat.le_of_ble_eq_true rfl⟩ rfl hl.1 rfl (Nat.le_of_ble_eq_true rfl) ⟨Nat.le_refl _, Nat.le_refl _⟩ dX6_change_37 (fun H locs hw hS => ?_)
          refine lv_if_ne (tgt := 46) hx hb dX6_change_40 (by decide) (fun q14 => ?_) (fun q14 => ?_)
          · replace h := t_neg h q14
            refine lv_aload_n hx hb dX6_change_46 rfl (lv_at hl 0 rfl) ?_
            refine lv_iload_n hx hb dX6_change_47 rfl (lv_at hl 1 rfl) ?_
            refine lv_iconst (v := nI 5) hx hb dX6_change_48 (by decide) ?_
            refine lv_iload_n hx hb dX6_change_49 rfl (lv_at hl 2 rfl) ?_
            refine lv_iadd hx hb dX6_change_50 ?_
            obtain ⟨r16, y15, h⟩ := t_b1 h
            refine c_vi hx hb hml hown hts hK hw hS (fun _ h => h) (As := [.int p0, .int ((nI 5) + p1)]) (rest := []) (c_X6_of hcv (M0 := gs M0 9 m) (m := m) (hm := gs_at) y15) cf_X6_of k_611 rfl rfl ⟨Nat.le_of_ble_eq_true rfl, Nat.le_of_ble_eq_true rfl⟩ (r_recv hK hw (v_md (by decide)) E_md rfl) rfl hl.1 rfl (Nat.le_of_ble_eq_true rfl) ⟨Nat.le_refl _, Nat.le_refl _⟩ dX6_change_51 (fun H locs hw hS => ?_)
            refine lv_iload_n hx hb dX6_change_54 rfl (lv_at hl 3 rfl) ?_
            refine lv_icmp_ne (tgt := 61) hx hb dX6_change_55 (by decide) (fun q17 => ?_) (fun q17 => ?_)
            · replace h := t_neg h q17
              refine lv_aload_n hx hb dX6_change_61 rfl (lv_at hl 0 rfl) ?_
              obtain ⟨r19, m20, y18, h⟩ := t_bd h
              refine c_vv hx hb hml hown hts hK hw hS (fun _ h => h) (As := []) (rest := []) (c_X6_record hcv (M0 := gs M0 9 m) (m := m) (hm := gs_at) y18) cf_X6_record k_619 rfl rfl ⟨Nat.le_of_ble_eq_true rfl, Nat.le_of_ble_eq_true rfl⟩ (r_recv hK hw (v_md (by decide)) E_md rfl) rfl hl.1 rfl (Nat.le_of_ble_eq_true rfl) ⟨Nat.le_refl _, Nat.le_refl _⟩ dX6_change_62 (fun H locs hw hS => ?_)
              rw [gs_gs] at hw
              refine lv_aload_n hx hb dX6_change_65 rfl (lv_at hl 0 rfl) ?_
              refine lv_iload_n hx hb dX6_change_66 rfl (lv_at hl 1 rfl) ?_
              refine lv_iconst (v := nI 5) hx hb dX6_change_67 (by decide) ?_
              refine lv_iload_n hx hb dX6_change_68 rfl (lv_at hl 2 rfl) ?_
              refine lv_iadd hx hb dX6_change_69 ?_
              refine lv_iload_n hx hb dX6_change_70 rfl (lv_at hl 3 rfl) ?_
              obtain ⟨r22, m23, y21, h⟩ := t_bd h
              refine c_vv hx hb hml hown hts hK hw hS (fun _ h => h) (As := [.int p0, .int ((nI 5) + p1), .int p2]) (rest := []) (c_X6_put hcv (M0 := gs M0 9 m20) (m := m20) (hm := gs_at) y21) cf_X6_put k_666 rfl rfl ⟨Nat.le_of_ble_eq_true rfl, Nat.le_of_ble_eq_true rfl⟩ (r_recv hK hw (v_md (by decide)) E_md rfl) rfl hl.1 rfl (Nat.le_of_ble_eq_true rfl) ⟨Nat.le_refl _, Nat.le_refl _⟩ dX6_change_71 (fun H locs hw hS => ?_)
              rw [gs_gs] at hw
              refine lv_aload_n hx hb dX6_change_74 rfl (lv_at hl 0 rfl) ?_
              obtain ⟨r25, m26, y24, h⟩ := t_bd h
              refine c_vv hx hb hml hown hts hK hw hS (fun _ h => h) (As := []) (rest := []) (c_X6_settle hcv (M0 := gs M0 9 m23) (m := m23) (hm := gs_at) y24) cf_X6_settle k_670 rfl rfl ⟨Nat.le_of_ble_eq_true rfl, Nat.le_of_ble_eq_true rfl⟩ (r_recv hK hw (v_md (by decide)) E_md rfl) rfl hl.1 rfl (Nat.le_of_ble_eq_true rfl) ⟨Nat.le_refl _, Nat.le_refl _⟩ dX6_change_75 (fun H locs hw hS => ?_)
              rw [gs_gs] at hw
              refine lv_iload_n hx hb dX6_change_78 rfl (lv_at hl 2 rfl) ?_
              refine lv_aload_n hx hb dX6_change_79 rfl (lv_at hl 0 rfl) ?_
              refine lv_iload_n hx hb dX6_change_80 rfl (lv_at hl 1 rfl) ?_
              refine lv_iconst (v := nI 4) hx hb dX6_change_81 (by decide) ?_
              obtain ⟨r28, y27, h⟩ := t_b1 h
              refine c_vi hx hb hml hown hts hK hw hS (fun _ h => h) (As := [.int p0, .int (nI 4)]) (rest := [.int p1]) (c_X6_of hcv (M0 := gs M0 9 m26) (m := m26) (hm := gs_at) y27) cf_X6_of k_611 rfl rfl ⟨Nat.le_of_ble_eq_true rfl, Nat.le_of_ble_eq_true rfl⟩ (r_recv hK hw (v_md (by decide)) E_md rfl) rfl hl.1 rfl (Nat.le_of_ble_eq_true rfl) ⟨Nat.le_refl _, Nat.le_refl _⟩ dX6_change_82 (fun H locs hw hS => ?_)
              refine lv_icmp_ge (tgt := 92) hx hb dX6_change_85 (by decide) (fun q29 => ?_) (fun q29 => ?_)
              · replace h := t_pos h q29
                refine lv_iconst (v := nI 0) hx hb dX6_change_92 (by decide) ?_
                have e1 := (t_ret h).1
                have e2 := (t_ret h).2
                exact e_i hx hb hr hlk hw hS e1 (by rw [e2]) dX6_change_93
              · replace h := t_neg h q29
                refine lv_iconst (v := nI 1) hx hb dX6_change_88 (by decide) ?_
                refine lv_goto (tgt := 93) hx hb dX6_change_89 (by decide) ?_
                have e1 := (t_ret h).1
                have e2 := (t_ret h).2
                exact e_i hx hb hr hlk hw hS e1 (by rw [e2]) dX6_change_93
            · replace h := t_pos h q17
              refine lv_bipush (v := -5) hx hb dX6_change_58 (by decide) ?_
              have e1 := (t_ret h).1
              have e2 := (t_ret h).2
              exact e_i hx hb hr hlk hw hS e1 (by rw [e2]) dX6_change_60
          · replace h := t_pos h q14
            refine lv_bipush (v := -2) hx hb dX6_change_43 (by decide) ?_
            have e1 := (t_ret h).1
            have e2 := (t_ret h).2
            exact e_i hx hb hr hlk hw hS e1 (by rw [e2]) dX6_change_45
        · replace h := t_neg h q7
          refine lv_iconst (v := -1) hx hb dX6_change_22 (by decide) ?_
          have e1 := (t_ret h).1
          have e2 := (t_ret h).2
          exact e_i hx hb hr hlk hw hS e1 (by rw [e2]) dX6_change_23
  exact main _ _ hw hS ls hl

theorem cf_X6_narrow : cfV RX6 yX6_narrow cX6_narrow 6 (some .int) 1 := ⟨⟨k_727, k_728, k_7, k_729⟩, by decide +kernel⟩
def f_X6_narrow_L61 (k27 : SM → Int32 → Int32 → Int32 → Option (Int32 × SM)) (p0 : Int32) (m : SM) (x3 : Int32) (x4 : Int32) (x5 : Int32) (s0 : Int32) : Option (Int32 × SM) :=
  (if x5 ≤ x3 then k27 m s0 x3 (x4 + (nI 1)) else k27 m s0 x5 (x4 + (nI 1)))
def f_X6_narrow_L81 (p0 : Int32) (m : SM) (x2 : Int32) (x3 : Int32) : Option (Int32 × SM) :=
  b1 (f_X6_of m p0 (nI 2)) fun r2 => b1 (f_X6_of m p0 (nI 1)) fun r4 => (if ((r2 - r4) - (x3 - x2)) = (nI 0) then some ((-5 : Int32), m) else bd (f_X6_record m) fun r7 m8 => bd (f_X6_put m8 p0 (nI 1) x2) fun r10 m11 => bd (f_X6_put m11 p0 (nI 2) x3) fun r13 m14 => bd (f_X6_settle m14) fun r16 m17 => some (((r2 - r4) - (x3 - x2)), m17))
def f_X6_narrow_L27 (p0 : Int32) : Nat → SM → Int32 → Int32 → Int32 → Option (Int32 × SM)
  | 0, _, _, _, _ => none
  | n + 1, m, x2, x3, x4 => b1 (f_X6_of m p0 (nI 3)) fun r2 => (if r2 ≤ x4 then f_X6_narrow_L81 p0 m x2 x3 else b1 (f_X6_of m p0 ((nI 5) + x4)) fun r5 => (if x2 ≤ r5 then f_X6_narrow_L61 (f_X6_narrow_L27 p0 n) p0 m x3 x4 r5 x2 else f_X6_narrow_L61 (f_X6_narrow_L27 p0 n) p0 m x3 x4 r5 r5))
def f_X6_narrow (m : SM) (p0 : Int32) : Option (Int32 × SM) :=
  b1 (f_X6_isBlock m p0) fun r2 => (if r2 = (nI 0) then some ((-1 : Int32), m) else b1 (f_X6_of m p0 (nI 2)) fun r5 => b1 (f_X6_of m p0 (nI 1)) fun r7 => f_X6_narrow_L27 p0 FU m r5 r7 (nI 0))
set_option maxHeartbeats 4000000 in
set_option maxRecDepth 100000 in
theorem c_X6_narrow {l : Launch} {D : va_G} {cy : Nat → ClassId} {ad : Nat → Nat → Nat} (hcv : CV ad) {M0 : MM} {m : SM} (hm : M0 9 = m) {p0 : Int32} {r : Int32} {x : SM} (h : f_X6_narrow m p0 = some (r, x)) : Met l yX6_narrow (.code yX6_narrow cX6_narrow 6 (some .int) :: TB) ({ frames := 6, cells := 0, slots := 0, locals := 137 } : Room) (PW D cy ad M0 [.ref (ad 9 0), .int p0]) (QI D cy ad r (gs M0 9 x)) 0 0 (AD ad) := by
  refine m_in (by decide +kernel) (Nat.le_of_ble_eq_true rfl) ?_
  intro p e s md args below meth c hC hw hS ls hl
  obtain ⟨hx, hb, hr, hml, hown, hts, hK, hlk⟩ := hC
  have hl : lv_has ls 6 [(0, .ref (ad 9 0)), (1, .int p0)] := hl
  rw [← gs_same hm] at hw
  have L61 : ∀ (k27 : SM → Int32 → Int32 → Int32 → Option (Int32 × SM)) (hk27 : ∀ (m : SM) (x2 : Int32) (x3 : Int32) (x4 : Int32), k27 m x2 x3 x4 = some (r, x) → JL p l e ({ frames := 6, cells := 0, slots := 0, locals := 137 } : Room) s md args below meth c D cy ad (MQ below (QI D cy ad r (gs M0 9 x)) args s 0 0 (AD ad)) (gs M0 9 m) 6 [(0, .ref (ad 9 0)), (1, .int p0), (2, .int x2), (3, .int x3), (4, .int x4)] 27 []), ∀ (m : SM) (x3 : Int32) (x4 : Int32) (x5 : Int32) (s0 : Int32), f_X6_narrow_L61 k27 p0 m x3 x4 x5 s0 = some (r, x) → JL p l e ({ frames := 6, cells := 0, slots := 0, locals := 137 } : Room) s md args below meth c D cy ad (MQ below (QI D cy ad r (gs M0 9 x)) args s 0 0 (AD ad)) (gs M0 9 m) 6 [(0, .ref (ad 9 0)), (1, .int p0), (3, .int x3), (4, .int x4), (5, .int x5)] 61 [.int s0] := by
    intro k27 hk27 m x3 x4 x5 s0 h H locs hw hS ls hl
    unfold f_X6_narrow_L61 at h
    refine lv_istore_n (lv' := [(2, .int s0), (0, .ref (ad 9 0)), (1, .int p0), (3, .int x3), (4, .int x4), (5, .int x5)]) hx hb dX6_narrow_61 rfl hl (by decide) rfl (fun ls hl => ?_)
    refine lv_iload hx hb dX6_narrow_62 (lv_at hl 5 rfl) ?_
    refine lv_iload_n hx hb dX6_narrow_64 rfl (lv_at hl 3 rfl) ?_
    refine lv_icmp_le (tgt := 73) hx hb dX6_narrow_65 (by decide) (fun q1 => ?_) (fun q1 => ?_)
    · replace h := t_pos h q1
      refine lv_iload_n hx hb dX6_narrow_73 rfl (lv_at hl 3 rfl) ?_
      refine lv_istore_n (lv' := [(3, .int x3), (2, .int s0), (0, .ref (ad 9 0)), (1, .int p0), (4, .int x4), (5, .int x5)]) hx hb dX6_narrow_74 rfl hl (by decide) rfl (fun ls hl => ?_)
      refine lv_iinc (v := (x4 + (nI 1))) (lv' := [(4, .int (x4 + (nI 1))), (3, .int x3), (2, .int s0), (0, .ref (ad 9 0)), (1, .int p0), (5, .int x5)]) hx hb dX6_narrow_75 hl (k := 4) rfl rfl (by decide) rfl (fun ls hl => ?_)
      refine lv_goto (tgt := 27) hx hb dX6_narrow_78 (by decide) ?_
      exact hk27 m s0 x3 (x4 + (nI 1)) h H locs hw hS ls (lv_sub hl [3, 4, 2, 1, 0] rfl)
    · replace h := t_neg h q1
      refine lv_iload hx hb dX6_narrow_68 (lv_at hl 5 rfl) ?_
      refine lv_goto (tgt := 74) hx hb dX6_narrow_70 (by decide) ?_
      refine lv_istore_n (lv' := [(3, .int x5), (2, .int s0), (0, .ref (ad 9 0)), (1, .int p0), (4, .int x4), (5, .int x5)]) hx hb dX6_narrow_74 rfl hl (by decide) rfl (fun ls hl => ?_)
      refine lv_iinc (v := (x4 + (nI 1))) (lv' := [(4, .int (x4 + (nI 1))), (3, .int x5), (2, .int s0), (0, .ref (ad 9 0)), (1, .int p0), (5, .int x5)]) hx hb dX6_narrow_75 hl (k := 4) rfl rfl (by decide) rfl (fun ls hl => ?_)
      refine lv_goto (tgt := 27) hx hb dX6_narrow_78 (by decide) ?_
      exact hk27 m s0 x5 (x4 + (nI 1)) h H locs hw hS ls (lv_sub hl [3, 4, 2, 1, 0] rfl)
  have L81 : ∀ (m : SM) (x2 : Int32) (x3 : Int32), f_X6_narrow_L81 p0 m x2 x3 = some (r, x) → JL p l e ({ frames := 6, cells := 0, slots := 0, locals := 137 } : Room) s md args below meth c D cy ad (MQ below (QI D cy ad r (gs M0 9 x)) args s 0 0 (AD ad)) (gs M0 9 m) 6 [(0, .ref (ad 9 0)), (1, .int p0), (2, .int x2), (3, .int x3)] 81 [] := by
    intro m x2 x3 h H locs hw hS ls hl
    unfold f_X6_narrow_L81 at h
    refine lv_aload_n hx hb dX6_narrow_81 rfl (lv_at hl 0 rfl) ?_
    refine lv_iload_n hx hb dX6_narrow_82 rfl (lv_at hl 1 rfl) ?_
    refine lv_iconst (v := nI 2) hx hb dX6_narrow_83 (by decide) ?_
    obtain ⟨r2, y1, h⟩ := t_b1 h
    refine c_vi hx hb hml hown hts hK hw hS (fun _ h => h) (As := [.int p0, .int (nI 2)]) (rest := []) (c_X6_of hcv (M0 := gs M0 9 m) (m := m) (hm := gs_at) y1) cf_X6_of k_611 rfl rfl ⟨Nat.le_of_ble_eq_true rfl, Nat.le_of_ble_eq_true rfl⟩ (r_recv hK hw (v_md (by decide)) E_md rfl) rfl hl.1 rfl (Nat.le_of_ble_eq_true rfl) ⟨Nat.le_refl _, Nat.le_refl _⟩ dX6_narrow_84 (fun H locs hw hS => ?_)
    refine lv_aload_n hx hb dX6_narrow_87 rfl (lv_at hl 0 rfl) ?_
    refine lv_iload_n hx hb dX6_narrow_88 rfl (lv_at hl 1 rfl) ?_
    refine lv_iconst (v := nI 1) hx hb dX6_narrow_89 (by decide) ?_
    obtain ⟨r4, y3, h⟩ := t_b1 h
    refine c_vi hx hb hml hown hts hK hw hS (fun _ h => h) (As := [.int p0, .int (nI 1)]) (rest := [.int r2]) (c_X6_of hcv (M0 := gs M0 9 m) (m := m) (hm := gs_at) y3) cf_X6_of k_611 rfl rfl ⟨Nat.le_of_ble_eq_true rfl, Nat.le_of_ble_eq_true rfl⟩ (r_recv hK hw (v_md (by decide)) E_md rfl) rfl hl.1 rfl (Nat.le_of_ble_eq_true rfl) ⟨Nat.le_refl _, Nat.le_refl _⟩ dX6_narrow_90 (fun H locs hw hS => ?_)
    refine lv_isub hx hb dX6_narrow_93 ?_
    refine lv_iload_n hx hb dX6_narrow_94 rfl (lv_at hl 3 rfl) ?_
    refine lv_iload_n hx hb dX6_narrow_95 rfl (lv_at hl 2 rfl) ?_
    refine lv_isub hx hb dX6_narrow_96 ?_
    refine lv_isub hx hb dX6_narrow_97 ?_
    refine lv_istore (lv' := [(4, .int ((r2 - r4) - (x3 - x2))), (0, .ref (ad 9 0)), (1, .int p0), (2, .int x2), (3, .int x3)]) hx hb dX6_narrow_98 hl (by decide) rfl (fun ls hl => ?_)
    refine lv_iload hx hb dX6_narrow_100 (lv_at hl 0 rfl) ?_
    refine lv_if_ne (tgt := 108) hx hb dX6_narrow_102 (by decide) (fun q5 => ?_) (fun q5 => ?_)
    · replace h := t_neg h q5
      refine lv_aload_n hx hb dX6_narrow_108 rfl (lv_at hl 1 rfl) ?_
      obtain ⟨r7, m8, y6, h⟩ := t_bd h
      refine c_vv hx hb hml hown hts hK hw hS (fun _ h => h) (As := []) (rest := []) (c_X6_record hcv (M0 := gs M0 9 m) (m := m) (hm := gs_at) y6) cf_X6_record k_619 rfl rfl ⟨Nat.le_of_ble_eq_true rfl, Nat.le_of_ble_eq_true rfl⟩ (r_recv hK hw (v_md (by decide)) E_md rfl) rfl hl.1 rfl (Nat.le_of_ble_eq_true rfl) ⟨Nat.le_refl _, Nat.le_refl _⟩ dX6_narrow_109 (fun H locs hw hS => ?_)
      rw [gs_gs] at hw
      refine lv_aload_n hx hb dX6_narrow_112 rfl (lv_at hl 1 rfl) ?_
      refine lv_iload_n hx hb dX6_narrow_113 rfl (lv_at hl 2 rfl) ?_
      refine lv_iconst (v := nI 1) hx hb dX6_narrow_114 (by decide) ?_
      refine lv_iload_n hx hb dX6_narrow_115 rfl (lv_at hl 3 rfl) ?_
      obtain ⟨r10, m11, y9, h⟩ := t_bd h
      refine c_vv hx hb hml hown hts hK hw hS (fun _ h => h) (As := [.int p0, .int (nI 1), .int x2]) (rest := []) (c_X6_put hcv (M0 := gs M0 9 m8) (m := m8) (hm := gs_at) y9) cf_X6_put k_666 rfl rfl ⟨Nat.le_of_ble_eq_true rfl, Nat.le_of_ble_eq_true rfl⟩ (r_recv hK hw (v_md (by decide)) E_md rfl) rfl hl.1 rfl (Nat.le_of_ble_eq_true rfl) ⟨Nat.le_refl _, Nat.le_refl _⟩ dX6_narrow_116 (fun H locs hw hS => ?_)
      rw [gs_gs] at hw
      refine lv_aload_n hx hb dX6_narrow_119 rfl (lv_at hl 1 rfl) ?_
      refine lv_iload_n hx hb dX6_narrow_120 rfl (lv_at hl 2 rfl) ?_
      refine lv_iconst (v := nI 2) hx hb dX6_narrow_121 (by decide) ?_
      refine lv_iload_n hx hb dX6_narrow_122 rfl (lv_at hl 4 rfl) ?_
      obtain ⟨r13, m14, y12, h⟩ := t_bd h
      refine c_vv hx hb hml hown hts hK hw hS (fun _ h => h) (As := [.int p0, .int (nI 2), .int x3]) (rest := []) (c_X6_put hcv (M0 := gs M0 9 m11) (m := m11) (hm := gs_at) y12) cf_X6_put k_666 rfl rfl ⟨Nat.le_of_ble_eq_true rfl, Nat.le_of_ble_eq_true rfl⟩ (r_recv hK hw (v_md (by decide)) E_md rfl) rfl hl.1 rfl (Nat.le_of_ble_eq_true rfl) ⟨Nat.le_refl _, Nat.le_refl _⟩ dX6_narrow_123 (fun H locs hw hS => ?_)
      rw [gs_gs] at hw
      refine lv_aload_n hx hb dX6_narrow_126 rfl (lv_at hl 1 rfl) ?_
      obtain ⟨r16, m17, y15, h⟩ := t_bd h
      refine c_vv hx hb hml hown hts hK hw hS (fun _ h => h) (As := []) (rest := []) (c_X6_settle hcv (M0 := gs M0 9 m14) (m := m14) (hm := gs_at) y15) cf_X6_settle k_670 rfl rfl ⟨Nat.le_of_ble_eq_true rfl, Nat.le_of_ble_eq_true rfl⟩ (r_recv hK hw (v_md (by decide)) E_md rfl) rfl hl.1 rfl (Nat.le_of_ble_eq_true rfl) ⟨Nat.le_refl _, Nat.le_refl _⟩ dX6_narrow_127 (fun H locs hw hS => ?_)
      rw [gs_gs] at hw
      refine lv_iload hx hb dX6_narrow_130 (lv_at hl 0 rfl) ?_
      have e1 := (t_ret h).1
      have e2 := (t_ret h).2
      exact e_i hx hb hr hlk hw hS e1 (by rw [e2]) dX6_narrow_132
    · replace h := t_pos h q5
      refine lv_bipush (v := -5) hx hb dX6_narrow_105 (by decide) ?_
      have e1 := (t_ret h).1
      have e2 := (t_ret h).2
      exact e_i hx hb hr hlk hw hS e1 (by rw [e2]) dX6_narrow_107
  have L27 : ∀ (n : Nat), ∀ (m : SM) (x2 : Int32) (x3 : Int32) (x4 : Int32), f_X6_narrow_L27 p0 n m x2 x3 x4 = some (r, x) → JL p l e ({ frames := 6, cells := 0, slots := 0, locals := 137 } : Room) s md args below meth c D cy ad (MQ below (QI D cy ad r (gs M0 9 x)) args s 0 0 (AD ad)) (gs M0 9 m) 6 [(0, .ref (ad 9 0)), (1, .int p0), (2, .int x2), (3, .int x3), (4, .int x4)] 27 [] := by
    intro n
    induction n with
    | zero =>
      intro m x2 x3 x4 h
      cases h
    | succ n ih =>
      intro m x2 x3 x4 h H locs hw hS ls hl
      rw [f_X6_narrow_L27.eq_2] at h
      refine lv_iload hx hb dX6_narrow_27 (lv_at hl 4 rfl) ?_
      refine lv_aload_n hx hb dX6_narrow_29 rfl (lv_at hl 0 rfl) ?_
      refine lv_iload_n hx hb dX6_narrow_30 rfl (lv_at hl 1 rfl) ?_
      refine lv_iconst (v := nI 3) hx hb dX6_narrow_31 (by decide) ?_
      obtain ⟨r2, y1, h⟩ := t_b1 h
      refine c_vi hx hb hml hown hts hK hw hS (fun _ h => h) (As := [.int p0, .int (nI 3)]) (rest := [.int x4]) (c_X6_of hcv (M0 := gs M0 9 m) (m := m) (hm := gs_at) y1) cf_X6_of k_611 rfl rfl ⟨Nat.le_of_ble_eq_true rfl, Nat.le_of_ble_eq_true rfl⟩ (r_recv hK hw (v_md (by decide)) E_md rfl) rfl hl.1 rfl (Nat.le_of_ble_eq_true rfl) ⟨Nat.le_refl _, Nat.le_refl _⟩ dX6_narrow_32 (fun H locs hw hS => ?_)
      refine lv_icmp_ge (tgt := 81) hx hb dX6_narrow_35 (by decide) (fun q3 => ?_) (fun q3 => ?_)
      · replace h := t_pos h q3
        exact L81 m x2 x3 h H locs hw hS ls (lv_sub hl [0, 1, 2, 3] rfl)
      · replace h := t_neg h q3
        refine lv_aload_n hx hb dX6_narrow_38 rfl (lv_at hl 0 rfl) ?_
        refine lv_iload_n hx hb dX6_narrow_39 rfl (lv_at hl 1 rfl) ?_
        refine lv_iconst (v := nI 5) hx hb dX6_narrow_40 (by decide) ?_
        refine lv_iload hx hb dX6_narrow_41 (lv_at hl 4 rfl) ?_
        refine lv_iadd hx hb dX6_narrow_43 ?_
        obtain ⟨r5, y4, h⟩ := t_b1 h
        refine c_vi hx hb hml hown hts hK hw hS (fun _ h => h) (As := [.int p0, .int ((nI 5) + x4)]) (rest := []) (c_X6_of hcv (M0 := gs M0 9 m) (m := m) (hm := gs_at) y4) cf_X6_of k_611 rfl rfl ⟨Nat.le_of_ble_eq_true rfl, Nat.le_of_ble_eq_true rfl⟩ (r_recv hK hw (v_md (by decide)) E_md rfl) rfl hl.1 rfl (Nat.le_of_ble_eq_true rfl) ⟨Nat.le_refl _, Nat.le_refl _⟩ dX6_narrow_44 (fun H locs hw hS => ?_)
        refine lv_istore (lv' := [(5, .int r5), (0, .ref (ad 9 0)), (1, .int p0), (2, .int x2), (3, .int x3), (4, .int x4)]) hx hb dX6_narrow_47 hl (by decide) rfl (fun ls hl => ?_)
        refine lv_iload hx hb dX6_narrow_49 (lv_at hl 0 rfl) ?_
        refine lv_iload_n hx hb dX6_narrow_51 rfl (lv_at hl 3 rfl) ?_
        refine lv_icmp_ge (tgt := 60) hx hb dX6_narrow_52 (by decide) (fun q6 => ?_) (fun q6 => ?_)
        · replace h := t_pos h q6
          refine lv_iload_n hx hb dX6_narrow_60 rfl (lv_at hl 3 rfl) ?_
          exact L61 (f_X6_narrow_L27 p0 n) ih m x3 x4 r5 x2 h H locs hw hS ls (lv_sub hl [1, 2, 4, 5, 0] rfl)
        · replace h := t_neg h q6
          refine lv_iload hx hb dX6_narrow_55 (lv_at hl 0 rfl) ?_
          refine lv_goto (tgt := 61) hx hb dX6_narrow_57 (by decide) ?_
          exact L61 (f_X6_narrow_L27 p0 n) ih m x3 x4 r5 r5 h H locs hw hS ls (lv_sub hl [1, 2, 4, 5, 0] rfl)
  unfold f_X6_narrow at h
  have main : JL p l e ({ frames := 6, cells := 0, slots := 0, locals := 137 } : Room) s md args below meth c D cy ad (MQ below (QI D cy ad r (gs M0 9 x)) args s 0 0 (AD ad)) (gs M0 9 m) 6 [(0, .ref (ad 9 0)), (1, .int p0)] 0 [] := by
    intro H locs hw hS ls hl
    refine lv_aload_n hx hb dX6_narrow_0 rfl (lv_at hl 0 rfl) ?_
    refine lv_iload_n hx hb dX6_narrow_1 rfl (lv_at hl 1 rfl) ?_
    obtain ⟨r2, y1, h⟩ := t_b1 h
    refine c_vi hx hb hml hown hts hK hw hS (fun _ h => h) (As := [.int p0]) (rest := []) (c_X6_isBlock hcv (M0 := gs M0 9 m) (m := m) (hm := gs_at) y1) cf_X6_isBlock k_718 rfl rfl ⟨Nat.le_of_ble_eq_true rfl, Nat.le_of_ble_eq_true rfl⟩ (r_recv hK hw (v_md (by decide)) E_md rfl) rfl hl.1 rfl (Nat.le_of_ble_eq_true rfl) ⟨Nat.le_refl _, Nat.le_refl _⟩ dX6_narrow_2 (fun H locs hw hS => ?_)
    refine lv_if_ne (tgt := 10) hx hb dX6_narrow_5 (by decide) (fun q3 => ?_) (fun q3 => ?_)
    · replace h := t_neg h q3
      refine lv_aload_n hx hb dX6_narrow_10 rfl (lv_at hl 0 rfl) ?_
      refine lv_iload_n hx hb dX6_narrow_11 rfl (lv_at hl 1 rfl) ?_
      refine lv_iconst (v := nI 2) hx hb dX6_narrow_12 (by decide) ?_
      obtain ⟨r5, y4, h⟩ := t_b1 h
      refine c_vi hx hb hml hown hts hK hw hS (fun _ h => h) (As := [.int p0, .int (nI 2)]) (rest := []) (c_X6_of hcv (M0 := gs M0 9 m) (m := m) (hm := gs_at) y4) cf_X6_of k_611 rfl rfl ⟨Nat.le_of_ble_eq_true rfl, Nat.le_of_ble_eq_true rfl⟩ (r_recv hK hw (v_md (by decide)) E_md rfl) rfl hl.1 rfl (Nat.le_of_ble_eq_true rfl) ⟨Nat.le_refl _, Nat.le_refl _⟩ dX6_narrow_13 (fun H locs hw hS => ?_)
      refine lv_istore_n (lv' := [(2, .int r5), (0, .ref (ad 9 0)), (1, .int p0)]) hx hb dX6_narrow_16 rfl hl (by decide) rfl (fun ls hl => ?_)
      refine lv_aload_n hx hb dX6_narrow_17 rfl (lv_at hl 1 rfl) ?_
      refine lv_iload_n hx hb dX6_narrow_18 rfl (lv_at hl 2 rfl) ?_
      refine lv_iconst (v := nI 1) hx hb dX6_narrow_19 (by decide) ?_
      obtain ⟨r7, y6, h⟩ := t_b1 h
      refine c_vi hx hb hml hown hts hK hw hS (fun _ h => h) (As := [.int p0, .int (nI 1)]) (rest := []) (c_X6_of hcv (M0 := gs M0 9 m) (m := m) (hm := gs_at) y6) cf_X6_of k_611 rfl rfl ⟨Nat.le_of_ble_eq_true rfl, Nat.le_of_ble_eq_true rfl⟩ (r_recv hK hw (v_md (by decide)) E_md rfl) rfl hl.1 rfl (Nat.le_of_ble_eq_true rfl) ⟨Nat.le_refl _, Nat.le_refl _⟩ dX6_narrow_20 (fun H locs hw hS => ?_)
      refine lv_istore_n (lv' := [(3, .int r7), (2, .int r5), (0, .ref (ad 9 0)), (1, .int p0)]) hx hb dX6_narrow_23 rfl hl (by decide) rfl (fun ls hl => ?_)
      refine lv_iconst (v := nI 0) hx hb dX6_narrow_24 (by decide) ?_
      refine lv_istore (lv' := [(4, .int (nI 0)), (3, .int r7), (2, .int r5), (0, .ref (ad 9 0)), (1, .int p0)]) hx hb dX6_narrow_25 hl (by decide) rfl (fun ls hl => ?_)
      exact L27 FU m r5 r7 (nI 0) h H locs hw hS ls (lv_sub hl [3, 4, 2, 1, 0] rfl)
    · replace h := t_pos h q3
      refine lv_iconst (v := -1) hx hb dX6_narrow_8 (by decide) ?_
      have e1 := (t_ret h).1
      have e2 := (t_ret h).2
      exact e_i hx hb hr hlk hw hS e1 (by rw [e2]) dX6_narrow_9
  exact main _ _ hw hS ls hl

theorem cf_X6_forget : cfV RX6 yX6_forget cX6_forget 3 (some .int) 0 := ⟨⟨k_731, k_732, k_7, k_733⟩, by decide +kernel⟩
def f_X6_forget_L19 : Nat → SM → Int32 → Int32 → Option (Int32 × SM)
  | 0, _, _, _ => none
  | n + 1, m, x1, x2 => gd (nI 0) 220 ((if (m 1 (nI 0).toNatClampNeg) ≤ x2 then bd (f_X6_settle m) fun r4 m5 => some (x1, m5) else bd (f_X6_put m x2 (nI 4) (nI 0)) fun r7 m8 => f_X6_forget_L19 n m8 x1 (x2 + (nI 1))))
def f_X6_forget (m : SM) : Option (Int32 × SM) :=
  b1 (f_X6_allOf m (nI 4)) fun r2 => (if r2 = (nI 0) then some ((-5 : Int32), m) else bd (f_X6_record m) fun r5 m6 => f_X6_forget_L19 FU m6 r2 (nI 0))
set_option maxHeartbeats 4000000 in
set_option maxRecDepth 100000 in
theorem c_X6_forget {l : Launch} {D : va_G} {cy : Nat → ClassId} {ad : Nat → Nat → Nat} (hcv : CV ad) {M0 : MM} {m : SM} (hm : M0 9 = m) {r : Int32} {x : SM} (h : f_X6_forget m = some (r, x)) : Met l yX6_forget (.code yX6_forget cX6_forget 3 (some .int) :: TB) ({ frames := 6, cells := 0, slots := 0, locals := 137 } : Room) (PW D cy ad M0 [.ref (ad 9 0)]) (QI D cy ad r (gs M0 9 x)) 0 0 (AD ad) := by
  refine m_in (by decide +kernel) (Nat.le_of_ble_eq_true rfl) ?_
  intro p e s md args below meth c hC hw hS ls hl
  obtain ⟨hx, hb, hr, hml, hown, hts, hK, hlk⟩ := hC
  have hl : lv_has ls 3 [(0, .ref (ad 9 0))] := hl
  rw [← gs_same hm] at hw
  have L19 : ∀ (n : Nat), ∀ (m : SM) (x1 : Int32) (x2 : Int32), f_X6_forget_L19 n m x1 x2 = some (r, x) → JL p l e ({ frames := 6, cells := 0, slots := 0, locals := 137 } : Room) s md args below meth c D cy ad (MQ below (QI D cy ad r (gs M0 9 x)) args s 0 0 (AD ad)) (gs M0 9 m) 3 [(0, .ref (ad 9 0)), (1, .int x1), (2, .int x2)] 19 [] := by
    intro n
    induction n with
    | zero =>
      intro m x1 x2 h
      cases h
    | succ n ih =>
      intro m x1 x2 h H locs hw hS ls hl
      rw [f_X6_forget_L19.eq_2] at h
      refine lv_iload_n hx hb dX6_forget_19 rfl (lv_at hl 2 rfl) ?_
      refine lv_aload_n hx hb dX6_forget_20 rfl (lv_at hl 0 rfl) ?_
      refine r_get hx hb hts hown hK hw (v_md (by decide)) gs_atc E_md inX6 rfl 0 (by decide) k_544 rfl rfl dX6_forget_21 ?_
      refine lv_iconst (v := nI 0) hx hb dX6_forget_24 (by decide) ?_
      obtain ⟨q1, h⟩ := t_gd h
      refine r_iald hx hb hK hw (v_md (by decide)) gs_atc E_m1 q1 dX6_forget_25 ?_
      refine lv_icmp_ge (tgt := 42) hx hb dX6_forget_26 (by decide) (fun q2 => ?_) (fun q2 => ?_)
      · replace h := t_pos h q2
        refine lv_aload_n hx hb dX6_forget_42 rfl (lv_at hl 0 rfl) ?_
        obtain ⟨r4, m5, y3, h⟩ := t_bd h
        refine c_vv hx hb hml hown hts hK hw hS (fun _ h => h) (As := []) (rest := []) (c_X6_settle hcv (M0 := gs M0 9 m) (m := m) (hm := gs_at) y3) cf_X6_settle k_670 rfl rfl ⟨Nat.le_of_ble_eq_true rfl, Nat.le_of_ble_eq_true rfl⟩ (r_recv hK hw (v_md (by decide)) E_md rfl) rfl hl.1 rfl (Nat.le_of_ble_eq_true rfl) ⟨Nat.le_refl _, Nat.le_refl _⟩ dX6_forget_43 (fun H locs hw hS => ?_)
        rw [gs_gs] at hw
        refine lv_iload_n hx hb dX6_forget_46 rfl (lv_at hl 1 rfl) ?_
        have e1 := (t_ret h).1
        have e2 := (t_ret h).2
        exact e_i hx hb hr hlk hw hS e1 (by rw [e2]) dX6_forget_47
      · replace h := t_neg h q2
        refine lv_aload_n hx hb dX6_forget_29 rfl (lv_at hl 0 rfl) ?_
        refine lv_iload_n hx hb dX6_forget_30 rfl (lv_at hl 2 rfl) ?_
        refine lv_iconst (v := nI 4) hx hb dX6_forget_31 (by decide) ?_
        refine lv_iconst (v := nI 0) hx hb dX6_forget_32 (by decide) ?_
        obtain ⟨r7, m8, y6, h⟩ := t_bd h
        refine c_vv hx hb hml hown hts hK hw hS (fun _ h => h) (As := [.int x2, .int (nI 4), .int (nI 0)]) (rest := []) (c_X6_put hcv (M0 := gs M0 9 m) (m := m) (hm := gs_at) y6) cf_X6_put k_666 rfl rfl ⟨Nat.le_of_ble_eq_true rfl, Nat.le_of_ble_eq_true rfl⟩ (r_recv hK hw (v_md (by decide)) E_md rfl) rfl hl.1 rfl (Nat.le_of_ble_eq_true rfl) ⟨Nat.le_refl _, Nat.le_refl _⟩ dX6_forget_33 (fun H locs hw hS => ?_)
        rw [gs_gs] at hw
        refine lv_iinc (v := (x2 + (nI 1))) (lv' := [(2, .int (x2 + (nI 1))), (0, .ref (ad 9 0)), (1, .int x1)]) hx hb dX6_forget_36 hl (k := 2) rfl rfl (by decide) rfl (fun ls hl => ?_)
        refine lv_goto (tgt := 19) hx hb dX6_forget_39 (by decide) ?_
        exact ih m8 x1 (x2 + (nI 1)) h H locs hw hS ls (lv_sub hl [1, 2, 0] rfl)
  unfold f_X6_forget at h
  have main : JL p l e ({ frames := 6, cells := 0, slots := 0, locals := 137 } : Room) s md args below meth c D cy ad (MQ below (QI D cy ad r (gs M0 9 x)) args s 0 0 (AD ad)) (gs M0 9 m) 3 [(0, .ref (ad 9 0))] 0 [] := by
    intro H locs hw hS ls hl
    refine lv_aload_n hx hb dX6_forget_0 rfl (lv_at hl 0 rfl) ?_
    refine lv_iconst (v := nI 4) hx hb dX6_forget_1 (by decide) ?_
    obtain ⟨r2, y1, h⟩ := t_b1 h
    refine c_vi hx hb hml hown hts hK hw hS (fun _ h => h) (As := [.int (nI 4)]) (rest := []) (c_X6_allOf hcv (M0 := gs M0 9 m) (m := m) (hm := gs_at) y1) cf_X6_allOf k_607 rfl rfl ⟨Nat.le_of_ble_eq_true rfl, Nat.le_of_ble_eq_true rfl⟩ (r_recv hK hw (v_md (by decide)) E_md rfl) rfl hl.1 rfl (Nat.le_of_ble_eq_true rfl) ⟨Nat.le_refl _, Nat.le_refl _⟩ dX6_forget_2 (fun H locs hw hS => ?_)
    refine lv_istore_n (lv' := [(1, .int r2), (0, .ref (ad 9 0))]) hx hb dX6_forget_5 rfl hl (by decide) rfl (fun ls hl => ?_)
    refine lv_iload_n hx hb dX6_forget_6 rfl (lv_at hl 0 rfl) ?_
    refine lv_if_ne (tgt := 13) hx hb dX6_forget_7 (by decide) (fun q3 => ?_) (fun q3 => ?_)
    · replace h := t_neg h q3
      refine lv_aload_n hx hb dX6_forget_13 rfl (lv_at hl 1 rfl) ?_
      obtain ⟨r5, m6, y4, h⟩ := t_bd h
      refine c_vv hx hb hml hown hts hK hw hS (fun _ h => h) (As := []) (rest := []) (c_X6_record hcv (M0 := gs M0 9 m) (m := m) (hm := gs_at) y4) cf_X6_record k_619 rfl rfl ⟨Nat.le_of_ble_eq_true rfl, Nat.le_of_ble_eq_true rfl⟩ (r_recv hK hw (v_md (by decide)) E_md rfl) rfl hl.1 rfl (Nat.le_of_ble_eq_true rfl) ⟨Nat.le_refl _, Nat.le_refl _⟩ dX6_forget_14 (fun H locs hw hS => ?_)
      rw [gs_gs] at hw
      refine lv_iconst (v := nI 0) hx hb dX6_forget_17 (by decide) ?_
      refine lv_istore_n (lv' := [(2, .int (nI 0)), (1, .int r2), (0, .ref (ad 9 0))]) hx hb dX6_forget_18 rfl hl (by decide) rfl (fun ls hl => ?_)
      exact L19 FU m6 r2 (nI 0) h H locs hw hS ls (lv_sub hl [2, 1, 0] rfl)
    · replace h := t_pos h q3
      refine lv_bipush (v := -5) hx hb dX6_forget_10 (by decide) ?_
      have e1 := (t_ret h).1
      have e2 := (t_ret h).2
      exact e_i hx hb hr hlk hw hS e1 (by rw [e2]) dX6_forget_12
  exact main _ _ hw hS ls hl

theorem cf_X6_ask : cfV RX6 yX6_ask cX6_ask 7 (some .int) 4 := ⟨⟨k_735, k_736, k_7, k_737⟩, by decide +kernel⟩
def f_X6_ask_L55 (p0 : Int32) (p1 : Int32) (p2 : Int32) (p3 : Int32) (m : SM) (s0 : Int32) : Option (Int32 × SM) :=
  (if s0 = (nI 0) then some ((-2 : Int32), m) else gd (nI 1) 220 ((if (m 1 (nI 1).toNatClampNeg) = (nI 6) then some ((-3 : Int32), m) else bd (f_X6_record m) fun r5 m6 => gd (nI 1) 220 (gd (nI 1) 220 (gd (nI 1) 220 (lt1 (up m6 1 (nI 1).toNatClampNeg ((m6 1 (nI 1).toNatClampNeg) + (nI 1))) fun m11 => bd (f_X6_putAsked m11 (m6 1 (nI 1).toNatClampNeg) (nI 0) p0) fun r13 m14 => bd (f_X6_putAsked m14 (m6 1 (nI 1).toNatClampNeg) (nI 1) p1) fun r16 m17 => bd (f_X6_putAsked m17 (m6 1 (nI 1).toNatClampNeg) (nI 2) p2) fun r19 m20 => bd (f_X6_putAsked m20 (m6 1 (nI 1).toNatClampNeg) (nI 3) p3) fun r22 m23 => bd (f_X6_putAsked m23 (m6 1 (nI 1).toNatClampNeg) (nI 4) (nI 0)) fun r25 m26 => bd (f_X6_settle m26) fun r28 m29 => some ((m6 1 (nI 1).toNatClampNeg), m29)))))))
def f_X6_ask_L54 (p0 : Int32) (p1 : Int32) (p2 : Int32) (p3 : Int32) (m : SM) : Option (Int32 × SM) :=
  f_X6_ask_L55 p0 p1 p2 p3 m (nI 0)
def f_X6_ask_L33 (p0 : Int32) (p1 : Int32) (p2 : Int32) (p3 : Int32) (m : SM) (s2 : Int32) : Option (Int32 × SM) :=
  b1 (f_X6_in p2 (nI 0) s2) fun r2 => (if r2 = (nI 0) then f_X6_ask_L54 p0 p1 p2 p3 m else b1 (f_X6_in p3 (nI 0) (nI 99999)) fun r5 => (if r5 = (nI 0) then f_X6_ask_L54 p0 p1 p2 p3 m else f_X6_ask_L55 p0 p1 p2 p3 m (nI 1)))
def f_X6_ask (m : SM) (p0 : Int32) (p1 : Int32) (p2 : Int32) (p3 : Int32) : Option (Int32 × SM) :=
  b1 (f_X6_in p0 (nI 0) (nI 4)) fun r2 => (if r2 = (nI 0) then f_X6_ask_L54 p0 p1 p2 p3 m else b1 (f_X6_in p1 (nI 1) (nI 15)) fun r5 => (if r5 = (nI 0) then f_X6_ask_L54 p0 p1 p2 p3 m else (if p0 = (nI 1) then f_X6_ask_L33 p0 p1 p2 p3 m (nI 999) else f_X6_ask_L33 p0 p1 p2 p3 m (nI 0))))
set_option maxHeartbeats 4000000 in
set_option maxRecDepth 100000 in
theorem c_X6_ask {l : Launch} {D : va_G} {cy : Nat → ClassId} {ad : Nat → Nat → Nat} (hcv : CV ad) {M0 : MM} {m : SM} (hm : M0 9 = m) {p0 p1 p2 p3 : Int32} {r : Int32} {x : SM} (h : f_X6_ask m p0 p1 p2 p3 = some (r, x)) : Met l yX6_ask (.code yX6_ask cX6_ask 7 (some .int) :: TB) ({ frames := 6, cells := 0, slots := 0, locals := 137 } : Room) (PW D cy ad M0 [.ref (ad 9 0), .int p0, .int p1, .int p2, .int p3]) (QI D cy ad r (gs M0 9 x)) 0 0 (AD ad) := by
  refine m_in (by decide +kernel) (Nat.le_of_ble_eq_true rfl) ?_
  intro p e s md args below meth c hC hw hS ls hl
  obtain ⟨hx, hb, hr, hml, hown, hts, hK, hlk⟩ := hC
  have hl : lv_has ls 7 [(0, .ref (ad 9 0)), (1, .int p0), (2, .int p1), (3, .int p2), (4, .int p3)] := hl
  rw [← gs_same hm] at hw
  have L55 : ∀ (m : SM) (s0 : Int32), f_X6_ask_L55 p0 p1 p2 p3 m s0 = some (r, x) → JL p l e ({ frames := 6, cells := 0, slots := 0, locals := 137 } : Room) s md args below meth c D cy ad (MQ below (QI D cy ad r (gs M0 9 x)) args s 0 0 (AD ad)) (gs M0 9 m) 7 [(0, .ref (ad 9 0)), (1, .int p0), (2, .int p1), (3, .int p2), (4, .int p3)] 55 [.int s0] := by
    intro m s0 h H locs hw hS ls hl
    unfold f_X6_ask_L55 at h
    refine lv_istore (lv' := [(5, .int s0), (0, .ref (ad 9 0)), (1, .int p0), (2, .int p1), (3, .int p2), (4, .int p3)]) hx hb dX6_ask_55 hl (by decide) rfl (fun ls hl => ?_)
    refine lv_iload hx hb dX6_ask_57 (lv_at hl 0 rfl) ?_
    refine lv_if_ne (tgt := 65) hx hb dX6_ask_59 (by decide) (fun q1 => ?_) (fun q1 => ?_)
    · replace h := t_neg h q1
      refine lv_aload_n hx hb dX6_ask_65 rfl (lv_at hl 1 rfl) ?_
      refine r_get hx hb hts hown hK hw (v_md (by decide)) gs_atc E_md inX6 rfl 0 (by decide) k_544 rfl rfl dX6_ask_66 ?_
      refine lv_iconst (v := nI 1) hx hb dX6_ask_69 (by decide) ?_
      obtain ⟨q2, h⟩ := t_gd h
      refine r_iald hx hb hK hw (v_md (by decide)) gs_atc E_m1 q2 dX6_ask_70 ?_
      refine lv_bipush (v := nI 6) hx hb dX6_ask_71 (by decide) ?_
      refine lv_icmp_ne (tgt := 79) hx hb dX6_ask_73 (by decide) (fun q3 => ?_) (fun q3 => ?_)
      · replace h := t_neg h q3
        refine lv_aload_n hx hb dX6_ask_79 rfl (lv_at hl 1 rfl) ?_
        obtain ⟨r5, m6, y4, h⟩ := t_bd h
        refine c_vv hx hb hml hown hts hK hw hS (fun _ h => h) (As := []) (rest := []) (c_X6_record hcv (M0 := gs M0 9 m) (m := m) (hm := gs_at) y4) cf_X6_record k_619 rfl rfl ⟨Nat.le_of_ble_eq_true rfl, Nat.le_of_ble_eq_true rfl⟩ (r_recv hK hw (v_md (by decide)) E_md rfl) rfl hl.1 rfl (Nat.le_of_ble_eq_true rfl) ⟨Nat.le_refl _, Nat.le_refl _⟩ dX6_ask_80 (fun H locs hw hS => ?_)
        rw [gs_gs] at hw
        refine lv_aload_n hx hb dX6_ask_83 rfl (lv_at hl 1 rfl) ?_
        refine r_get hx hb hts hown hK hw (v_md (by decide)) gs_atc E_md inX6 rfl 0 (by decide) k_544 rfl rfl dX6_ask_84 ?_
        refine lv_iconst (v := nI 1) hx hb dX6_ask_87 (by decide) ?_
        obtain ⟨q7, h⟩ := t_gd h
        refine r_iald hx hb hK hw (v_md (by decide)) gs_atc E_m1 q7 dX6_ask_88 ?_
        refine lv_istore (lv' := [(6, .int (m6 1 (nI 1).toNatClampNeg)), (5, .int s0), (0, .ref (ad 9 0)), (1, .int p0), (2, .int p1), (3, .int p2), (4, .int p3)]) hx hb dX6_ask_89 hl (by decide) rfl (fun ls hl => ?_)
        refine lv_aload_n hx hb dX6_ask_91 rfl (lv_at hl 2 rfl) ?_
        refine r_get hx hb hts hown hK hw (v_md (by decide)) gs_atc E_md inX6 rfl 0 (by decide) k_544 rfl rfl dX6_ask_92 ?_
        refine lv_iconst (v := nI 1) hx hb dX6_ask_95 (by decide) ?_
        refine lv_dup2_11 hx hb dX6_ask_96 rfl rfl ?_
        obtain ⟨q8, h⟩ := t_gd h
        refine r_iald hx hb hK hw (v_md (by decide)) gs_atc E_m1 q8 dX6_ask_97 ?_
        refine lv_iconst (v := nI 1) hx hb dX6_ask_98 (by decide) ?_
        refine lv_iadd hx hb dX6_ask_99 ?_
        obtain ⟨q9, h⟩ := t_gd h
        obtain ⟨m11, e10, h⟩ := t_lt h
        refine r_iast hx hb hK hcv hw hS (v_md (by decide)) gs_atc (fun _ => E_m1) q9 (gs_up e10) dX6_ask_100 (fun H locs hw hS => ?_)
        refine lv_aload_n hx hb dX6_ask_101 rfl (lv_at hl 2 rfl) ?_
        refine lv_iload hx hb dX6_ask_102 (lv_at hl 0 rfl) ?_
        refine lv_iconst (v := nI 0) hx hb dX6_ask_104 (by decide) ?_
        refine lv_iload_n hx hb dX6_ask_105 rfl (lv_at hl 3 rfl) ?_
        obtain ⟨r13, m14, y12, h⟩ := t_bd h
        refine c_vv hx hb hml hown hts hK hw hS (fun _ h => h) (As := [.int (m6 1 (nI 1).toNatClampNeg), .int (nI 0), .int p0]) (rest := []) (c_X6_putAsked hcv (M0 := gs M0 9 m11) (m := m11) (hm := gs_at) y12) cf_X6_putAsked k_710 rfl rfl ⟨Nat.le_of_ble_eq_true rfl, Nat.le_of_ble_eq_true rfl⟩ (r_recv hK hw (v_md (by decide)) E_md rfl) rfl hl.1 rfl (Nat.le_of_ble_eq_true rfl) ⟨Nat.le_refl _, Nat.le_refl _⟩ dX6_ask_106 (fun H locs hw hS => ?_)
        rw [gs_gs] at hw
        refine lv_aload_n hx hb dX6_ask_109 rfl (lv_at hl 2 rfl) ?_
        refine lv_iload hx hb dX6_ask_110 (lv_at hl 0 rfl) ?_
        refine lv_iconst (v := nI 1) hx hb dX6_ask_112 (by decide) ?_
        refine lv_iload_n hx hb dX6_ask_113 rfl (lv_at hl 4 rfl) ?_
        obtain ⟨r16, m17, y15, h⟩ := t_bd h
        refine c_vv hx hb hml hown hts hK hw hS (fun _ h => h) (As := [.int (m6 1 (nI 1).toNatClampNeg), .int (nI 1), .int p1]) (rest := []) (c_X6_putAsked hcv (M0 := gs M0 9 m14) (m := m14) (hm := gs_at) y15) cf_X6_putAsked k_710 rfl rfl ⟨Nat.le_of_ble_eq_true rfl, Nat.le_of_ble_eq_true rfl⟩ (r_recv hK hw (v_md (by decide)) E_md rfl) rfl hl.1 rfl (Nat.le_of_ble_eq_true rfl) ⟨Nat.le_refl _, Nat.le_refl _⟩ dX6_ask_114 (fun H locs hw hS => ?_)
        rw [gs_gs] at hw
        refine lv_aload_n hx hb dX6_ask_117 rfl (lv_at hl 2 rfl) ?_
        refine lv_iload hx hb dX6_ask_118 (lv_at hl 0 rfl) ?_
        refine lv_iconst (v := nI 2) hx hb dX6_ask_120 (by decide) ?_
        refine lv_iload_n hx hb dX6_ask_121 rfl (lv_at hl 5 rfl) ?_
        obtain ⟨r19, m20, y18, h⟩ := t_bd h
        refine c_vv hx hb hml hown hts hK hw hS (fun _ h => h) (As := [.int (m6 1 (nI 1).toNatClampNeg), .int (nI 2), .int p2]) (rest := []) (c_X6_putAsked hcv (M0 := gs M0 9 m17) (m := m17) (hm := gs_at) y18) cf_X6_putAsked k_710 rfl rfl ⟨Nat.le_of_ble_eq_true rfl, Nat.le_of_ble_eq_true rfl⟩ (r_recv hK hw (v_md (by decide)) E_md rfl) rfl hl.1 rfl (Nat.le_of_ble_eq_true rfl) ⟨Nat.le_refl _, Nat.le_refl _⟩ dX6_ask_122 (fun H locs hw hS => ?_)
        rw [gs_gs] at hw
        refine lv_aload_n hx hb dX6_ask_125 rfl (lv_at hl 2 rfl) ?_
        refine lv_iload hx hb dX6_ask_126 (lv_at hl 0 rfl) ?_
        refine lv_iconst (v := nI 3) hx hb dX6_ask_128 (by decide) ?_
        refine lv_iload hx hb dX6_ask_129 (lv_at hl 6 rfl) ?_
        obtain ⟨r22, m23, y21, h⟩ := t_bd h
        refine c_vv hx hb hml hown hts hK hw hS (fun _ h => h) (As := [.int (m6 1 (nI 1).toNatClampNeg), .int (nI 3), .int p3]) (rest := []) (c_X6_putAsked hcv (M0 := gs M0 9 m20) (m := m20) (hm := gs_at) y21) cf_X6_putAsked k_710 rfl rfl ⟨Nat.le_of_ble_eq_true rfl, Nat.le_of_ble_eq_true rfl⟩ (r_recv hK hw (v_md (by decide)) E_md rfl) rfl hl.1 rfl (Nat.le_of_ble_eq_true rfl) ⟨Nat.le_refl _, Nat.le_refl _⟩ dX6_ask_131 (fun H locs hw hS => ?_)
        rw [gs_gs] at hw
        refine lv_aload_n hx hb dX6_ask_134 rfl (lv_at hl 2 rfl) ?_
        refine lv_iload hx hb dX6_ask_135 (lv_at hl 0 rfl) ?_
        refine lv_iconst (v := nI 4) hx hb dX6_ask_137 (by decide) ?_
        refine lv_iconst (v := nI 0) hx hb dX6_ask_138 (by decide) ?_
        obtain ⟨r25, m26, y24, h⟩ := t_bd h
        refine c_vv hx hb hml hown hts hK hw hS (fun _ h => h) (As := [.int (m6 1 (nI 1).toNatClampNeg), .int (nI 4), .int (nI 0)]) (rest := []) (c_X6_putAsked hcv (M0 := gs M0 9 m23) (m := m23) (hm := gs_at) y24) cf_X6_putAsked k_710 rfl rfl ⟨Nat.le_of_ble_eq_true rfl, Nat.le_of_ble_eq_true rfl⟩ (r_recv hK hw (v_md (by decide)) E_md rfl) rfl hl.1 rfl (Nat.le_of_ble_eq_true rfl) ⟨Nat.le_refl _, Nat.le_refl _⟩ dX6_ask_139 (fun H locs hw hS => ?_)
        rw [gs_gs] at hw
        refine lv_aload_n hx hb dX6_ask_142 rfl (lv_at hl 2 rfl) ?_
        obtain ⟨r28, m29, y27, h⟩ := t_bd h
        refine c_vv hx hb hml hown hts hK hw hS (fun _ h => h) (As := []) (rest := []) (c_X6_settle hcv (M0 := gs M0 9 m26) (m := m26) (hm := gs_at) y27) cf_X6_settle k_670 rfl rfl ⟨Nat.le_of_ble_eq_true rfl, Nat.le_of_ble_eq_true rfl⟩ (r_recv hK hw (v_md (by decide)) E_md rfl) rfl hl.1 rfl (Nat.le_of_ble_eq_true rfl) ⟨Nat.le_refl _, Nat.le_refl _⟩ dX6_ask_143 (fun H locs hw hS => ?_)
        rw [gs_gs] at hw
        refine lv_iload hx hb dX6_ask_146 (lv_at hl 0 rfl) ?_
        have e1 := (t_ret h).1
        have e2 := (t_ret h).2
        exact e_i hx hb hr hlk hw hS e1 (by rw [e2]) dX6_ask_148
      · replace h := t_pos h q3
        refine lv_bipush (v := -3) hx hb dX6_ask_76 (by decide) ?_
        have e1 := (t_ret h).1
        have e2 := (t_ret h).2
        exact e_i hx hb hr hlk hw hS e1 (by rw [e2]) dX6_ask_78
    · replace h := t_pos h q1
      refine lv_bipush (v := -2) hx hb dX6_ask_62 (by decide) ?_
      have e1 := (t_ret h).1
      have e2 := (t_ret h).2
      exact e_i hx hb hr hlk hw hS e1 (by rw [e2]) dX6_ask_64
  have L54 : ∀ (m : SM), f_X6_ask_L54 p0 p1 p2 p3 m = some (r, x) → JL p l e ({ frames := 6, cells := 0, slots := 0, locals := 137 } : Room) s md args below meth c D cy ad (MQ below (QI D cy ad r (gs M0 9 x)) args s 0 0 (AD ad)) (gs M0 9 m) 7 [(0, .ref (ad 9 0)), (1, .int p0), (2, .int p1), (3, .int p2), (4, .int p3)] 54 [] := by
    intro m h H locs hw hS ls hl
    unfold f_X6_ask_L54 at h
    refine lv_iconst (v := nI 0) hx hb dX6_ask_54 (by decide) ?_
    exact L55 m (nI 0) h H locs hw hS ls (lv_sub hl [0, 1, 2, 3, 4] rfl)
  have L33 : ∀ (m : SM) (s2 : Int32), f_X6_ask_L33 p0 p1 p2 p3 m s2 = some (r, x) → JL p l e ({ frames := 6, cells := 0, slots := 0, locals := 137 } : Room) s md args below meth c D cy ad (MQ below (QI D cy ad r (gs M0 9 x)) args s 0 0 (AD ad)) (gs M0 9 m) 7 [(0, .ref (ad 9 0)), (1, .int p0), (2, .int p1), (3, .int p2), (4, .int p3)] 33 [.int s2, .int (nI 0), .int p2] := by
    intro m s2 h H locs hw hS ls hl
    unfold f_X6_ask_L33 at h
    obtain ⟨r2, y1, h⟩ := t_b1 h
    refine c_si hx hb hml hown hts hK hw hS (fun _ h => h) (As := [.int p2, .int (nI 0), .int s2]) (rest := []) (c_X6_in hcv (M0 := gs M0 9 m) y1) cf_X6_in k_663 rfl rfl ⟨Nat.le_of_ble_eq_true rfl, Nat.le_of_ble_eq_true rfl⟩ rfl hl.1 rfl (Nat.le_of_ble_eq_true rfl) ⟨Nat.le_refl _, Nat.le_refl _⟩ dX6_ask_33 (fun H locs hw hS => ?_)
    refine lv_if_eq (tgt := 54) hx hb dX6_ask_36 (by decide) (fun q3 => ?_) (fun q3 => ?_)
    · replace h := t_pos h q3
      exact L54 m h H locs hw hS ls (lv_sub hl [0, 1, 2, 3, 4] rfl)
    · replace h := t_neg h q3
      refine lv_iload hx hb dX6_ask_39 (lv_at hl 4 rfl) ?_
      refine lv_iconst (v := nI 0) hx hb dX6_ask_41 (by decide) ?_
      refine lv_ldc (v := nI 99999) hx hb hown (hts _ k_738) dX6_ask_42 ?_
      obtain ⟨r5, y4, h⟩ := t_b1 h
      refine c_si hx hb hml hown hts hK hw hS (fun _ h => h) (As := [.int p3, .int (nI 0), .int (nI 99999)]) (rest := []) (c_X6_in hcv (M0 := gs M0 9 m) y4) cf_X6_in k_663 rfl rfl ⟨Nat.le_of_ble_eq_true rfl, Nat.le_of_ble_eq_true rfl⟩ rfl hl.1 rfl (Nat.le_of_ble_eq_true rfl) ⟨Nat.le_refl _, Nat.le_refl _⟩ dX6_ask_44 (fun H locs hw hS => ?_)
      refine lv_if_eq (tgt := 54) hx hb dX6_ask_47 (by decide) (fun q6 => ?_) (fun q6 => ?_)
      · replace h := t_pos h q6
        exact L54 m h H locs hw hS ls (lv_sub hl [0, 1, 2, 3, 4] rfl)
      · replace h := t_neg h q6
        refine lv_iconst (v := nI 1) hx hb dX6_ask_50 (by decide) ?_
        refine lv_goto (tgt := 55) hx hb dX6_ask_51 (by decide) ?_
        exact L55 m (nI 1) h H locs hw hS ls (lv_sub hl [0, 1, 2, 3, 4] rfl)
  unfold f_X6_ask at h
  have main : JL p l e ({ frames := 6, cells := 0, slots := 0, locals := 137 } : Room) s md args below meth c D cy ad (MQ below (QI D cy ad r (gs M0 9 x)) args s 0 0 (AD ad)) (gs M0 9 m) 7 [(0, .ref (ad 9 0)), (1, .int p0), (2, .int p1), (3, .int p2), (4, .int p3)] 0 [] := by
    intro H locs hw hS ls hl
    refine lv_iload_n hx hb dX6_ask_0 rfl (lv_at hl 1 rfl) ?_
    refine lv_iconst (v := nI 0) hx hb dX6_ask_1 (by decide) ?_
    refine lv_iconst (v := nI 4) hx hb dX6_ask_2 (by decide) ?_
    obtain ⟨r2, y1, h⟩ := t_b1 h
    refine c_si hx hb hml hown hts hK hw hS (fun _ h => h) (As := [.int p0, .int (nI 0), .int (nI 4)]) (rest := []) (c_X6_in hcv (M0 := gs M0 9 m) y1) cf_X6_in k_663 rfl rfl ⟨Nat.le_of_ble_eq_true rfl, Nat.le_of_ble_eq_true rfl⟩ rfl hl.1 rfl (Nat.le_of_ble_eq_true rfl) ⟨Nat.le_refl _, Nat.le_refl _⟩ dX6_ask_3 (fun H locs hw hS => ?_)
    refine lv_if_eq (tgt := 54) hx hb dX6_ask_6 (by decide) (fun q3 => ?_) (fun q3 => ?_)
    · replace h := t_pos h q3
      exact L54 m h H locs hw hS ls (lv_sub hl [0, 1, 2, 3, 4] rfl)
    · replace h := t_neg h q3
      refine lv_iload_n hx hb dX6_ask_9 rfl (lv_at hl 2 rfl) ?_
      refine lv_iconst (v := nI 1) hx hb dX6_ask_10 (by decide) ?_
      refine lv_bipush (v := nI 15) hx hb dX6_ask_11 (by decide) ?_
      obtain ⟨r5, y4, h⟩ := t_b1 h
      refine c_si hx hb hml hown hts hK hw hS (fun _ h => h) (As := [.int p1, .int (nI 1), .int (nI 15)]) (rest := []) (c_X6_in hcv (M0 := gs M0 9 m) y4) cf_X6_in k_663 rfl rfl ⟨Nat.le_of_ble_eq_true rfl, Nat.le_of_ble_eq_true rfl⟩ rfl hl.1 rfl (Nat.le_of_ble_eq_true rfl) ⟨Nat.le_refl _, Nat.le_refl _⟩ dX6_ask_13 (fun H locs hw hS => ?_)
      refine lv_if_eq (tgt := 54) hx hb dX6_ask_16 (by decide) (fun q6 => ?_) (fun q6 => ?_)
      · replace h := t_pos h q6
        exact L54 m h H locs hw hS ls (lv_sub hl [0, 1, 2, 3, 4] rfl)
      · replace h := t_neg h q6
        refine lv_iload_n hx hb dX6_ask_19 rfl (lv_at hl 3 rfl) ?_
        refine lv_iconst (v := nI 0) hx hb dX6_ask_20 (by decide) ?_
        refine lv_iload_n hx hb dX6_ask_21 rfl (lv_at hl 1 rfl) ?_
        refine lv_iconst (v := nI 1) hx hb dX6_ask_22 (by decide) ?_
        refine lv_icmp_ne (tgt := 32) hx hb dX6_ask_23 (by decide) (fun q7 => ?_) (fun q7 => ?_)
        · replace h := t_neg h q7
          refine lv_iconst (v := nI 0) hx hb dX6_ask_32 (by decide) ?_
          exact L33 m (nI 0) h H locs hw hS ls (lv_sub hl [0, 1, 2, 3, 4] rfl)
        · replace h := t_pos h q7
          refine lv_sipush (v := nI 999) hx hb dX6_ask_26 (by decide) ?_
          refine lv_goto (tgt := 33) hx hb dX6_ask_29 (by decide) ?_
          exact L33 m (nI 999) h H locs hw hS ls (lv_sub hl [0, 1, 2, 3, 4] rfl)
  exact main _ _ hw hS ls hl

theorem cf_X6_setTolerance : cfV RX6 yX6_setTolerance cX6_setTolerance 4 (some .int) 2 := ⟨⟨k_740, k_741, k_7, k_742⟩, by decide +kernel⟩
def f_X6_setTolerance (m : SM) (p0 : Int32) (p1 : Int32) : Option (Int32 × SM) :=
  b1 (f_X6_isQuestion m p0) fun r2 => (if r2 = (nI 0) then some ((-1 : Int32), m) else b1 (f_X6_in p1 (nI 0) (nI 99999)) fun r5 => (if r5 = (nI 0) then some ((-2 : Int32), m) else b1 (f_X6_asked m p0 (nI 4)) fun r8 => (if r8 = (nI 1) then some ((-4 : Int32), m) else b1 (f_X6_asked m p0 (nI 3)) fun r11 => (if r11 = p1 then some ((-5 : Int32), m) else bd (f_X6_record m) fun r14 m15 => bd (f_X6_putAsked m15 p0 (nI 3) p1) fun r17 m18 => bd (f_X6_settle m18) fun r20 m21 => some (r11, m21)))))
set_option maxHeartbeats 4000000 in
set_option maxRecDepth 100000 in
theorem c_X6_setTolerance {l : Launch} {D : va_G} {cy : Nat → ClassId} {ad : Nat → Nat → Nat} (hcv : CV ad) {M0 : MM} {m : SM} (hm : M0 9 = m) {p0 p1 : Int32} {r : Int32} {x : SM} (h : f_X6_setTolerance m p0 p1 = some (r, x)) : Met l yX6_setTolerance (.code yX6_setTolerance cX6_setTolerance 4 (some .int) :: TB) ({ frames := 6, cells := 0, slots := 0, locals := 137 } : Room) (PW D cy ad M0 [.ref (ad 9 0), .int p0, .int p1]) (QI D cy ad r (gs M0 9 x)) 0 0 (AD ad) := by
  refine m_in (by decide +kernel) (Nat.le_of_ble_eq_true rfl) ?_
  intro p e s md args below meth c hC hw hS ls hl
  obtain ⟨hx, hb, hr, hml, hown, hts, hK, hlk⟩ := hC
  have hl : lv_has ls 4 [(0, .ref (ad 9 0)), (1, .int p0), (2, .int p1)] := hl
  rw [← gs_same hm] at hw
  unfold f_X6_setTolerance at h
  have main : JL p l e ({ frames := 6, cells := 0, slots := 0, locals := 137 } : Room) s md args below meth c D cy ad (MQ below (QI D cy ad r (gs M0 9 x)) args s 0 0 (AD ad)) (gs M0 9 m) 4 [(0, .ref (ad 9 0)), (1, .int p0), (2, .int p1)] 0 [] := by
    intro H locs hw hS ls hl
    refine lv_aload_n hx hb dX6_setTolerance_0 rfl (lv_at hl 0 rfl) ?_
    refine lv_iload_n hx hb dX6_setTolerance_1 rfl (lv_at hl 1 rfl) ?_
    obtain ⟨r2, y1, h⟩ := t_b1 h
    refine c_vi hx hb hml hown hts hK hw hS (fun _ h => h) (As := [.int p0]) (rest := []) (c_X6_isQuestion hcv (M0 := gs M0 9 m) (m := m) (hm := gs_at) y1) cf_X6_isQuestion k_743 rfl rfl ⟨Nat.le_of_ble_eq_true rfl, Nat.le_of_ble_eq_true rfl⟩ (r_recv hK hw (v_md (by decide)) E_md rfl) rfl hl.1 rfl (Nat.le_of_ble_eq_true rfl) ⟨Nat.le_refl _, Nat.le_refl _⟩ dX6_setTolerance_2 (fun H locs hw hS => ?_)
    refine lv_if_ne (tgt := 10) hx hb dX6_setTolerance_5 (by decide) (fun q3 => ?_) (fun q3 => ?_)
    · replace h := t_neg h q3
      refine lv_iload_n hx hb dX6_setTolerance_10 rfl (lv_at hl 2 rfl) ?_
      refine lv_iconst (v := nI 0) hx hb dX6_setTolerance_11 (by decide) ?_
      refine lv_ldc (v := nI 99999) hx hb hown (hts _ k_738) dX6_setTolerance_12 ?_
      obtain ⟨r5, y4, h⟩ := t_b1 h
      refine c_si hx hb hml hown hts hK hw hS (fun _ h => h) (As := [.int p1, .int (nI 0), .int (nI 99999)]) (rest := []) (c_X6_in hcv (M0 := gs M0 9 m) y4) cf_X6_in k_663 rfl rfl ⟨Nat.le_of_ble_eq_true rfl, Nat.le_of_ble_eq_true rfl⟩ rfl hl.1 rfl (Nat.le_of_ble_eq_true rfl) ⟨Nat.le_refl _, Nat.le_refl _⟩ dX6_setTolerance_14 (fun H locs hw hS => ?_)
      refine lv_if_ne (tgt := 23) hx hb dX6_setTolerance_17 (by decide) (fun q6 => ?_) (fun q6 => ?_)
      · replace h := t_neg h q6
        refine lv_aload_n hx hb dX6_setTolerance_23 rfl (lv_at hl 0 rfl) ?_
        refine lv_iload_n hx hb dX6_setTolerance_24 rfl (lv_at hl 1 rfl) ?_
        refine lv_iconst (v := nI 4) hx hb dX6_setTolerance_25 (by decide) ?_
        obtain ⟨r8, y7, h⟩ := t_b1 h
        refine c_vi hx hb hml hown hts hK hw hS (fun _ h => h) (As := [.int p0, .int (nI 4)]) (rest := []) (c_X6_asked hcv (M0 := gs M0 9 m) (m := m) (hm := gs_at) y7) cf_X6_asked k_674 rfl rfl ⟨Nat.le_of_ble_eq_true rfl, Nat.le_of_ble_eq_true rfl⟩ (r_recv hK hw (v_md (by decide)) E_md rfl) rfl hl.1 rfl (Nat.le_of_ble_eq_true rfl) ⟨Nat.le_refl _, Nat.le_refl _⟩ dX6_setTolerance_26 (fun H locs hw hS => ?_)
        refine lv_iconst (v := nI 1) hx hb dX6_setTolerance_29 (by decide) ?_
        refine lv_icmp_ne (tgt := 36) hx hb dX6_setTolerance_30 (by decide) (fun q9 => ?_) (fun q9 => ?_)
        · replace h := t_neg h q9
          refine lv_aload_n hx hb dX6_setTolerance_36 rfl (lv_at hl 0 rfl) ?_
          refine lv_iload_n hx hb dX6_setTolerance_37 rfl (lv_at hl 1 rfl) ?_
          refine lv_iconst (v := nI 3) hx hb dX6_setTolerance_38 (by decide) ?_
          obtain ⟨r11, y10, h⟩ := t_b1 h
          refine c_vi hx hb hml hown hts hK hw hS (fun _ h => h) (As := [.int p0, .int (nI 3)]) (rest := []) (c_X6_asked hcv (M0 := gs M0 9 m) (m := m) (hm := gs_at) y10) cf_X6_asked k_674 rfl rfl ⟨Nat.le_of_ble_eq_true rfl, Nat.le_of_ble_eq_true rfl⟩ (r_recv hK hw (v_md (by decide)) E_md rfl) rfl hl.1 rfl (Nat.le_of_ble_eq_true rfl) ⟨Nat.le_refl _, Nat.le_refl _⟩ dX6_setTolerance_39 (fun H locs hw hS => ?_)
          refine lv_istore_n (lv' := [(3, .int r11), (0, .ref (ad 9 0)), (1, .int p0), (2, .int p1)]) hx hb dX6_setTolerance_42 rfl hl (by decide) rfl (fun ls hl => ?_)
          refine lv_iload_n hx hb dX6_setTolerance_43 rfl (lv_at hl 0 rfl) ?_
          refine lv_iload_n hx hb dX6_setTolerance_44 rfl (lv_at hl 3 rfl) ?_
          refine lv_icmp_ne (tgt := 51) hx hb dX6_setTolerance_45 (by decide) (fun q12 => ?_) (fun q12 => ?_)
          · replace h := t_neg h q12
            refine lv_aload_n hx hb dX6_setTolerance_51 rfl (lv_at hl 1 rfl) ?_
            obtain ⟨r14, m15, y13, h⟩ := t_bd h
            refine c_vv hx hb hml hown hts hK hw hS (fun _ h => h) (As := []) (rest := []) (c_X6_record hcv (M0 := gs M0 9 m) (m := m) (hm := gs_at) y13) cf_X6_record k_619 rfl rfl ⟨Nat.le_of_ble_eq_true rfl, Nat.le_of_ble_eq_true rfl⟩ (r_recv hK hw (v_md (by decide)) E_md rfl) rfl hl.1 rfl (Nat.le_of_ble_eq_true rfl) ⟨Nat.le_refl _, Nat.le_refl _⟩ dX6_setTolerance_52 (fun H locs hw hS => ?_)
            rw [gs_gs] at hw
            refine lv_aload_n hx hb dX6_setTolerance_55 rfl (lv_at hl 1 rfl) ?_
            refine lv_iload_n hx hb dX6_setTolerance_56 rfl (lv_at hl 2 rfl) ?_
            refine lv_iconst (v := nI 3) hx hb dX6_setTolerance_57 (by decide) ?_
            refine lv_iload_n hx hb dX6_setTolerance_58 rfl (lv_at hl 3 rfl) ?_
            obtain ⟨r17, m18, y16, h⟩ := t_bd h
            refine c_vv hx hb hml hown hts hK hw hS (fun _ h => h) (As := [.int p0, .int (nI 3), .int p1]) (rest := []) (c_X6_putAsked hcv (M0 := gs M0 9 m15) (m := m15) (hm := gs_at) y16) cf_X6_putAsked k_710 rfl rfl ⟨Nat.le_of_ble_eq_true rfl, Nat.le_of_ble_eq_true rfl⟩ (r_recv hK hw (v_md (by decide)) E_md rfl) rfl hl.1 rfl (Nat.le_of_ble_eq_true rfl) ⟨Nat.le_refl _, Nat.le_refl _⟩ dX6_setTolerance_59 (fun H locs hw hS => ?_)
            rw [gs_gs] at hw
            refine lv_aload_n hx hb dX6_setTolerance_62 rfl (lv_at hl 1 rfl) ?_
            obtain ⟨r20, m21, y19, h⟩ := t_bd h
            refine c_vv hx hb hml hown hts hK hw hS (fun _ h => h) (As := []) (rest := []) (c_X6_settle hcv (M0 := gs M0 9 m18) (m := m18) (hm := gs_at) y19) cf_X6_settle k_670 rfl rfl ⟨Nat.le_of_ble_eq_true rfl, Nat.le_of_ble_eq_true rfl⟩ (r_recv hK hw (v_md (by decide)) E_md rfl) rfl hl.1 rfl (Nat.le_of_ble_eq_true rfl) ⟨Nat.le_refl _, Nat.le_refl _⟩ dX6_setTolerance_63 (fun H locs hw hS => ?_)
            rw [gs_gs] at hw
            refine lv_iload_n hx hb dX6_setTolerance_66 rfl (lv_at hl 0 rfl) ?_
            have e1 := (t_ret h).1
            have e2 := (t_ret h).2
            exact e_i hx hb hr hlk hw hS e1 (by rw [e2]) dX6_setTolerance_67
          · replace h := t_pos h q12
            refine lv_bipush (v := -5) hx hb dX6_setTolerance_48 (by decide) ?_
            have e1 := (t_ret h).1
            have e2 := (t_ret h).2
            exact e_i hx hb hr hlk hw hS e1 (by rw [e2]) dX6_setTolerance_50
        · replace h := t_pos h q9
          refine lv_bipush (v := -4) hx hb dX6_setTolerance_33 (by decide) ?_
          have e1 := (t_ret h).1
          have e2 := (t_ret h).2
          exact e_i hx hb hr hlk hw hS e1 (by rw [e2]) dX6_setTolerance_35
      · replace h := t_pos h q6
        refine lv_bipush (v := -2) hx hb dX6_setTolerance_20 (by decide) ?_
        have e1 := (t_ret h).1
        have e2 := (t_ret h).2
        exact e_i hx hb hr hlk hw hS e1 (by rw [e2]) dX6_setTolerance_22
    · replace h := t_pos h q3
      refine lv_iconst (v := -1) hx hb dX6_setTolerance_8 (by decide) ?_
      have e1 := (t_ret h).1
      have e2 := (t_ret h).2
      exact e_i hx hb hr hlk hw hS e1 (by rw [e2]) dX6_setTolerance_9
  exact main _ _ hw hS ls hl

theorem cf_X6_stop : cfV RX6 yX6_stop cX6_stop 2 (some .int) 1 := ⟨⟨k_748, k_749, k_7, k_750⟩, by decide +kernel⟩
def f_X6_stop (m : SM) (p0 : Int32) : Option (Int32 × SM) :=
  b1 (f_X6_isQuestion m p0) fun r2 => (if r2 = (nI 0) then some ((-1 : Int32), m) else b1 (f_X6_asked m p0 (nI 4)) fun r5 => (if r5 = (nI 1) then some ((-4 : Int32), m) else b1 (f_X6_rowsOf m p0 (nI 3)) fun r8 => (if r8 = (nI 0) then some ((-4 : Int32), m) else bd (f_X6_record m) fun r11 m12 => bd (f_X6_stopIt m12 p0) fun r14 m15 => b1 (f_X6_asked m15 p0 (nI 7)) fun r17 => some (r17, m15))))
set_option maxHeartbeats 4000000 in
set_option maxRecDepth 100000 in
theorem c_X6_stop {l : Launch} {D : va_G} {cy : Nat → ClassId} {ad : Nat → Nat → Nat} (hcv : CV ad) {M0 : MM} {m : SM} (hm : M0 9 = m) {p0 : Int32} {r : Int32} {x : SM} (h : f_X6_stop m p0 = some (r, x)) : Met l yX6_stop (.code yX6_stop cX6_stop 2 (some .int) :: TB) ({ frames := 5, cells := 0, slots := 0, locals := 115 } : Room) (PW D cy ad M0 [.ref (ad 9 0), .int p0]) (QI D cy ad r (gs M0 9 x)) 0 0 (AD ad) := by
  refine m_in (by decide +kernel) (Nat.le_of_ble_eq_true rfl) ?_
  intro p e s md args below meth c hC hw hS ls hl
  obtain ⟨hx, hb, hr, hml, hown, hts, hK, hlk⟩ := hC
  have hl : lv_has ls 2 [(0, .ref (ad 9 0)), (1, .int p0)] := hl
  rw [← gs_same hm] at hw
  unfold f_X6_stop at h
  have main : JL p l e ({ frames := 5, cells := 0, slots := 0, locals := 115 } : Room) s md args below meth c D cy ad (MQ below (QI D cy ad r (gs M0 9 x)) args s 0 0 (AD ad)) (gs M0 9 m) 2 [(0, .ref (ad 9 0)), (1, .int p0)] 0 [] := by
    intro H locs hw hS ls hl
    refine lv_aload_n hx hb dX6_stop_0 rfl (lv_at hl 0 rfl) ?_
    refine lv_iload_n hx hb dX6_stop_1 rfl (lv_at hl 1 rfl) ?_
    obtain ⟨r2, y1, h⟩ := t_b1 h
    refine c_vi hx hb hml hown hts hK hw hS (fun _ h => h) (As := [.int p0]) (rest := []) (c_X6_isQuestion hcv (M0 := gs M0 9 m) (m := m) (hm := gs_at) y1) cf_X6_isQuestion k_743 rfl rfl ⟨Nat.le_of_ble_eq_true rfl, Nat.le_of_ble_eq_true rfl⟩ (r_recv hK hw (v_md (by decide)) E_md rfl) rfl hl.1 rfl (Nat.le_of_ble_eq_true rfl) ⟨Nat.le_refl _, Nat.le_refl _⟩ dX6_stop_2 (fun H locs hw hS => ?_)
    refine lv_if_ne (tgt := 10) hx hb dX6_stop_5 (by decide) (fun q3 => ?_) (fun q3 => ?_)
    · replace h := t_neg h q3
      refine lv_aload_n hx hb dX6_stop_10 rfl (lv_at hl 0 rfl) ?_
      refine lv_iload_n hx hb dX6_stop_11 rfl (lv_at hl 1 rfl) ?_
      refine lv_iconst (v := nI 4) hx hb dX6_stop_12 (by decide) ?_
      obtain ⟨r5, y4, h⟩ := t_b1 h
      refine c_vi hx hb hml hown hts hK hw hS (fun _ h => h) (As := [.int p0, .int (nI 4)]) (rest := []) (c_X6_asked hcv (M0 := gs M0 9 m) (m := m) (hm := gs_at) y4) cf_X6_asked k_674 rfl rfl ⟨Nat.le_of_ble_eq_true rfl, Nat.le_of_ble_eq_true rfl⟩ (r_recv hK hw (v_md (by decide)) E_md rfl) rfl hl.1 rfl (Nat.le_of_ble_eq_true rfl) ⟨Nat.le_refl _, Nat.le_refl _⟩ dX6_stop_13 (fun H locs hw hS => ?_)
      refine lv_iconst (v := nI 1) hx hb dX6_stop_16 (by decide) ?_
      refine lv_icmp_eq (tgt := 29) hx hb dX6_stop_17 (by decide) (fun q6 => ?_) (fun q6 => ?_)
      · replace h := t_pos h q6
        refine lv_bipush (v := -4) hx hb dX6_stop_29 (by decide) ?_
        have e1 := (t_ret h).1
        have e2 := (t_ret h).2
        exact e_i hx hb hr hlk hw hS e1 (by rw [e2]) dX6_stop_31
      · replace h := t_neg h q6
        refine lv_aload_n hx hb dX6_stop_20 rfl (lv_at hl 0 rfl) ?_
        refine lv_iload_n hx hb dX6_stop_21 rfl (lv_at hl 1 rfl) ?_
        refine lv_iconst (v := nI 3) hx hb dX6_stop_22 (by decide) ?_
        obtain ⟨r8, y7, h⟩ := t_b1 h
        refine c_vi hx hb hml hown hts hK hw hS (fun _ h => h) (As := [.int p0, .int (nI 3)]) (rest := []) (c_X6_rowsOf hcv (M0 := gs M0 9 m) (m := m) (hm := gs_at) y7) cf_X6_rowsOf k_678 rfl rfl ⟨Nat.le_of_ble_eq_true rfl, Nat.le_of_ble_eq_true rfl⟩ (r_recv hK hw (v_md (by decide)) E_md rfl) rfl hl.1 rfl (Nat.le_of_ble_eq_true rfl) ⟨Nat.le_refl _, Nat.le_refl _⟩ dX6_stop_23 (fun H locs hw hS => ?_)
        refine lv_if_ne (tgt := 32) hx hb dX6_stop_26 (by decide) (fun q9 => ?_) (fun q9 => ?_)
        · replace h := t_neg h q9
          refine lv_aload_n hx hb dX6_stop_32 rfl (lv_at hl 0 rfl) ?_
          obtain ⟨r11, m12, y10, h⟩ := t_bd h
          refine c_vv hx hb hml hown hts hK hw hS (fun _ h => h) (As := []) (rest := []) (c_X6_record hcv (M0 := gs M0 9 m) (m := m) (hm := gs_at) y10) cf_X6_record k_619 rfl rfl ⟨Nat.le_of_ble_eq_true rfl, Nat.le_of_ble_eq_true rfl⟩ (r_recv hK hw (v_md (by decide)) E_md rfl) rfl hl.1 rfl (Nat.le_of_ble_eq_true rfl) ⟨Nat.le_refl _, Nat.le_refl _⟩ dX6_stop_33 (fun H locs hw hS => ?_)
          rw [gs_gs] at hw
          refine lv_aload_n hx hb dX6_stop_36 rfl (lv_at hl 0 rfl) ?_
          refine lv_iload_n hx hb dX6_stop_37 rfl (lv_at hl 1 rfl) ?_
          obtain ⟨r14, m15, y13, h⟩ := t_bd h
          refine c_vv hx hb hml hown hts hK hw hS (fun _ h => h) (As := [.int p0]) (rest := []) (c_X6_stopIt hcv (M0 := gs M0 9 m12) (m := m12) (hm := gs_at) y13) cf_X6_stopIt k_706 rfl rfl ⟨Nat.le_of_ble_eq_true rfl, Nat.le_of_ble_eq_true rfl⟩ (r_recv hK hw (v_md (by decide)) E_md rfl) rfl hl.1 rfl (Nat.le_of_ble_eq_true rfl) ⟨Nat.le_refl _, Nat.le_refl _⟩ dX6_stop_38 (fun H locs hw hS => ?_)
          rw [gs_gs] at hw
          refine lv_aload_n hx hb dX6_stop_41 rfl (lv_at hl 0 rfl) ?_
          refine lv_iload_n hx hb dX6_stop_42 rfl (lv_at hl 1 rfl) ?_
          refine lv_bipush (v := nI 7) hx hb dX6_stop_43 (by decide) ?_
          obtain ⟨r17, y16, h⟩ := t_b1 h
          refine c_vi hx hb hml hown hts hK hw hS (fun _ h => h) (As := [.int p0, .int (nI 7)]) (rest := []) (c_X6_asked hcv (M0 := gs M0 9 m15) (m := m15) (hm := gs_at) y16) cf_X6_asked k_674 rfl rfl ⟨Nat.le_of_ble_eq_true rfl, Nat.le_of_ble_eq_true rfl⟩ (r_recv hK hw (v_md (by decide)) E_md rfl) rfl hl.1 rfl (Nat.le_of_ble_eq_true rfl) ⟨Nat.le_refl _, Nat.le_refl _⟩ dX6_stop_45 (fun H locs hw hS => ?_)
          have e1 := (t_ret h).1
          have e2 := (t_ret h).2
          exact e_i hx hb hr hlk hw hS e1 (by rw [e2]) dX6_stop_48
        · replace h := t_pos h q9
          refine lv_bipush (v := -4) hx hb dX6_stop_29 (by decide) ?_
          have e1 := (t_ret h).1
          have e2 := (t_ret h).2
          exact e_i hx hb hr hlk hw hS e1 (by rw [e2]) dX6_stop_31
    · replace h := t_pos h q3
      refine lv_iconst (v := -1) hx hb dX6_stop_8 (by decide) ?_
      have e1 := (t_ret h).1
      have e2 := (t_ret h).2
      exact e_i hx hb hr hlk hw hS e1 (by rw [e2]) dX6_stop_9
  exact main _ _ hw hS ls hl

theorem cf_X6_drop : cfV RX6 yX6_drop cX6_drop 4 (some .int) 1 := ⟨⟨k_752, k_753, k_7, k_754⟩, by decide +kernel⟩
def f_X6_drop_L75 (p0 : Int32) : Nat → SM → Int32 → Int32 → Option (Int32 × SM)
  | 0, _, _, _ => none
  | n + 1, m, x2, x3 => (if (x2 + (nI 8)) ≤ x3 then gd (nI 1) 220 (some ((m 1 (nI 1).toNatClampNeg), m)) else gd x3 220 (lt1 (up m 1 x3.toNatClampNeg (nI 0)) fun m5 => f_X6_drop_L75 p0 n m5 x2 (x3 + (nI 1))))
def f_X6_drop_L73 (p0 : Int32) (m : SM) (x2 : Int32) : Option (Int32 × SM) :=
  f_X6_drop_L75 p0 FU m x2 x2
def f_X6_drop_L47 (p0 : Int32) : Nat → SM → Int32 → Int32 → Option (Int32 × SM)
  | 0, _, _, _ => none
  | n + 1, m, x2, x3 => (if x2 ≤ x3 then f_X6_drop_L73 p0 m x2 else gd (x3 + (nI 8)) 220 (gd x3 220 (lt1 (up m 1 x3.toNatClampNeg (m 1 (x3 + (nI 8)).toNatClampNeg)) fun m5 => f_X6_drop_L47 p0 n m5 x2 (x3 + (nI 1)))))
def f_X6_drop (m : SM) (p0 : Int32) : Option (Int32 × SM) :=
  b1 (f_X6_isQuestion m p0) fun r2 => (if r2 = (nI 0) then some ((-1 : Int32), m) else bd (f_X6_record m) fun r5 m6 => gd (nI 1) 220 (gd (nI 1) 220 (lt1 (up m6 1 (nI 1).toNatClampNeg ((m6 1 (nI 1).toNatClampNeg) - (nI 1))) fun m10 => gd (nI 1) 220 (f_X6_drop_L47 p0 FU m10 ((nI 172) + ((nI 8) * (m10 1 (nI 1).toNatClampNeg))) ((nI 172) + ((nI 8) * p0))))))
set_option maxHeartbeats 4000000 in
set_option maxRecDepth 100000 in
theorem c_X6_drop {l : Launch} {D : va_G} {cy : Nat → ClassId} {ad : Nat → Nat → Nat} (hcv : CV ad) {M0 : MM} {m : SM} (hm : M0 9 = m) {p0 : Int32} {r : Int32} {x : SM} (h : f_X6_drop m p0 = some (r, x)) : Met l yX6_drop (.code yX6_drop cX6_drop 4 (some .int) :: TB) ({ frames := 1, cells := 0, slots := 0, locals := 21 } : Room) (PW D cy ad M0 [.ref (ad 9 0), .int p0]) (QI D cy ad r (gs M0 9 x)) 0 0 (AD ad) := by
  refine m_in (by decide +kernel) (Nat.le_of_ble_eq_true rfl) ?_
  intro p e s md args below meth c hC hw hS ls hl
  obtain ⟨hx, hb, hr, hml, hown, hts, hK, hlk⟩ := hC
  have hl : lv_has ls 4 [(0, .ref (ad 9 0)), (1, .int p0)] := hl
  rw [← gs_same hm] at hw
  have L75 : ∀ (n : Nat), ∀ (m : SM) (x2 : Int32) (x3 : Int32), f_X6_drop_L75 p0 n m x2 x3 = some (r, x) → JL p l e ({ frames := 1, cells := 0, slots := 0, locals := 21 } : Room) s md args below meth c D cy ad (MQ below (QI D cy ad r (gs M0 9 x)) args s 0 0 (AD ad)) (gs M0 9 m) 4 [(0, .ref (ad 9 0)), (2, .int x2), (3, .int x3)] 75 [] := by
    intro n
    induction n with
    | zero =>
      intro m x2 x3 h
      cases h
    | succ n ih =>
      intro m x2 x3 h H locs hw hS ls hl
      rw [f_X6_drop_L75.eq_2] at h
      refine lv_iload_n hx hb dX6_drop_75 rfl (lv_at hl 2 rfl) ?_
      refine lv_iload_n hx hb dX6_drop_76 rfl (lv_at hl 1 rfl) ?_
      refine lv_bipush (v := nI 8) hx hb dX6_drop_77 (by decide) ?_
      refine lv_iadd hx hb dX6_drop_79 ?_
      refine lv_icmp_ge (tgt := 96) hx hb dX6_drop_80 (by decide) (fun q1 => ?_) (fun q1 => ?_)
      · replace h := t_pos h q1
        refine lv_aload_n hx hb dX6_drop_96 rfl (lv_at hl 0 rfl) ?_
        refine r_get hx hb hts hown hK hw (v_md (by decide)) gs_atc E_md inX6 rfl 0 (by decide) k_544 rfl rfl dX6_drop_97 ?_
        refine lv_iconst (v := nI 1) hx hb dX6_drop_100 (by decide) ?_
        obtain ⟨q2, h⟩ := t_gd h
        refine r_iald hx hb hK hw (v_md (by decide)) gs_atc E_m1 q2 dX6_drop_101 ?_
        have e1 := (t_ret h).1
        have e2 := (t_ret h).2
        exact e_i hx hb hr hlk hw hS e1 (by rw [e2]) dX6_drop_102
      · replace h := t_neg h q1
        refine lv_aload_n hx hb dX6_drop_83 rfl (lv_at hl 0 rfl) ?_
        refine r_get hx hb hts hown hK hw (v_md (by decide)) gs_atc E_md inX6 rfl 0 (by decide) k_544 rfl rfl dX6_drop_84 ?_
        refine lv_iload_n hx hb dX6_drop_87 rfl (lv_at hl 2 rfl) ?_
        refine lv_iconst (v := nI 0) hx hb dX6_drop_88 (by decide) ?_
        obtain ⟨q3, h⟩ := t_gd h
        obtain ⟨m5, e4, h⟩ := t_lt h
        refine r_iast hx hb hK hcv hw hS (v_md (by decide)) gs_atc (fun _ => E_m1) q3 (gs_up e4) dX6_drop_89 (fun H locs hw hS => ?_)
        refine lv_iinc (v := (x3 + (nI 1))) (lv' := [(3, .int (x3 + (nI 1))), (0, .ref (ad 9 0)), (2, .int x2)]) hx hb dX6_drop_90 hl (k := 2) rfl rfl (by decide) rfl (fun ls hl => ?_)
        refine lv_goto (tgt := 75) hx hb dX6_drop_93 (by decide) ?_
        exact ih m5 x2 (x3 + (nI 1)) h H locs hw hS ls (lv_sub hl [1, 2, 0] rfl)
  have L73 : ∀ (m : SM) (x2 : Int32), f_X6_drop_L73 p0 m x2 = some (r, x) → JL p l e ({ frames := 1, cells := 0, slots := 0, locals := 21 } : Room) s md args below meth c D cy ad (MQ below (QI D cy ad r (gs M0 9 x)) args s 0 0 (AD ad)) (gs M0 9 m) 4 [(0, .ref (ad 9 0)), (2, .int x2)] 73 [] := by
    intro m x2 h H locs hw hS ls hl
    unfold f_X6_drop_L73 at h
    refine lv_iload_n hx hb dX6_drop_73 rfl (lv_at hl 1 rfl) ?_
    refine lv_istore_n (lv' := [(3, .int x2), (0, .ref (ad 9 0)), (2, .int x2)]) hx hb dX6_drop_74 rfl hl (by decide) rfl (fun ls hl => ?_)
    exact L75 FU m x2 x2 h H locs hw hS ls (lv_sub hl [1, 2, 0] rfl)
  have L47 : ∀ (n : Nat), ∀ (m : SM) (x2 : Int32) (x3 : Int32), f_X6_drop_L47 p0 n m x2 x3 = some (r, x) → JL p l e ({ frames := 1, cells := 0, slots := 0, locals := 21 } : Room) s md args below meth c D cy ad (MQ below (QI D cy ad r (gs M0 9 x)) args s 0 0 (AD ad)) (gs M0 9 m) 4 [(0, .ref (ad 9 0)), (2, .int x2), (3, .int x3)] 47 [] := by
    intro n
    induction n with
    | zero =>
      intro m x2 x3 h
      cases h
    | succ n ih =>
      intro m x2 x3 h H locs hw hS ls hl
      rw [f_X6_drop_L47.eq_2] at h
      refine lv_iload_n hx hb dX6_drop_47 rfl (lv_at hl 2 rfl) ?_
      refine lv_iload_n hx hb dX6_drop_48 rfl (lv_at hl 1 rfl) ?_
      refine lv_icmp_ge (tgt := 73) hx hb dX6_drop_49 (by decide) (fun q1 => ?_) (fun q1 => ?_)
      · replace h := t_pos h q1
        exact L73 m x2 h H locs hw hS ls (lv_sub hl [0, 1] rfl)
      · replace h := t_neg h q1
        refine lv_aload_n hx hb dX6_drop_52 rfl (lv_at hl 0 rfl) ?_
        refine r_get hx hb hts hown hK hw (v_md (by decide)) gs_atc E_md inX6 rfl 0 (by decide) k_544 rfl rfl dX6_drop_53 ?_
        refine lv_iload_n hx hb dX6_drop_56 rfl (lv_at hl 2 rfl) ?_
        refine lv_aload_n hx hb dX6_drop_57 rfl (lv_at hl 0 rfl) ?_
        refine r_get hx hb hts hown hK hw (v_md (by decide)) gs_atc E_md inX6 rfl 0 (by decide) k_544 rfl rfl dX6_drop_58 ?_
        refine lv_iload_n hx hb dX6_drop_61 rfl (lv_at hl 2 rfl) ?_
        refine lv_bipush (v := nI 8) hx hb dX6_drop_62 (by decide) ?_
        refine lv_iadd hx hb dX6_drop_64 ?_
        obtain ⟨q2, h⟩ := t_gd h
        refine r_iald hx hb hK hw (v_md (by decide)) gs_atc E_m1 q2 dX6_drop_65 ?_
        obtain ⟨q3, h⟩ := t_gd h
        obtain ⟨m5, e4, h⟩ := t_lt h
        refine r_iast hx hb hK hcv hw hS (v_md (by decide)) gs_atc (fun _ => E_m1) q3 (gs_up e4) dX6_drop_66 (fun H locs hw hS => ?_)
        refine lv_iinc (v := (x3 + (nI 1))) (lv' := [(3, .int (x3 + (nI 1))), (0, .ref (ad 9 0)), (2, .int x2)]) hx hb dX6_drop_67 hl (k := 2) rfl rfl (by decide) rfl (fun ls hl => ?_)
        refine lv_goto (tgt := 47) hx hb dX6_drop_70 (by decide) ?_
        exact ih m5 x2 (x3 + (nI 1)) h H locs hw hS ls (lv_sub hl [1, 2, 0] rfl)
  unfold f_X6_drop at h
  have main : JL p l e ({ frames := 1, cells := 0, slots := 0, locals := 21 } : Room) s md args below meth c D cy ad (MQ below (QI D cy ad r (gs M0 9 x)) args s 0 0 (AD ad)) (gs M0 9 m) 4 [(0, .ref (ad 9 0)), (1, .int p0)] 0 [] := by
    intro H locs hw hS ls hl
    refine lv_aload_n hx hb dX6_drop_0 rfl (lv_at hl 0 rfl) ?_
    refine lv_iload_n hx hb dX6_drop_1 rfl (lv_at hl 1 rfl) ?_
    obtain ⟨r2, y1, h⟩ := t_b1 h
    refine c_vi hx hb hml hown hts hK hw hS (fun _ h => h) (As := [.int p0]) (rest := []) (c_X6_isQuestion hcv (M0 := gs M0 9 m) (m := m) (hm := gs_at) y1) cf_X6_isQuestion k_743 rfl rfl ⟨Nat.le_of_ble_eq_true rfl, Nat.le_of_ble_eq_true rfl⟩ (r_recv hK hw (v_md (by decide)) E_md rfl) rfl hl.1 rfl (Nat.le_of_ble_eq_true rfl) ⟨Nat.le_refl _, Nat.le_refl _⟩ dX6_drop_2 (fun H locs hw hS => ?_)
    refine lv_if_ne (tgt := 10) hx hb dX6_drop_5 (by decide) (fun q3 => ?_) (fun q3 => ?_)
    · replace h := t_neg h q3
      refine lv_aload_n hx hb dX6_drop_10 rfl (lv_at hl 0 rfl) ?_
      obtain ⟨r5, m6, y4, h⟩ := t_bd h
      refine c_vv hx hb hml hown hts hK hw hS (fun _ h => h) (As := []) (rest := []) (c_X6_record hcv (M0 := gs M0 9 m) (m := m) (hm := gs_at) y4) cf_X6_record k_619 rfl rfl ⟨Nat.le_of_ble_eq_true rfl, Nat.le_of_ble_eq_true rfl⟩ (r_recv hK hw (v_md (by decide)) E_md rfl) rfl hl.1 rfl (Nat.le_of_ble_eq_true rfl) ⟨Nat.le_refl _, Nat.le_refl _⟩ dX6_drop_11 (fun H locs hw hS => ?_)
      rw [gs_gs] at hw
      refine lv_aload_n hx hb dX6_drop_14 rfl (lv_at hl 0 rfl) ?_
      refine r_get hx hb hts hown hK hw (v_md (by decide)) gs_atc E_md inX6 rfl 0 (by decide) k_544 rfl rfl dX6_drop_15 ?_
      refine lv_iconst (v := nI 1) hx hb dX6_drop_18 (by decide) ?_
      refine lv_dup2_11 hx hb dX6_drop_19 rfl rfl ?_
      obtain ⟨q7, h⟩ := t_gd h
      refine r_iald hx hb hK hw (v_md (by decide)) gs_atc E_m1 q7 dX6_drop_20 ?_
      refine lv_iconst (v := nI 1) hx hb dX6_drop_21 (by decide) ?_
      refine lv_isub hx hb dX6_drop_22 ?_
      obtain ⟨q8, h⟩ := t_gd h
      obtain ⟨m10, e9, h⟩ := t_lt h
      refine r_iast hx hb hK hcv hw hS (v_md (by decide)) gs_atc (fun _ => E_m1) q8 (gs_up e9) dX6_drop_23 (fun H locs hw hS => ?_)
      refine lv_sipush (v := nI 172) hx hb dX6_drop_24 (by decide) ?_
      refine lv_bipush (v := nI 8) hx hb dX6_drop_27 (by decide) ?_
      refine lv_aload_n hx hb dX6_drop_29 rfl (lv_at hl 0 rfl) ?_
      refine r_get hx hb hts hown hK hw (v_md (by decide)) gs_atc E_md inX6 rfl 0 (by decide) k_544 rfl rfl dX6_drop_30 ?_
      refine lv_iconst (v := nI 1) hx hb dX6_drop_33 (by decide) ?_
      obtain ⟨q11, h⟩ := t_gd h
      refine r_iald hx hb hK hw (v_md (by decide)) gs_atc E_m1 q11 dX6_drop_34 ?_
      refine lv_imul hx hb dX6_drop_35 ?_
      refine lv_iadd hx hb dX6_drop_36 ?_
      refine lv_istore_n (lv' := [(2, .int ((nI 172) + ((nI 8) * (m10 1 (nI 1).toNatClampNeg)))), (0, .ref (ad 9 0)), (1, .int p0)]) hx hb dX6_drop_37 rfl hl (by decide) rfl (fun ls hl => ?_)
      refine lv_sipush (v := nI 172) hx hb dX6_drop_38 (by decide) ?_
      refine lv_bipush (v := nI 8) hx hb dX6_drop_41 (by decide) ?_
      refine lv_iload_n hx hb dX6_drop_43 rfl (lv_at hl 2 rfl) ?_
      refine lv_imul hx hb dX6_drop_44 ?_
      refine lv_iadd hx hb dX6_drop_45 ?_
      refine lv_istore_n (lv' := [(3, .int ((nI 172) + ((nI 8) * p0))), (2, .int ((nI 172) + ((nI 8) * (m10 1 (nI 1).toNatClampNeg)))), (0, .ref (ad 9 0)), (1, .int p0)]) hx hb dX6_drop_46 rfl hl (by decide) rfl (fun ls hl => ?_)
      exact L47 FU m10 ((nI 172) + ((nI 8) * (m10 1 (nI 1).toNatClampNeg))) ((nI 172) + ((nI 8) * p0)) h H locs hw hS ls (lv_sub hl [2, 1, 0] rfl)
    · replace h := t_pos h q3
      refine lv_iconst (v := -1) hx hb dX6_drop_8 (by decide) ?_
      have e1 := (t_ret h).1
      have e2 := (t_ret h).2
      exact e_i hx hb hr hlk hw hS e1 (by rw [e2]) dX6_drop_9
  exact main _ _ hw hS ls hl

theorem cf_X6_setPlan : cfV RX6 yX6_setPlan cX6_setPlan 3 (some .int) 1 := ⟨⟨k_756, k_757, k_7, k_758⟩, by decide +kernel⟩
def f_X6_setPlan (m : SM) (p0 : Int32) : Option (Int32 × SM) :=
  b1 (f_X6_in p0 (nI 0) (nI 2)) fun r2 => (if r2 = (nI 0) then some ((-2 : Int32), m) else gd (nI 2) 220 ((if (m 1 (nI 2).toNatClampNeg) = p0 then some ((-5 : Int32), m) else bd (f_X6_record m) fun r7 m8 => gd (nI 2) 220 (lt1 (up m8 1 (nI 2).toNatClampNeg p0) fun m11 => some ((m 1 (nI 2).toNatClampNeg), m11)))))
set_option maxHeartbeats 4000000 in
set_option maxRecDepth 100000 in
theorem c_X6_setPlan {l : Launch} {D : va_G} {cy : Nat → ClassId} {ad : Nat → Nat → Nat} (hcv : CV ad) {M0 : MM} {m : SM} (hm : M0 9 = m) {p0 : Int32} {r : Int32} {x : SM} (h : f_X6_setPlan m p0 = some (r, x)) : Met l yX6_setPlan (.code yX6_setPlan cX6_setPlan 3 (some .int) :: TB) ({ frames := 1, cells := 0, slots := 0, locals := 22 } : Room) (PW D cy ad M0 [.ref (ad 9 0), .int p0]) (QI D cy ad r (gs M0 9 x)) 0 0 (AD ad) := by
  refine m_in (by decide +kernel) (Nat.le_of_ble_eq_true rfl) ?_
  intro p e s md args below meth c hC hw hS ls hl
  obtain ⟨hx, hb, hr, hml, hown, hts, hK, hlk⟩ := hC
  have hl : lv_has ls 3 [(0, .ref (ad 9 0)), (1, .int p0)] := hl
  rw [← gs_same hm] at hw
  unfold f_X6_setPlan at h
  have main : JL p l e ({ frames := 1, cells := 0, slots := 0, locals := 22 } : Room) s md args below meth c D cy ad (MQ below (QI D cy ad r (gs M0 9 x)) args s 0 0 (AD ad)) (gs M0 9 m) 3 [(0, .ref (ad 9 0)), (1, .int p0)] 0 [] := by
    intro H locs hw hS ls hl
    refine lv_iload_n hx hb dX6_setPlan_0 rfl (lv_at hl 1 rfl) ?_
    refine lv_iconst (v := nI 0) hx hb dX6_setPlan_1 (by decide) ?_
    refine lv_iconst (v := nI 2) hx hb dX6_setPlan_2 (by decide) ?_
    obtain ⟨r2, y1, h⟩ := t_b1 h
    refine c_si hx hb hml hown hts hK hw hS (fun _ h => h) (As := [.int p0, .int (nI 0), .int (nI 2)]) (rest := []) (c_X6_in hcv (M0 := gs M0 9 m) y1) cf_X6_in k_663 rfl rfl ⟨Nat.le_of_ble_eq_true rfl, Nat.le_of_ble_eq_true rfl⟩ rfl hl.1 rfl (Nat.le_of_ble_eq_true rfl) ⟨Nat.le_refl _, Nat.le_refl _⟩ dX6_setPlan_3 (fun H locs hw hS => ?_)
    refine lv_if_ne (tgt := 12) hx hb dX6_setPlan_6 (by decide) (fun q3 => ?_) (fun q3 => ?_)
    · replace h := t_neg h q3
      refine lv_aload_n hx hb dX6_setPlan_12 rfl (lv_at hl 0 rfl) ?_
      refine r_get hx hb hts hown hK hw (v_md (by decide)) gs_atc E_md inX6 rfl 0 (by decide) k_544 rfl rfl dX6_setPlan_13 ?_
      refine lv_iconst (v := nI 2) hx hb dX6_setPlan_16 (by decide) ?_
      obtain ⟨q4, h⟩ := t_gd h
      refine r_iald hx hb hK hw (v_md (by decide)) gs_atc E_m1 q4 dX6_setPlan_17 ?_
      refine lv_istore_n (lv' := [(2, .int (m 1 (nI 2).toNatClampNeg)), (0, .ref (ad 9 0)), (1, .int p0)]) hx hb dX6_setPlan_18 rfl hl (by decide) rfl (fun ls hl => ?_)
      refine lv_iload_n hx hb dX6_setPlan_19 rfl (lv_at hl 0 rfl) ?_
      refine lv_iload_n hx hb dX6_setPlan_20 rfl (lv_at hl 2 rfl) ?_
      refine lv_icmp_ne (tgt := 27) hx hb dX6_setPlan_21 (by decide) (fun q5 => ?_) (fun q5 => ?_)
      · replace h := t_neg h q5
        refine lv_aload_n hx hb dX6_setPlan_27 rfl (lv_at hl 1 rfl) ?_
        obtain ⟨r7, m8, y6, h⟩ := t_bd h
        refine c_vv hx hb hml hown hts hK hw hS (fun _ h => h) (As := []) (rest := []) (c_X6_record hcv (M0 := gs M0 9 m) (m := m) (hm := gs_at) y6) cf_X6_record k_619 rfl rfl ⟨Nat.le_of_ble_eq_true rfl, Nat.le_of_ble_eq_true rfl⟩ (r_recv hK hw (v_md (by decide)) E_md rfl) rfl hl.1 rfl (Nat.le_of_ble_eq_true rfl) ⟨Nat.le_refl _, Nat.le_refl _⟩ dX6_setPlan_28 (fun H locs hw hS => ?_)
        rw [gs_gs] at hw
        refine lv_aload_n hx hb dX6_setPlan_31 rfl (lv_at hl 1 rfl) ?_
        refine r_get hx hb hts hown hK hw (v_md (by decide)) gs_atc E_md inX6 rfl 0 (by decide) k_544 rfl rfl dX6_setPlan_32 ?_
        refine lv_iconst (v := nI 2) hx hb dX6_setPlan_35 (by decide) ?_
        refine lv_iload_n hx hb dX6_setPlan_36 rfl (lv_at hl 2 rfl) ?_
        obtain ⟨q9, h⟩ := t_gd h
        obtain ⟨m11, e10, h⟩ := t_lt h
        refine r_iast hx hb hK hcv hw hS (v_md (by decide)) gs_atc (fun _ => E_m1) q9 (gs_up e10) dX6_setPlan_37 (fun H locs hw hS => ?_)
        refine lv_iload_n hx hb dX6_setPlan_38 rfl (lv_at hl 0 rfl) ?_
        have e1 := (t_ret h).1
        have e2 := (t_ret h).2
        exact e_i hx hb hr hlk hw hS e1 (by rw [e2]) dX6_setPlan_39
      · replace h := t_pos h q5
        refine lv_bipush (v := -5) hx hb dX6_setPlan_24 (by decide) ?_
        have e1 := (t_ret h).1
        have e2 := (t_ret h).2
        exact e_i hx hb hr hlk hw hS e1 (by rw [e2]) dX6_setPlan_26
    · replace h := t_pos h q3
      refine lv_bipush (v := -2) hx hb dX6_setPlan_9 (by decide) ?_
      have e1 := (t_ret h).1
      have e2 := (t_ret h).2
      exact e_i hx hb hr hlk hw hS e1 (by rw [e2]) dX6_setPlan_11
  exact main _ _ hw hS ls hl

theorem cf_X6_unreadAll : cfV RX6 yX6_unreadAll cX6_unreadAll 1 (some .int) 0 := ⟨⟨k_765, k_s24, k_7, k_766⟩, by decide +kernel⟩
def f_X6_unreadAll (m : SM) : Option (Int32) :=
  b1 (f_X6_allOf m (nI 3)) fun r2 => b1 (f_X6_allOf m (nI 4)) fun r4 => some (r2 - r4)
set_option maxHeartbeats 4000000 in
set_option maxRecDepth 100000 in
theorem c_X6_unreadAll {l : Launch} {D : va_G} {cy : Nat → ClassId} {ad : Nat → Nat → Nat} (hcv : CV ad) {M0 : MM} {m : SM} (hm : M0 9 = m) {r : Int32} (h : f_X6_unreadAll m = some r) : Met l yX6_unreadAll (.code yX6_unreadAll cX6_unreadAll 1 (some .int) :: TB) ({ frames := 2, cells := 0, slots := 0, locals := 45 } : Room) (PW D cy ad M0 [.ref (ad 9 0)]) (QI D cy ad r M0) 0 0 (AD ad) := by
  refine m_in (by decide +kernel) (Nat.le_of_ble_eq_true rfl) ?_
  intro p e s md args below meth c hC hw hS ls hl
  obtain ⟨hx, hb, hr, hml, hown, hts, hK, hlk⟩ := hC
  have hl : lv_has ls 1 [(0, .ref (ad 9 0))] := hl
  rw [← gs_same hm] at hw
  unfold f_X6_unreadAll at h
  have main : JL p l e ({ frames := 2, cells := 0, slots := 0, locals := 45 } : Room) s md args below meth c D cy ad (MQ below (QI D cy ad r M0) args s 0 0 (AD ad)) (gs M0 9 m) 1 [(0, .ref (ad 9 0))] 0 [] := by
    intro H locs hw hS ls hl
    refine lv_aload_n hx hb dX6_unreadAll_0 rfl (lv_at hl 0 rfl) ?_
    refine lv_iconst (v := nI 3) hx hb dX6_unreadAll_1 (by decide) ?_
    obtain ⟨r2, y1, h⟩ := t_b1 h
    refine c_vi hx hb hml hown hts hK hw hS (fun _ h => h) (As := [.int (nI 3)]) (rest := []) (c_X6_allOf hcv (M0 := gs M0 9 m) (m := m) (hm := gs_at) y1) cf_X6_allOf k_607 rfl rfl ⟨Nat.le_of_ble_eq_true rfl, Nat.le_of_ble_eq_true rfl⟩ (r_recv hK hw (v_md (by decide)) E_md rfl) rfl hl.1 rfl (Nat.le_of_ble_eq_true rfl) ⟨Nat.le_refl _, Nat.le_refl _⟩ dX6_unreadAll_2 (fun H locs hw hS => ?_)
    refine lv_aload_n hx hb dX6_unreadAll_5 rfl (lv_at hl 0 rfl) ?_
    refine lv_iconst (v := nI 4) hx hb dX6_unreadAll_6 (by decide) ?_
    obtain ⟨r4, y3, h⟩ := t_b1 h
    refine c_vi hx hb hml hown hts hK hw hS (fun _ h => h) (As := [.int (nI 4)]) (rest := [.int r2]) (c_X6_allOf hcv (M0 := gs M0 9 m) (m := m) (hm := gs_at) y3) cf_X6_allOf k_607 rfl rfl ⟨Nat.le_of_ble_eq_true rfl, Nat.le_of_ble_eq_true rfl⟩ (r_recv hK hw (v_md (by decide)) E_md rfl) rfl hl.1 rfl (Nat.le_of_ble_eq_true rfl) ⟨Nat.le_refl _, Nat.le_refl _⟩ dX6_unreadAll_7 (fun H locs hw hS => ?_)
    refine lv_isub hx hb dX6_unreadAll_10 ?_
    have e1 := Option.some.inj h
    exact e_i hx hb hr hlk hw hS e1 (gs_same hm) dX6_unreadAll_11
  exact main _ _ hw hS ls hl

theorem cf_X6_read : cfV RX6 yX6_read cX6_read 5 (some .int) 1 := ⟨⟨k_760, k_761, k_7, k_762⟩, by decide +kernel⟩
def f_X6_read_L44 (p0 : Int32) : Nat → SM → Int32 → Int32 → Option (Int32 × SM)
  | 0, _, _, _ => none
  | n + 1, m, x3, x4 => (if x3 ≤ x4 then some (x3, m) else bd (f_X6_readNext m) fun r3 m4 => f_X6_read_L44 p0 n m4 x3 (x4 + (nI 1)))
def f_X6_read (m : SM) (p0 : Int32) : Option (Int32 × SM) :=
  b1 (f_X6_in p0 (nI 1) (nI 128)) fun r2 => (if r2 = (nI 0) then some ((-2 : Int32), m) else b1 (f_X6_unreadAll m) fun r5 => (if r5 = (nI 0) then some ((-5 : Int32), m) else bd (f_X6_record m) fun r8 m9 => (if r5 ≤ p0 then f_X6_read_L44 p0 FU m9 r5 (nI 0) else f_X6_read_L44 p0 FU m9 p0 (nI 0))))
set_option maxHeartbeats 4000000 in
set_option maxRecDepth 100000 in
theorem c_X6_read {l : Launch} {D : va_G} {cy : Nat → ClassId} {ad : Nat → Nat → Nat} (hcv : CV ad) {M0 : MM} {m : SM} (hm : M0 9 = m) {p0 : Int32} {r : Int32} {x : SM} (h : f_X6_read m p0 = some (r, x)) : Met l yX6_read (.code yX6_read cX6_read 5 (some .int) :: TB) ({ frames := 9, cells := 0, slots := 0, locals := 203 } : Room) (PW D cy ad M0 [.ref (ad 9 0), .int p0]) (QI D cy ad r (gs M0 9 x)) 0 0 (AD ad) := by
  refine m_in (by decide +kernel) (Nat.le_of_ble_eq_true rfl) ?_
  intro p e s md args below meth c hC hw hS ls hl
  obtain ⟨hx, hb, hr, hml, hown, hts, hK, hlk⟩ := hC
  have hl : lv_has ls 5 [(0, .ref (ad 9 0)), (1, .int p0)] := hl
  rw [← gs_same hm] at hw
  have L44 : ∀ (n : Nat), ∀ (m : SM) (x3 : Int32) (x4 : Int32), f_X6_read_L44 p0 n m x3 x4 = some (r, x) → JL p l e ({ frames := 9, cells := 0, slots := 0, locals := 203 } : Room) s md args below meth c D cy ad (MQ below (QI D cy ad r (gs M0 9 x)) args s 0 0 (AD ad)) (gs M0 9 m) 5 [(0, .ref (ad 9 0)), (3, .int x3), (4, .int x4)] 44 [] := by
    intro n
    induction n with
    | zero =>
      intro m x3 x4 h
      cases h
    | succ n ih =>
      intro m x3 x4 h H locs hw hS ls hl
      rw [f_X6_read_L44.eq_2] at h
      refine lv_iload hx hb dX6_read_44 (lv_at hl 2 rfl) ?_
      refine lv_iload_n hx hb dX6_read_46 rfl (lv_at hl 1 rfl) ?_
      refine lv_icmp_ge (tgt := 60) hx hb dX6_read_47 (by decide) (fun q1 => ?_) (fun q1 => ?_)
      · replace h := t_pos h q1
        refine lv_iload_n hx hb dX6_read_60 rfl (lv_at hl 1 rfl) ?_
        have e1 := (t_ret h).1
        have e2 := (t_ret h).2
        exact e_i hx hb hr hlk hw hS e1 (by rw [e2]) dX6_read_61
      · replace h := t_neg h q1
        refine lv_aload_n hx hb dX6_read_50 rfl (lv_at hl 0 rfl) ?_
        obtain ⟨r3, m4, y2, h⟩ := t_bd h
        refine c_vv hx hb hml hown hts hK hw hS (fun _ h => h) (As := []) (rest := []) (c_X6_readNext hcv (M0 := gs M0 9 m) (m := m) (hm := gs_at) y2) cf_X6_readNext k_767 rfl rfl ⟨Nat.le_of_ble_eq_true rfl, Nat.le_of_ble_eq_true rfl⟩ (r_recv hK hw (v_md (by decide)) E_md rfl) rfl hl.1 rfl (Nat.le_of_ble_eq_true rfl) ⟨Nat.le_refl _, Nat.le_refl _⟩ dX6_read_51 (fun H locs hw hS => ?_)
        rw [gs_gs] at hw
        refine lv_iinc (v := (x4 + (nI 1))) (lv' := [(4, .int (x4 + (nI 1))), (0, .ref (ad 9 0)), (3, .int x3)]) hx hb dX6_read_54 hl (k := 2) rfl rfl (by decide) rfl (fun ls hl => ?_)
        refine lv_goto (tgt := 44) hx hb dX6_read_57 (by decide) ?_
        exact ih m4 x3 (x4 + (nI 1)) h H locs hw hS ls (lv_sub hl [1, 2, 0] rfl)
  unfold f_X6_read at h
  have main : JL p l e ({ frames := 9, cells := 0, slots := 0, locals := 203 } : Room) s md args below meth c D cy ad (MQ below (QI D cy ad r (gs M0 9 x)) args s 0 0 (AD ad)) (gs M0 9 m) 5 [(0, .ref (ad 9 0)), (1, .int p0)] 0 [] := by
    intro H locs hw hS ls hl
    refine lv_iload_n hx hb dX6_read_0 rfl (lv_at hl 1 rfl) ?_
    refine lv_iconst (v := nI 1) hx hb dX6_read_1 (by decide) ?_
    refine lv_sipush (v := nI 128) hx hb dX6_read_2 (by decide) ?_
    obtain ⟨r2, y1, h⟩ := t_b1 h
    refine c_si hx hb hml hown hts hK hw hS (fun _ h => h) (As := [.int p0, .int (nI 1), .int (nI 128)]) (rest := []) (c_X6_in hcv (M0 := gs M0 9 m) y1) cf_X6_in k_663 rfl rfl ⟨Nat.le_of_ble_eq_true rfl, Nat.le_of_ble_eq_true rfl⟩ rfl hl.1 rfl (Nat.le_of_ble_eq_true rfl) ⟨Nat.le_refl _, Nat.le_refl _⟩ dX6_read_5 (fun H locs hw hS => ?_)
    refine lv_if_ne (tgt := 14) hx hb dX6_read_8 (by decide) (fun q3 => ?_) (fun q3 => ?_)
    · replace h := t_neg h q3
      refine lv_aload_n hx hb dX6_read_14 rfl (lv_at hl 0 rfl) ?_
      obtain ⟨r5, y4, h⟩ := t_b1 h
      refine c_vi hx hb hml hown hts hK hw hS (fun _ h => h) (As := []) (rest := []) (c_X6_unreadAll hcv (M0 := gs M0 9 m) (m := m) (hm := gs_at) y4) cf_X6_unreadAll k_763 rfl rfl ⟨Nat.le_of_ble_eq_true rfl, Nat.le_of_ble_eq_true rfl⟩ (r_recv hK hw (v_md (by decide)) E_md rfl) rfl hl.1 rfl (Nat.le_of_ble_eq_true rfl) ⟨Nat.le_refl _, Nat.le_refl _⟩ dX6_read_15 (fun H locs hw hS => ?_)
      refine lv_istore_n (lv' := [(2, .int r5), (0, .ref (ad 9 0)), (1, .int p0)]) hx hb dX6_read_18 rfl hl (by decide) rfl (fun ls hl => ?_)
      refine lv_iload_n hx hb dX6_read_19 rfl (lv_at hl 0 rfl) ?_
      refine lv_if_ne (tgt := 26) hx hb dX6_read_20 (by decide) (fun q6 => ?_) (fun q6 => ?_)
      · replace h := t_neg h q6
        refine lv_aload_n hx hb dX6_read_26 rfl (lv_at hl 1 rfl) ?_
        obtain ⟨r8, m9, y7, h⟩ := t_bd h
        refine c_vv hx hb hml hown hts hK hw hS (fun _ h => h) (As := []) (rest := []) (c_X6_record hcv (M0 := gs M0 9 m) (m := m) (hm := gs_at) y7) cf_X6_record k_619 rfl rfl ⟨Nat.le_of_ble_eq_true rfl, Nat.le_of_ble_eq_true rfl⟩ (r_recv hK hw (v_md (by decide)) E_md rfl) rfl hl.1 rfl (Nat.le_of_ble_eq_true rfl) ⟨Nat.le_refl _, Nat.le_refl _⟩ dX6_read_27 (fun H locs hw hS => ?_)
        rw [gs_gs] at hw
        refine lv_iload_n hx hb dX6_read_30 rfl (lv_at hl 2 rfl) ?_
        refine lv_iload_n hx hb dX6_read_31 rfl (lv_at hl 0 rfl) ?_
        refine lv_icmp_ge (tgt := 39) hx hb dX6_read_32 (by decide) (fun q10 => ?_) (fun q10 => ?_)
        · replace h := t_pos h q10
          refine lv_iload_n hx hb dX6_read_39 rfl (lv_at hl 0 rfl) ?_
          refine lv_istore_n (lv' := [(3, .int r5), (2, .int r5), (0, .ref (ad 9 0)), (1, .int p0)]) hx hb dX6_read_40 rfl hl (by decide) rfl (fun ls hl => ?_)
          refine lv_iconst (v := nI 0) hx hb dX6_read_41 (by decide) ?_
          refine lv_istore (lv' := [(4, .int (nI 0)), (3, .int r5), (2, .int r5), (0, .ref (ad 9 0)), (1, .int p0)]) hx hb dX6_read_42 hl (by decide) rfl (fun ls hl => ?_)
          exact L44 FU m9 r5 (nI 0) h H locs hw hS ls (lv_sub hl [3, 1, 0] rfl)
        · replace h := t_neg h q10
          refine lv_iload_n hx hb dX6_read_35 rfl (lv_at hl 2 rfl) ?_
          refine lv_goto (tgt := 40) hx hb dX6_read_36 (by decide) ?_
          refine lv_istore_n (lv' := [(3, .int p0), (2, .int r5), (0, .ref (ad 9 0)), (1, .int p0)]) hx hb dX6_read_40 rfl hl (by decide) rfl (fun ls hl => ?_)
          refine lv_iconst (v := nI 0) hx hb dX6_read_41 (by decide) ?_
          refine lv_istore (lv' := [(4, .int (nI 0)), (3, .int p0), (2, .int r5), (0, .ref (ad 9 0)), (1, .int p0)]) hx hb dX6_read_42 hl (by decide) rfl (fun ls hl => ?_)
          exact L44 FU m9 p0 (nI 0) h H locs hw hS ls (lv_sub hl [3, 1, 0] rfl)
      · replace h := t_pos h q6
        refine lv_bipush (v := -5) hx hb dX6_read_23 (by decide) ?_
        have e1 := (t_ret h).1
        have e2 := (t_ret h).2
        exact e_i hx hb hr hlk hw hS e1 (by rw [e2]) dX6_read_25
    · replace h := t_pos h q3
      refine lv_bipush (v := -2) hx hb dX6_read_11 (by decide) ?_
      have e1 := (t_ret h).1
      have e2 := (t_ret h).2
      exact e_i hx hb hr hlk hw hS e1 (by rw [e2]) dX6_read_13
  exact main _ _ hw hS ls hl

theorem cf_X6_goOn : cfV RX6 yX6_goOn cX6_goOn 2 (some .int) 0 := ⟨⟨k_809, k_s34, k_7, k_810⟩, by decide +kernel⟩
def f_X6_goOn_L2 : Nat → SM → Int32 → Option (Int32 × SM)
  | 0, _, _ => none
  | n + 1, m, x1 => b1 (f_X6_openMany m) fun r2 => (if r2 ≤ (nI 0) then some (x1, m) else b1 (f_X6_unreadAll m) fun r5 => (if r5 ≤ (nI 0) then some (x1, m) else bd (f_X6_readNext m) fun r8 m9 => f_X6_goOn_L2 n m9 (x1 + (nI 1))))
def f_X6_goOn (m : SM) : Option (Int32 × SM) :=
  f_X6_goOn_L2 FU m (nI 0)
set_option maxHeartbeats 4000000 in
set_option maxRecDepth 100000 in
theorem c_X6_goOn {l : Launch} {D : va_G} {cy : Nat → ClassId} {ad : Nat → Nat → Nat} (hcv : CV ad) {M0 : MM} {m : SM} (hm : M0 9 = m) {r : Int32} {x : SM} (h : f_X6_goOn m = some (r, x)) : Met l yX6_goOn (.code yX6_goOn cX6_goOn 2 (some .int) :: TB) ({ frames := 9, cells := 0, slots := 0, locals := 203 } : Room) (PW D cy ad M0 [.ref (ad 9 0)]) (QI D cy ad r (gs M0 9 x)) 0 0 (AD ad) := by
  refine m_in (by decide +kernel) (Nat.le_of_ble_eq_true rfl) ?_
  intro p e s md args below meth c hC hw hS ls hl
  obtain ⟨hx, hb, hr, hml, hown, hts, hK, hlk⟩ := hC
  have hl : lv_has ls 2 [(0, .ref (ad 9 0))] := hl
  rw [← gs_same hm] at hw
  have L2 : ∀ (n : Nat), ∀ (m : SM) (x1 : Int32), f_X6_goOn_L2 n m x1 = some (r, x) → JL p l e ({ frames := 9, cells := 0, slots := 0, locals := 203 } : Room) s md args below meth c D cy ad (MQ below (QI D cy ad r (gs M0 9 x)) args s 0 0 (AD ad)) (gs M0 9 m) 2 [(0, .ref (ad 9 0)), (1, .int x1)] 2 [] := by
    intro n
    induction n with
    | zero =>
      intro m x1 h
      cases h
    | succ n ih =>
      intro m x1 h H locs hw hS ls hl
      rw [f_X6_goOn_L2.eq_2] at h
      refine lv_aload_n hx hb dX6_goOn_2 rfl (lv_at hl 0 rfl) ?_
      obtain ⟨r2, y1, h⟩ := t_b1 h
      refine c_vi hx hb hml hown hts hK hw hS (fun _ h => h) (As := []) (rest := []) (c_X6_openMany hcv (M0 := gs M0 9 m) (m := m) (hm := gs_at) y1) cf_X6_openMany k_803 rfl rfl ⟨Nat.le_of_ble_eq_true rfl, Nat.le_of_ble_eq_true rfl⟩ (r_recv hK hw (v_md (by decide)) E_md rfl) rfl hl.1 rfl (Nat.le_of_ble_eq_true rfl) ⟨Nat.le_refl _, Nat.le_refl _⟩ dX6_goOn_3 (fun H locs hw hS => ?_)
      refine lv_if_le (tgt := 26) hx hb dX6_goOn_6 (by decide) (fun q3 => ?_) (fun q3 => ?_)
      · replace h := t_pos h q3
        refine lv_iload_n hx hb dX6_goOn_26 rfl (lv_at hl 1 rfl) ?_
        have e1 := (t_ret h).1
        have e2 := (t_ret h).2
        exact e_i hx hb hr hlk hw hS e1 (by rw [e2]) dX6_goOn_27
      · replace h := t_neg h q3
        refine lv_aload_n hx hb dX6_goOn_9 rfl (lv_at hl 0 rfl) ?_
        obtain ⟨r5, y4, h⟩ := t_b1 h
        refine c_vi hx hb hml hown hts hK hw hS (fun _ h => h) (As := []) (rest := []) (c_X6_unreadAll hcv (M0 := gs M0 9 m) (m := m) (hm := gs_at) y4) cf_X6_unreadAll k_763 rfl rfl ⟨Nat.le_of_ble_eq_true rfl, Nat.le_of_ble_eq_true rfl⟩ (r_recv hK hw (v_md (by decide)) E_md rfl) rfl hl.1 rfl (Nat.le_of_ble_eq_true rfl) ⟨Nat.le_refl _, Nat.le_refl _⟩ dX6_goOn_10 (fun H locs hw hS => ?_)
        refine lv_if_le (tgt := 26) hx hb dX6_goOn_13 (by decide) (fun q6 => ?_) (fun q6 => ?_)
        · replace h := t_pos h q6
          refine lv_iload_n hx hb dX6_goOn_26 rfl (lv_at hl 1 rfl) ?_
          have e1 := (t_ret h).1
          have e2 := (t_ret h).2
          exact e_i hx hb hr hlk hw hS e1 (by rw [e2]) dX6_goOn_27
        · replace h := t_neg h q6
          refine lv_aload_n hx hb dX6_goOn_16 rfl (lv_at hl 0 rfl) ?_
          obtain ⟨r8, m9, y7, h⟩ := t_bd h
          refine c_vv hx hb hml hown hts hK hw hS (fun _ h => h) (As := []) (rest := []) (c_X6_readNext hcv (M0 := gs M0 9 m) (m := m) (hm := gs_at) y7) cf_X6_readNext k_767 rfl rfl ⟨Nat.le_of_ble_eq_true rfl, Nat.le_of_ble_eq_true rfl⟩ (r_recv hK hw (v_md (by decide)) E_md rfl) rfl hl.1 rfl (Nat.le_of_ble_eq_true rfl) ⟨Nat.le_refl _, Nat.le_refl _⟩ dX6_goOn_17 (fun H locs hw hS => ?_)
          rw [gs_gs] at hw
          refine lv_iinc (v := (x1 + (nI 1))) (lv' := [(1, .int (x1 + (nI 1))), (0, .ref (ad 9 0))]) hx hb dX6_goOn_20 hl (k := 1) rfl rfl (by decide) rfl (fun ls hl => ?_)
          refine lv_goto (tgt := 2) hx hb dX6_goOn_23 (by decide) ?_
          exact ih m9 (x1 + (nI 1)) h H locs hw hS ls (lv_sub hl [1, 0] rfl)
  unfold f_X6_goOn at h
  have main : JL p l e ({ frames := 9, cells := 0, slots := 0, locals := 203 } : Room) s md args below meth c D cy ad (MQ below (QI D cy ad r (gs M0 9 x)) args s 0 0 (AD ad)) (gs M0 9 m) 2 [(0, .ref (ad 9 0))] 0 [] := by
    intro H locs hw hS ls hl
    refine lv_iconst (v := nI 0) hx hb dX6_goOn_0 (by decide) ?_
    refine lv_istore_n (lv' := [(1, .int (nI 0)), (0, .ref (ad 9 0))]) hx hb dX6_goOn_1 rfl hl (by decide) rfl (fun ls hl => ?_)
    exact L2 FU m (nI 0) h H locs hw hS ls (lv_sub hl [1, 0] rfl)
  exact main _ _ hw hS ls hl

theorem cf_X6_readOn : cfV RX6 yX6_readOn cX6_readOn 1 (some .int) 0 := ⟨⟨k_800, k_801, k_7, k_802⟩, by decide +kernel⟩
def f_X6_readOn (m : SM) : Option (Int32 × SM) :=
  b1 (f_X6_openMany m) fun r2 => (if r2 = (nI 0) then some ((-4 : Int32), m) else b1 (f_X6_unreadAll m) fun r5 => (if r5 = (nI 0) then some ((-5 : Int32), m) else bd (f_X6_record m) fun r8 m9 => bd (f_X6_goOn m9) fun r11 m12 => some (r11, m12)))
set_option maxHeartbeats 4000000 in
set_option maxRecDepth 100000 in
theorem c_X6_readOn {l : Launch} {D : va_G} {cy : Nat → ClassId} {ad : Nat → Nat → Nat} (hcv : CV ad) {M0 : MM} {m : SM} (hm : M0 9 = m) {r : Int32} {x : SM} (h : f_X6_readOn m = some (r, x)) : Met l yX6_readOn (.code yX6_readOn cX6_readOn 1 (some .int) :: TB) ({ frames := 10, cells := 0, slots := 0, locals := 224 } : Room) (PW D cy ad M0 [.ref (ad 9 0)]) (QI D cy ad r (gs M0 9 x)) 0 0 (AD ad) := by
  refine m_in (by decide +kernel) (Nat.le_of_ble_eq_true rfl) ?_
  intro p e s md args below meth c hC hw hS ls hl
  obtain ⟨hx, hb, hr, hml, hown, hts, hK, hlk⟩ := hC
  have hl : lv_has ls 1 [(0, .ref (ad 9 0))] := hl
  rw [← gs_same hm] at hw
  unfold f_X6_readOn at h
  have main : JL p l e ({ frames := 10, cells := 0, slots := 0, locals := 224 } : Room) s md args below meth c D cy ad (MQ below (QI D cy ad r (gs M0 9 x)) args s 0 0 (AD ad)) (gs M0 9 m) 1 [(0, .ref (ad 9 0))] 0 [] := by
    intro H locs hw hS ls hl
    refine lv_aload_n hx hb dX6_readOn_0 rfl (lv_at hl 0 rfl) ?_
    obtain ⟨r2, y1, h⟩ := t_b1 h
    refine c_vi hx hb hml hown hts hK hw hS (fun _ h => h) (As := []) (rest := []) (c_X6_openMany hcv (M0 := gs M0 9 m) (m := m) (hm := gs_at) y1) cf_X6_openMany k_803 rfl rfl ⟨Nat.le_of_ble_eq_true rfl, Nat.le_of_ble_eq_true rfl⟩ (r_recv hK hw (v_md (by decide)) E_md rfl) rfl hl.1 rfl (Nat.le_of_ble_eq_true rfl) ⟨Nat.le_refl _, Nat.le_refl _⟩ dX6_readOn_1 (fun H locs hw hS => ?_)
    refine lv_if_ne (tgt := 10) hx hb dX6_readOn_4 (by decide) (fun q3 => ?_) (fun q3 => ?_)
    · replace h := t_neg h q3
      refine lv_aload_n hx hb dX6_readOn_10 rfl (lv_at hl 0 rfl) ?_
      obtain ⟨r5, y4, h⟩ := t_b1 h
      refine c_vi hx hb hml hown hts hK hw hS (fun _ h => h) (As := []) (rest := []) (c_X6_unreadAll hcv (M0 := gs M0 9 m) (m := m) (hm := gs_at) y4) cf_X6_unreadAll k_763 rfl rfl ⟨Nat.le_of_ble_eq_true rfl, Nat.le_of_ble_eq_true rfl⟩ (r_recv hK hw (v_md (by decide)) E_md rfl) rfl hl.1 rfl (Nat.le_of_ble_eq_true rfl) ⟨Nat.le_refl _, Nat.le_refl _⟩ dX6_readOn_11 (fun H locs hw hS => ?_)
      refine lv_if_ne (tgt := 20) hx hb dX6_readOn_14 (by decide) (fun q6 => ?_) (fun q6 => ?_)
      · replace h := t_neg h q6
        refine lv_aload_n hx hb dX6_readOn_20 rfl (lv_at hl 0 rfl) ?_
        obtain ⟨r8, m9, y7, h⟩ := t_bd h
        refine c_vv hx hb hml hown hts hK hw hS (fun _ h => h) (As := []) (rest := []) (c_X6_record hcv (M0 := gs M0 9 m) (m := m) (hm := gs_at) y7) cf_X6_record k_619 rfl rfl ⟨Nat.le_of_ble_eq_true rfl, Nat.le_of_ble_eq_true rfl⟩ (r_recv hK hw (v_md (by decide)) E_md rfl) rfl hl.1 rfl (Nat.le_of_ble_eq_true rfl) ⟨Nat.le_refl _, Nat.le_refl _⟩ dX6_readOn_21 (fun H locs hw hS => ?_)
        rw [gs_gs] at hw
        refine lv_aload_n hx hb dX6_readOn_24 rfl (lv_at hl 0 rfl) ?_
        obtain ⟨r11, m12, y10, h⟩ := t_bd h
        refine c_vi hx hb hml hown hts hK hw hS (fun _ h => h) (As := []) (rest := []) (c_X6_goOn hcv (M0 := gs M0 9 m9) (m := m9) (hm := gs_at) y10) cf_X6_goOn k_807 rfl rfl ⟨Nat.le_of_ble_eq_true rfl, Nat.le_of_ble_eq_true rfl⟩ (r_recv hK hw (v_md (by decide)) E_md rfl) rfl hl.1 rfl (Nat.le_of_ble_eq_true rfl) ⟨Nat.le_refl _, Nat.le_refl _⟩ dX6_readOn_25 (fun H locs hw hS => ?_)
        rw [gs_gs] at hw
        have e1 := (t_ret h).1
        have e2 := (t_ret h).2
        exact e_i hx hb hr hlk hw hS e1 (by rw [e2]) dX6_readOn_28
      · replace h := t_pos h q6
        refine lv_bipush (v := -5) hx hb dX6_readOn_17 (by decide) ?_
        have e1 := (t_ret h).1
        have e2 := (t_ret h).2
        exact e_i hx hb hr hlk hw hS e1 (by rw [e2]) dX6_readOn_19
    · replace h := t_pos h q3
      refine lv_bipush (v := -4) hx hb dX6_readOn_7 (by decide) ?_
      have e1 := (t_ret h).1
      have e2 := (t_ret h).2
      exact e_i hx hb hr hlk hw hS e1 (by rw [e2]) dX6_readOn_9
  exact main _ _ hw hS ls hl

theorem cf_X6_readFrom : cfV RX6 yX6_readFrom cX6_readFrom 3 (some .int) 1 := ⟨⟨k_812, k_813, k_7, k_814⟩, by decide +kernel⟩
def f_X6_readFrom (m : SM) (p0 : Int32) : Option (Int32 × SM) :=
  b1 (f_X6_isBlock m p0) fun r2 => (if r2 = (nI 0) then some ((-1 : Int32), m) else b1 (f_X6_unread m p0) fun r5 => (if r5 = (nI 0) then some ((-5 : Int32), m) else bd (f_X6_record m) fun r8 m9 => b1 (f_X6_of m9 p0 (nI 4)) fun r11 => b1 (f_X6_of m9 p0 ((nI 5) + r11)) fun r13 => bd (f_X6_readOne m9 p0) fun r15 m16 => some (r13, m16)))
set_option maxHeartbeats 4000000 in
set_option maxRecDepth 100000 in
theorem c_X6_readFrom {l : Launch} {D : va_G} {cy : Nat → ClassId} {ad : Nat → Nat → Nat} (hcv : CV ad) {M0 : MM} {m : SM} (hm : M0 9 = m) {p0 : Int32} {r : Int32} {x : SM} (h : f_X6_readFrom m p0 = some (r, x)) : Met l yX6_readFrom (.code yX6_readFrom cX6_readFrom 3 (some .int) :: TB) ({ frames := 7, cells := 0, slots := 0, locals := 158 } : Room) (PW D cy ad M0 [.ref (ad 9 0), .int p0]) (QI D cy ad r (gs M0 9 x)) 0 0 (AD ad) := by
  refine m_in (by decide +kernel) (Nat.le_of_ble_eq_true rfl) ?_
  intro p e s md args below meth c hC hw hS ls hl
  obtain ⟨hx, hb, hr, hml, hown, hts, hK, hlk⟩ := hC
  have hl : lv_has ls 3 [(0, .ref (ad 9 0)), (1, .int p0)] := hl
  rw [← gs_same hm] at hw
  unfold f_X6_readFrom at h
  have main : JL p l e ({ frames := 7, cells := 0, slots := 0, locals := 158 } : Room) s md args below meth c D cy ad (MQ below (QI D cy ad r (gs M0 9 x)) args s 0 0 (AD ad)) (gs M0 9 m) 3 [(0, .ref (ad 9 0)), (1, .int p0)] 0 [] := by
    intro H locs hw hS ls hl
    refine lv_aload_n hx hb dX6_readFrom_0 rfl (lv_at hl 0 rfl) ?_
    refine lv_iload_n hx hb dX6_readFrom_1 rfl (lv_at hl 1 rfl) ?_
    obtain ⟨r2, y1, h⟩ := t_b1 h
    refine c_vi hx hb hml hown hts hK hw hS (fun _ h => h) (As := [.int p0]) (rest := []) (c_X6_isBlock hcv (M0 := gs M0 9 m) (m := m) (hm := gs_at) y1) cf_X6_isBlock k_718 rfl rfl ⟨Nat.le_of_ble_eq_true rfl, Nat.le_of_ble_eq_true rfl⟩ (r_recv hK hw (v_md (by decide)) E_md rfl) rfl hl.1 rfl (Nat.le_of_ble_eq_true rfl) ⟨Nat.le_refl _, Nat.le_refl _⟩ dX6_readFrom_2 (fun H locs hw hS => ?_)
    refine lv_if_ne (tgt := 10) hx hb dX6_readFrom_5 (by decide) (fun q3 => ?_) (fun q3 => ?_)
    · replace h := t_neg h q3
      refine lv_aload_n hx hb dX6_readFrom_10 rfl (lv_at hl 0 rfl) ?_
      refine lv_iload_n hx hb dX6_readFrom_11 rfl (lv_at hl 1 rfl) ?_
      obtain ⟨r5, y4, h⟩ := t_b1 h
      refine c_vi hx hb hml hown hts hK hw hS (fun _ h => h) (As := [.int p0]) (rest := []) (c_X6_unread hcv (M0 := gs M0 9 m) (m := m) (hm := gs_at) y4) cf_X6_unread k_779 rfl rfl ⟨Nat.le_of_ble_eq_true rfl, Nat.le_of_ble_eq_true rfl⟩ (r_recv hK hw (v_md (by decide)) E_md rfl) rfl hl.1 rfl (Nat.le_of_ble_eq_true rfl) ⟨Nat.le_refl _, Nat.le_refl _⟩ dX6_readFrom_12 (fun H locs hw hS => ?_)
      refine lv_if_ne (tgt := 21) hx hb dX6_readFrom_15 (by decide) (fun q6 => ?_) (fun q6 => ?_)
      · replace h := t_neg h q6
        refine lv_aload_n hx hb dX6_readFrom_21 rfl (lv_at hl 0 rfl) ?_
        obtain ⟨r8, m9, y7, h⟩ := t_bd h
        refine c_vv hx hb hml hown hts hK hw hS (fun _ h => h) (As := []) (rest := []) (c_X6_record hcv (M0 := gs M0 9 m) (m := m) (hm := gs_at) y7) cf_X6_record k_619 rfl rfl ⟨Nat.le_of_ble_eq_true rfl, Nat.le_of_ble_eq_true rfl⟩ (r_recv hK hw (v_md (by decide)) E_md rfl) rfl hl.1 rfl (Nat.le_of_ble_eq_true rfl) ⟨Nat.le_refl _, Nat.le_refl _⟩ dX6_readFrom_22 (fun H locs hw hS => ?_)
        rw [gs_gs] at hw
        refine lv_aload_n hx hb dX6_readFrom_25 rfl (lv_at hl 0 rfl) ?_
        refine lv_iload_n hx hb dX6_readFrom_26 rfl (lv_at hl 1 rfl) ?_
        refine lv_iconst (v := nI 5) hx hb dX6_readFrom_27 (by decide) ?_
        refine lv_aload_n hx hb dX6_readFrom_28 rfl (lv_at hl 0 rfl) ?_
        refine lv_iload_n hx hb dX6_readFrom_29 rfl (lv_at hl 1 rfl) ?_
        refine lv_iconst (v := nI 4) hx hb dX6_readFrom_30 (by decide) ?_
        obtain ⟨r11, y10, h⟩ := t_b1 h
        refine c_vi hx hb hml hown hts hK hw hS (fun _ h => h) (As := [.int p0, .int (nI 4)]) (rest := [.int (nI 5), .int p0, .ref (ad 9 0)]) (c_X6_of hcv (M0 := gs M0 9 m9) (m := m9) (hm := gs_at) y10) cf_X6_of k_611 rfl rfl ⟨Nat.le_of_ble_eq_true rfl, Nat.le_of_ble_eq_true rfl⟩ (r_recv hK hw (v_md (by decide)) E_md rfl) rfl hl.1 rfl (Nat.le_of_ble_eq_true rfl) ⟨Nat.le_refl _, Nat.le_refl _⟩ dX6_readFrom_31 (fun H locs hw hS => ?_)
        refine lv_iadd hx hb dX6_readFrom_34 ?_
        obtain ⟨r13, y12, h⟩ := t_b1 h
        refine c_vi hx hb hml hown hts hK hw hS (fun _ h => h) (As := [.int p0, .int ((nI 5) + r11)]) (rest := []) (c_X6_of hcv (M0 := gs M0 9 m9) (m := m9) (hm := gs_at) y12) cf_X6_of k_611 rfl rfl ⟨Nat.le_of_ble_eq_true rfl, Nat.le_of_ble_eq_true rfl⟩ (r_recv hK hw (v_md (by decide)) E_md rfl) rfl hl.1 rfl (Nat.le_of_ble_eq_true rfl) ⟨Nat.le_refl _, Nat.le_refl _⟩ dX6_readFrom_35 (fun H locs hw hS => ?_)
        refine lv_istore_n (lv' := [(2, .int r13), (0, .ref (ad 9 0)), (1, .int p0)]) hx hb dX6_readFrom_38 rfl hl (by decide) rfl (fun ls hl => ?_)
        refine lv_aload_n hx hb dX6_readFrom_39 rfl (lv_at hl 1 rfl) ?_
        refine lv_iload_n hx hb dX6_readFrom_40 rfl (lv_at hl 2 rfl) ?_
        obtain ⟨r15, m16, y14, h⟩ := t_bd h
        refine c_vv hx hb hml hown hts hK hw hS (fun _ h => h) (As := [.int p0]) (rest := []) (c_X6_readOne hcv (M0 := gs M0 9 m9) (m := m9) (hm := gs_at) y14) cf_X6_readOne k_795 rfl rfl ⟨Nat.le_of_ble_eq_true rfl, Nat.le_of_ble_eq_true rfl⟩ (r_recv hK hw (v_md (by decide)) E_md rfl) rfl hl.1 rfl (Nat.le_of_ble_eq_true rfl) ⟨Nat.le_refl _, Nat.le_refl _⟩ dX6_readFrom_41 (fun H locs hw hS => ?_)
        rw [gs_gs] at hw
        refine lv_iload_n hx hb dX6_readFrom_44 rfl (lv_at hl 0 rfl) ?_
        have e1 := (t_ret h).1
        have e2 := (t_ret h).2
        exact e_i hx hb hr hlk hw hS e1 (by rw [e2]) dX6_readFrom_45
      · replace h := t_pos h q6
        refine lv_bipush (v := -5) hx hb dX6_readFrom_18 (by decide) ?_
        have e1 := (t_ret h).1
        have e2 := (t_ret h).2
        exact e_i hx hb hr hlk hw hS e1 (by rw [e2]) dX6_readFrom_20
    · replace h := t_pos h q3
      refine lv_iconst (v := -1) hx hb dX6_readFrom_8 (by decide) ?_
      have e1 := (t_ret h).1
      have e2 := (t_ret h).2
      exact e_i hx hb hr hlk hw hS e1 (by rw [e2]) dX6_readFrom_9
  exact main _ _ hw hS ls hl

theorem cf_X6_block : cfV RX6 yX6_block cX6_block 3 (some .int) 2 := ⟨⟨k_816, k_817, k_7, k_818⟩, by decide +kernel⟩
def f_X6_block (m : SM) (p0 : Int32) (p1 : Int32) : Option (Int32 × SM) :=
  b1 (f_X6_isBlock m p0) fun r2 => (if r2 = (nI 0) then some ((-1 : Int32), m) else b1 (f_X6_in p1 (nI 0) (nI 6)) fun r5 => (if r5 = (nI 0) then some ((-2 : Int32), m) else (if p1 = (nI 5) then bd (f_X6_weight m p0) fun r14 m15 => some (r14, m15) else (if p1 = (nI 6) then b1 (f_X6_sumRead m p0) fun r12 => some (r12, m) else b1 (f_X6_of m p0 p1) fun r10 => some (r10, m)))))
set_option maxHeartbeats 4000000 in
set_option maxRecDepth 100000 in
theorem c_X6_block {l : Launch} {D : va_G} {cy : Nat → ClassId} {ad : Nat → Nat → Nat} (hcv : CV ad) {M0 : MM} {m : SM} (hm : M0 9 = m) {p0 p1 : Int32} {r : Int32} {x : SM} (h : f_X6_block m p0 p1 = some (r, x)) : Met l yX6_block (.code yX6_block cX6_block 3 (some .int) :: TB) ({ frames := 6, cells := 0, slots := 0, locals := 138 } : Room) (PW D cy ad M0 [.ref (ad 9 0), .int p0, .int p1]) (QI D cy ad r (gs M0 9 x)) 0 0 (AD ad) := by
  refine m_in (by decide +kernel) (Nat.le_of_ble_eq_true rfl) ?_
  intro p e s md args below meth c hC hw hS ls hl
  obtain ⟨hx, hb, hr, hml, hown, hts, hK, hlk⟩ := hC
  have hl : lv_has ls 3 [(0, .ref (ad 9 0)), (1, .int p0), (2, .int p1)] := hl
  rw [← gs_same hm] at hw
  unfold f_X6_block at h
  have main : JL p l e ({ frames := 6, cells := 0, slots := 0, locals := 138 } : Room) s md args below meth c D cy ad (MQ below (QI D cy ad r (gs M0 9 x)) args s 0 0 (AD ad)) (gs M0 9 m) 3 [(0, .ref (ad 9 0)), (1, .int p0), (2, .int p1)] 0 [] := by
    intro H locs hw hS ls hl
    refine lv_aload_n hx hb dX6_block_0 rfl (lv_at hl 0 rfl) ?_
    refine lv_iload_n hx hb dX6_block_1 rfl (lv_at hl 1 rfl) ?_
    obtain ⟨r2, y1, h⟩ := t_b1 h
    refine c_vi hx hb hml hown hts hK hw hS (fun _ h => h) (As := [.int p0]) (rest := []) (c_X6_isBlock hcv (M0 := gs M0 9 m) (m := m) (hm := gs_at) y1) cf_X6_isBlock k_718 rfl rfl ⟨Nat.le_of_ble_eq_true rfl, Nat.le_of_ble_eq_true rfl⟩ (r_recv hK hw (v_md (by decide)) E_md rfl) rfl hl.1 rfl (Nat.le_of_ble_eq_true rfl) ⟨Nat.le_refl _, Nat.le_refl _⟩ dX6_block_2 (fun H locs hw hS => ?_)
    refine lv_if_ne (tgt := 10) hx hb dX6_block_5 (by decide) (fun q3 => ?_) (fun q3 => ?_)
    · replace h := t_neg h q3
      refine lv_iload_n hx hb dX6_block_10 rfl (lv_at hl 2 rfl) ?_
      refine lv_iconst (v := nI 0) hx hb dX6_block_11 (by decide) ?_
      refine lv_bipush (v := nI 6) hx hb dX6_block_12 (by decide) ?_
      obtain ⟨r5, y4, h⟩ := t_b1 h
      refine c_si hx hb hml hown hts hK hw hS (fun _ h => h) (As := [.int p1, .int (nI 0), .int (nI 6)]) (rest := []) (c_X6_in hcv (M0 := gs M0 9 m) y4) cf_X6_in k_663 rfl rfl ⟨Nat.le_of_ble_eq_true rfl, Nat.le_of_ble_eq_true rfl⟩ rfl hl.1 rfl (Nat.le_of_ble_eq_true rfl) ⟨Nat.le_refl _, Nat.le_refl _⟩ dX6_block_14 (fun H locs hw hS => ?_)
      refine lv_if_ne (tgt := 23) hx hb dX6_block_17 (by decide) (fun q6 => ?_) (fun q6 => ?_)
      · replace h := t_neg h q6
        refine lv_iload_n hx hb dX6_block_23 rfl (lv_at hl 2 rfl) ?_
        refine lv_iconst (v := nI 5) hx hb dX6_block_24 (by decide) ?_
        refine lv_icmp_ne (tgt := 36) hx hb dX6_block_25 (by decide) (fun q7 => ?_) (fun q7 => ?_)
        · replace h := t_neg h q7
          refine lv_iload_n hx hb dX6_block_36 rfl (lv_at hl 2 rfl) ?_
          refine lv_bipush (v := nI 6) hx hb dX6_block_37 (by decide) ?_
          refine lv_icmp_ne (tgt := 50) hx hb dX6_block_39 (by decide) (fun q8 => ?_) (fun q8 => ?_)
          · replace h := t_neg h q8
            refine lv_aload_n hx hb dX6_block_50 rfl (lv_at hl 0 rfl) ?_
            refine lv_iload_n hx hb dX6_block_51 rfl (lv_at hl 1 rfl) ?_
            refine lv_iload_n hx hb dX6_block_52 rfl (lv_at hl 2 rfl) ?_
            obtain ⟨r10, y9, h⟩ := t_b1 h
            refine c_vi hx hb hml hown hts hK hw hS (fun _ h => h) (As := [.int p0, .int p1]) (rest := []) (c_X6_of hcv (M0 := gs M0 9 m) (m := m) (hm := gs_at) y9) cf_X6_of k_611 rfl rfl ⟨Nat.le_of_ble_eq_true rfl, Nat.le_of_ble_eq_true rfl⟩ (r_recv hK hw (v_md (by decide)) E_md rfl) rfl hl.1 rfl (Nat.le_of_ble_eq_true rfl) ⟨Nat.le_refl _, Nat.le_refl _⟩ dX6_block_53 (fun H locs hw hS => ?_)
            have e1 := (t_ret h).1
            have e2 := (t_ret h).2
            exact e_i hx hb hr hlk hw hS e1 (by rw [e2]) dX6_block_56
          · replace h := t_pos h q8
            refine lv_aload_n hx hb dX6_block_42 rfl (lv_at hl 0 rfl) ?_
            refine lv_iload_n hx hb dX6_block_43 rfl (lv_at hl 1 rfl) ?_
            obtain ⟨r12, y11, h⟩ := t_b1 h
            refine c_vi hx hb hml hown hts hK hw hS (fun _ h => h) (As := [.int p0]) (rest := []) (c_X6_sumRead hcv (M0 := gs M0 9 m) (m := m) (hm := gs_at) y11) cf_X6_sumRead k_694 rfl rfl ⟨Nat.le_of_ble_eq_true rfl, Nat.le_of_ble_eq_true rfl⟩ (r_recv hK hw (v_md (by decide)) E_md rfl) rfl hl.1 rfl (Nat.le_of_ble_eq_true rfl) ⟨Nat.le_refl _, Nat.le_refl _⟩ dX6_block_44 (fun H locs hw hS => ?_)
            refine lv_goto (tgt := 56) hx hb dX6_block_47 (by decide) ?_
            have e1 := (t_ret h).1
            have e2 := (t_ret h).2
            exact e_i hx hb hr hlk hw hS e1 (by rw [e2]) dX6_block_56
        · replace h := t_pos h q7
          refine lv_aload_n hx hb dX6_block_28 rfl (lv_at hl 0 rfl) ?_
          refine lv_iload_n hx hb dX6_block_29 rfl (lv_at hl 1 rfl) ?_
          obtain ⟨r14, m15, y13, h⟩ := t_bd h
          refine c_vi hx hb hml hown hts hK hw hS (fun _ h => h) (As := [.int p0]) (rest := []) (c_X6_weight hcv (M0 := gs M0 9 m) (m := m) (hm := gs_at) y13) cf_X6_weight k_787 rfl rfl ⟨Nat.le_of_ble_eq_true rfl, Nat.le_of_ble_eq_true rfl⟩ (r_recv hK hw (v_md (by decide)) E_md rfl) rfl hl.1 rfl (Nat.le_of_ble_eq_true rfl) ⟨Nat.le_refl _, Nat.le_refl _⟩ dX6_block_30 (fun H locs hw hS => ?_)
          rw [gs_gs] at hw
          refine lv_goto (tgt := 56) hx hb dX6_block_33 (by decide) ?_
          have e1 := (t_ret h).1
          have e2 := (t_ret h).2
          exact e_i hx hb hr hlk hw hS e1 (by rw [e2]) dX6_block_56
      · replace h := t_pos h q6
        refine lv_bipush (v := -2) hx hb dX6_block_20 (by decide) ?_
        have e1 := (t_ret h).1
        have e2 := (t_ret h).2
        exact e_i hx hb hr hlk hw hS e1 (by rw [e2]) dX6_block_22
    · replace h := t_pos h q3
      refine lv_iconst (v := -1) hx hb dX6_block_8 (by decide) ?_
      have e1 := (t_ret h).1
      have e2 := (t_ret h).2
      exact e_i hx hb hr hlk hw hS e1 (by rw [e2]) dX6_block_9
  exact main _ _ hw hS ls hl

theorem cf_X6_value : cfV RX6 yX6_value cX6_value 3 (some .int) 2 := ⟨⟨k_820, k_821, k_7, k_822⟩, by decide +kernel⟩
def f_X6_value (m : SM) (p0 : Int32) (p1 : Int32) : Option (Int32) :=
  b1 (f_X6_isBlock m p0) fun r2 => (if r2 = (nI 0) then some (-1 : Int32) else (if p1 < (nI 0) then some (-1 : Int32) else b1 (f_X6_of m p0 (nI 3)) fun r6 => (if p1 < r6 then b1 (f_X6_of m p0 (nI 4)) fun r9 => (if r9 ≤ p1 then some (-4 : Int32) else b1 (f_X6_of m p0 ((nI 5) + p1)) fun r12 => some r12) else some (-1 : Int32))))
set_option maxHeartbeats 4000000 in
set_option maxRecDepth 100000 in
theorem c_X6_value {l : Launch} {D : va_G} {cy : Nat → ClassId} {ad : Nat → Nat → Nat} (hcv : CV ad) {M0 : MM} {m : SM} (hm : M0 9 = m) {p0 p1 : Int32} {r : Int32} (h : f_X6_value m p0 p1 = some r) : Met l yX6_value (.code yX6_value cX6_value 3 (some .int) :: TB) ({ frames := 1, cells := 0, slots := 0, locals := 22 } : Room) (PW D cy ad M0 [.ref (ad 9 0), .int p0, .int p1]) (QI D cy ad r M0) 0 0 (AD ad) := by
  refine m_in (by decide +kernel) (Nat.le_of_ble_eq_true rfl) ?_
  intro p e s md args below meth c hC hw hS ls hl
  obtain ⟨hx, hb, hr, hml, hown, hts, hK, hlk⟩ := hC
  have hl : lv_has ls 3 [(0, .ref (ad 9 0)), (1, .int p0), (2, .int p1)] := hl
  rw [← gs_same hm] at hw
  unfold f_X6_value at h
  have main : JL p l e ({ frames := 1, cells := 0, slots := 0, locals := 22 } : Room) s md args below meth c D cy ad (MQ below (QI D cy ad r M0) args s 0 0 (AD ad)) (gs M0 9 m) 3 [(0, .ref (ad 9 0)), (1, .int p0), (2, .int p1)] 0 [] := by
    intro H locs hw hS ls hl
    refine lv_aload_n hx hb dX6_value_0 rfl (lv_at hl 0 rfl) ?_
    refine lv_iload_n hx hb dX6_value_1 rfl (lv_at hl 1 rfl) ?_
    obtain ⟨r2, y1, h⟩ := t_b1 h
    refine c_vi hx hb hml hown hts hK hw hS (fun _ h => h) (As := [.int p0]) (rest := []) (c_X6_isBlock hcv (M0 := gs M0 9 m) (m := m) (hm := gs_at) y1) cf_X6_isBlock k_718 rfl rfl ⟨Nat.le_of_ble_eq_true rfl, Nat.le_of_ble_eq_true rfl⟩ (r_recv hK hw (v_md (by decide)) E_md rfl) rfl hl.1 rfl (Nat.le_of_ble_eq_true rfl) ⟨Nat.le_refl _, Nat.le_refl _⟩ dX6_value_2 (fun H locs hw hS => ?_)
    refine lv_if_eq (tgt := 22) hx hb dX6_value_5 (by decide) (fun q3 => ?_) (fun q3 => ?_)
    · replace h := t_pos h q3
      refine lv_iconst (v := -1) hx hb dX6_value_22 (by decide) ?_
      have e1 := Option.some.inj h
      exact e_i hx hb hr hlk hw hS e1 (gs_same hm) dX6_value_23
    · replace h := t_neg h q3
      refine lv_iload_n hx hb dX6_value_8 rfl (lv_at hl 2 rfl) ?_
      refine lv_if_lt (tgt := 22) hx hb dX6_value_9 (by decide) (fun q4 => ?_) (fun q4 => ?_)
      · replace h := t_pos h q4
        refine lv_iconst (v := -1) hx hb dX6_value_22 (by decide) ?_
        have e1 := Option.some.inj h
        exact e_i hx hb hr hlk hw hS e1 (gs_same hm) dX6_value_23
      · replace h := t_neg h q4
        refine lv_iload_n hx hb dX6_value_12 rfl (lv_at hl 2 rfl) ?_
        refine lv_aload_n hx hb dX6_value_13 rfl (lv_at hl 0 rfl) ?_
        refine lv_iload_n hx hb dX6_value_14 rfl (lv_at hl 1 rfl) ?_
        refine lv_iconst (v := nI 3) hx hb dX6_value_15 (by decide) ?_
        obtain ⟨r6, y5, h⟩ := t_b1 h
        refine c_vi hx hb hml hown hts hK hw hS (fun _ h => h) (As := [.int p0, .int (nI 3)]) (rest := [.int p1]) (c_X6_of hcv (M0 := gs M0 9 m) (m := m) (hm := gs_at) y5) cf_X6_of k_611 rfl rfl ⟨Nat.le_of_ble_eq_true rfl, Nat.le_of_ble_eq_true rfl⟩ (r_recv hK hw (v_md (by decide)) E_md rfl) rfl hl.1 rfl (Nat.le_of_ble_eq_true rfl) ⟨Nat.le_refl _, Nat.le_refl _⟩ dX6_value_16 (fun H locs hw hS => ?_)
        refine lv_icmp_lt (tgt := 24) hx hb dX6_value_19 (by decide) (fun q7 => ?_) (fun q7 => ?_)
        · replace h := t_pos h q7
          refine lv_iload_n hx hb dX6_value_24 rfl (lv_at hl 2 rfl) ?_
          refine lv_aload_n hx hb dX6_value_25 rfl (lv_at hl 0 rfl) ?_
          refine lv_iload_n hx hb dX6_value_26 rfl (lv_at hl 1 rfl) ?_
          refine lv_iconst (v := nI 4) hx hb dX6_value_27 (by decide) ?_
          obtain ⟨r9, y8, h⟩ := t_b1 h
          refine c_vi hx hb hml hown hts hK hw hS (fun _ h => h) (As := [.int p0, .int (nI 4)]) (rest := [.int p1]) (c_X6_of hcv (M0 := gs M0 9 m) (m := m) (hm := gs_at) y8) cf_X6_of k_611 rfl rfl ⟨Nat.le_of_ble_eq_true rfl, Nat.le_of_ble_eq_true rfl⟩ (r_recv hK hw (v_md (by decide)) E_md rfl) rfl hl.1 rfl (Nat.le_of_ble_eq_true rfl) ⟨Nat.le_refl _, Nat.le_refl _⟩ dX6_value_28 (fun H locs hw hS => ?_)
          refine lv_icmp_ge (tgt := 45) hx hb dX6_value_31 (by decide) (fun q10 => ?_) (fun q10 => ?_)
          · replace h := t_pos h q10
            refine lv_bipush (v := -4) hx hb dX6_value_45 (by decide) ?_
            have e1 := Option.some.inj h
            exact e_i hx hb hr hlk hw hS e1 (gs_same hm) dX6_value_47
          · replace h := t_neg h q10
            refine lv_aload_n hx hb dX6_value_34 rfl (lv_at hl 0 rfl) ?_
            refine lv_iload_n hx hb dX6_value_35 rfl (lv_at hl 1 rfl) ?_
            refine lv_iconst (v := nI 5) hx hb dX6_value_36 (by decide) ?_
            refine lv_iload_n hx hb dX6_value_37 rfl (lv_at hl 2 rfl) ?_
            refine lv_iadd hx hb dX6_value_38 ?_
            obtain ⟨r12, y11, h⟩ := t_b1 h
            refine c_vi hx hb hml hown hts hK hw hS (fun _ h => h) (As := [.int p0, .int ((nI 5) + p1)]) (rest := []) (c_X6_of hcv (M0 := gs M0 9 m) (m := m) (hm := gs_at) y11) cf_X6_of k_611 rfl rfl ⟨Nat.le_of_ble_eq_true rfl, Nat.le_of_ble_eq_true rfl⟩ (r_recv hK hw (v_md (by decide)) E_md rfl) rfl hl.1 rfl (Nat.le_of_ble_eq_true rfl) ⟨Nat.le_refl _, Nat.le_refl _⟩ dX6_value_39 (fun H locs hw hS => ?_)
            refine lv_goto (tgt := 47) hx hb dX6_value_42 (by decide) ?_
            have e1 := Option.some.inj h
            exact e_i hx hb hr hlk hw hS e1 (gs_same hm) dX6_value_47
        · replace h := t_neg h q7
          refine lv_iconst (v := -1) hx hb dX6_value_22 (by decide) ?_
          have e1 := Option.some.inj h
          exact e_i hx hb hr hlk hw hS e1 (gs_same hm) dX6_value_23
  exact main _ _ hw hS ls hl

theorem cf_X6_question : cfV RX6 yX6_question cX6_question 3 (some .int) 2 := ⟨⟨k_824, k_825, k_7, k_826⟩, by decide +kernel⟩
def f_X6_question (m : SM) (p0 : Int32) (p1 : Int32) : Option (Int32 × SM) :=
  b1 (f_X6_isQuestion m p0) fun r2 => (if r2 = (nI 0) then some ((-1 : Int32), m) else b1 (f_X6_in p1 (nI 0) (nI 12)) fun r5 => (if r5 = (nI 0) then some ((-2 : Int32), m) else (if (nI 5) ≤ p1 then (if (nI 8) ≤ p1 then (if (nI 11) ≤ p1 then (if p1 = (nI 11) then b1 (f_X6_rowsOf m p0 (nI 3)) fun r14 => some (r14, m) else b1 (f_X6_rowsOf m p0 (nI 4)) fun r12 => some (r12, m)) else b1 (f_X6_asked m p0 (nI 4)) fun r16 => (if r16 = (nI 1) then b1 (f_X6_asked m p0 (((nI 5) + p1) - (nI 8))) fun r19 => some (r19, m) else some ((-5 : Int32), m))) else bd (f_X6_answer m p0 (p1 - (nI 5))) fun r21 m22 => some (r21, m22)) else b1 (f_X6_asked m p0 p1) fun r24 => some (r24, m))))
set_option maxHeartbeats 4000000 in
set_option maxRecDepth 100000 in
theorem c_X6_question {l : Launch} {D : va_G} {cy : Nat → ClassId} {ad : Nat → Nat → Nat} (hcv : CV ad) {M0 : MM} {m : SM} (hm : M0 9 = m) {p0 p1 : Int32} {r : Int32} {x : SM} (h : f_X6_question m p0 p1 = some (r, x)) : Met l yX6_question (.code yX6_question cX6_question 3 (some .int) :: TB) ({ frames := 4, cells := 0, slots := 0, locals := 93 } : Room) (PW D cy ad M0 [.ref (ad 9 0), .int p0, .int p1]) (QI D cy ad r (gs M0 9 x)) 0 0 (AD ad) := by
  refine m_in (by decide +kernel) (Nat.le_of_ble_eq_true rfl) ?_
  intro p e s md args below meth c hC hw hS ls hl
  obtain ⟨hx, hb, hr, hml, hown, hts, hK, hlk⟩ := hC
  have hl : lv_has ls 3 [(0, .ref (ad 9 0)), (1, .int p0), (2, .int p1)] := hl
  rw [← gs_same hm] at hw
  unfold f_X6_question at h
  have main : JL p l e ({ frames := 4, cells := 0, slots := 0, locals := 93 } : Room) s md args below meth c D cy ad (MQ below (QI D cy ad r (gs M0 9 x)) args s 0 0 (AD ad)) (gs M0 9 m) 3 [(0, .ref (ad 9 0)), (1, .int p0), (2, .int p1)] 0 [] := by
    intro H locs hw hS ls hl
    refine lv_aload_n hx hb dX6_question_0 rfl (lv_at hl 0 rfl) ?_
    refine lv_iload_n hx hb dX6_question_1 rfl (lv_at hl 1 rfl) ?_
    obtain ⟨r2, y1, h⟩ := t_b1 h
    refine c_vi hx hb hml hown hts hK hw hS (fun _ h => h) (As := [.int p0]) (rest := []) (c_X6_isQuestion hcv (M0 := gs M0 9 m) (m := m) (hm := gs_at) y1) cf_X6_isQuestion k_743 rfl rfl ⟨Nat.le_of_ble_eq_true rfl, Nat.le_of_ble_eq_true rfl⟩ (r_recv hK hw (v_md (by decide)) E_md rfl) rfl hl.1 rfl (Nat.le_of_ble_eq_true rfl) ⟨Nat.le_refl _, Nat.le_refl _⟩ dX6_question_2 (fun H locs hw hS => ?_)
    refine lv_if_ne (tgt := 10) hx hb dX6_question_5 (by decide) (fun q3 => ?_) (fun q3 => ?_)
    · replace h := t_neg h q3
      refine lv_iload_n hx hb dX6_question_10 rfl (lv_at hl 2 rfl) ?_
      refine lv_iconst (v := nI 0) hx hb dX6_question_11 (by decide) ?_
      refine lv_bipush (v := nI 12) hx hb dX6_question_12 (by decide) ?_
      obtain ⟨r5, y4, h⟩ := t_b1 h
      refine c_si hx hb hml hown hts hK hw hS (fun _ h => h) (As := [.int p1, .int (nI 0), .int (nI 12)]) (rest := []) (c_X6_in hcv (M0 := gs M0 9 m) y4) cf_X6_in k_663 rfl rfl ⟨Nat.le_of_ble_eq_true rfl, Nat.le_of_ble_eq_true rfl⟩ rfl hl.1 rfl (Nat.le_of_ble_eq_true rfl) ⟨Nat.le_refl _, Nat.le_refl _⟩ dX6_question_14 (fun H locs hw hS => ?_)
      refine lv_if_ne (tgt := 23) hx hb dX6_question_17 (by decide) (fun q6 => ?_) (fun q6 => ?_)
      · replace h := t_neg h q6
        refine lv_iload_n hx hb dX6_question_23 rfl (lv_at hl 2 rfl) ?_
        refine lv_iconst (v := nI 5) hx hb dX6_question_24 (by decide) ?_
        refine lv_icmp_ge (tgt := 35) hx hb dX6_question_25 (by decide) (fun q7 => ?_) (fun q7 => ?_)
        · replace h := t_pos h q7
          refine lv_iload_n hx hb dX6_question_35 rfl (lv_at hl 2 rfl) ?_
          refine lv_bipush (v := nI 8) hx hb dX6_question_36 (by decide) ?_
          refine lv_icmp_ge (tgt := 50) hx hb dX6_question_38 (by decide) (fun q8 => ?_) (fun q8 => ?_)
          · replace h := t_pos h q8
            refine lv_iload_n hx hb dX6_question_50 rfl (lv_at hl 2 rfl) ?_
            refine lv_bipush (v := nI 11) hx hb dX6_question_51 (by decide) ?_
            refine lv_icmp_ge (tgt := 83) hx hb dX6_question_53 (by decide) (fun q9 => ?_) (fun q9 => ?_)
            · replace h := t_pos h q9
              refine lv_aload_n hx hb dX6_question_83 rfl (lv_at hl 0 rfl) ?_
              refine lv_iload_n hx hb dX6_question_84 rfl (lv_at hl 1 rfl) ?_
              refine lv_iload_n hx hb dX6_question_85 rfl (lv_at hl 2 rfl) ?_
              refine lv_bipush (v := nI 11) hx hb dX6_question_86 (by decide) ?_
              refine lv_icmp_ne (tgt := 95) hx hb dX6_question_88 (by decide) (fun q10 => ?_) (fun q10 => ?_)
              · replace h := t_neg h q10
                refine lv_iconst (v := nI 4) hx hb dX6_question_95 (by decide) ?_
                obtain ⟨r12, y11, h⟩ := t_b1 h
                refine c_vi hx hb hml hown hts hK hw hS (fun _ h => h) (As := [.int p0, .int (nI 4)]) (rest := []) (c_X6_rowsOf hcv (M0 := gs M0 9 m) (m := m) (hm := gs_at) y11) cf_X6_rowsOf k_678 rfl rfl ⟨Nat.le_of_ble_eq_true rfl, Nat.le_of_ble_eq_true rfl⟩ (r_recv hK hw (v_md (by decide)) E_md rfl) rfl hl.1 rfl (Nat.le_of_ble_eq_true rfl) ⟨Nat.le_refl _, Nat.le_refl _⟩ dX6_question_96 (fun H locs hw hS => ?_)
                have e1 := (t_ret h).1
                have e2 := (t_ret h).2
                exact e_i hx hb hr hlk hw hS e1 (by rw [e2]) dX6_question_99
              · replace h := t_pos h q10
                refine lv_iconst (v := nI 3) hx hb dX6_question_91 (by decide) ?_
                refine lv_goto (tgt := 96) hx hb dX6_question_92 (by decide) ?_
                obtain ⟨r14, y13, h⟩ := t_b1 h
                refine c_vi hx hb hml hown hts hK hw hS (fun _ h => h) (As := [.int p0, .int (nI 3)]) (rest := []) (c_X6_rowsOf hcv (M0 := gs M0 9 m) (m := m) (hm := gs_at) y13) cf_X6_rowsOf k_678 rfl rfl ⟨Nat.le_of_ble_eq_true rfl, Nat.le_of_ble_eq_true rfl⟩ (r_recv hK hw (v_md (by decide)) E_md rfl) rfl hl.1 rfl (Nat.le_of_ble_eq_true rfl) ⟨Nat.le_refl _, Nat.le_refl _⟩ dX6_question_96 (fun H locs hw hS => ?_)
                have e1 := (t_ret h).1
                have e2 := (t_ret h).2
                exact e_i hx hb hr hlk hw hS e1 (by rw [e2]) dX6_question_99
            · replace h := t_neg h q9
              refine lv_aload_n hx hb dX6_question_56 rfl (lv_at hl 0 rfl) ?_
              refine lv_iload_n hx hb dX6_question_57 rfl (lv_at hl 1 rfl) ?_
              refine lv_iconst (v := nI 4) hx hb dX6_question_58 (by decide) ?_
              obtain ⟨r16, y15, h⟩ := t_b1 h
              refine c_vi hx hb hml hown hts hK hw hS (fun _ h => h) (As := [.int p0, .int (nI 4)]) (rest := []) (c_X6_asked hcv (M0 := gs M0 9 m) (m := m) (hm := gs_at) y15) cf_X6_asked k_674 rfl rfl ⟨Nat.le_of_ble_eq_true rfl, Nat.le_of_ble_eq_true rfl⟩ (r_recv hK hw (v_md (by decide)) E_md rfl) rfl hl.1 rfl (Nat.le_of_ble_eq_true rfl) ⟨Nat.le_refl _, Nat.le_refl _⟩ dX6_question_59 (fun H locs hw hS => ?_)
              refine lv_iconst (v := nI 1) hx hb dX6_question_62 (by decide) ?_
              refine lv_icmp_ne (tgt := 80) hx hb dX6_question_63 (by decide) (fun q17 => ?_) (fun q17 => ?_)
              · replace h := t_neg h q17
                refine lv_bipush (v := -5) hx hb dX6_question_80 (by decide) ?_
                have e1 := (t_ret h).1
                have e2 := (t_ret h).2
                exact e_i hx hb hr hlk hw hS e1 (by rw [e2]) dX6_question_82
              · replace h := t_pos h q17
                refine lv_aload_n hx hb dX6_question_66 rfl (lv_at hl 0 rfl) ?_
                refine lv_iload_n hx hb dX6_question_67 rfl (lv_at hl 1 rfl) ?_
                refine lv_iconst (v := nI 5) hx hb dX6_question_68 (by decide) ?_
                refine lv_iload_n hx hb dX6_question_69 rfl (lv_at hl 2 rfl) ?_
                refine lv_iadd hx hb dX6_question_70 ?_
                refine lv_bipush (v := nI 8) hx hb dX6_question_71 (by decide) ?_
                refine lv_isub hx hb dX6_question_73 ?_
                obtain ⟨r19, y18, h⟩ := t_b1 h
                refine c_vi hx hb hml hown hts hK hw hS (fun _ h => h) (As := [.int p0, .int (((nI 5) + p1) - (nI 8))]) (rest := []) (c_X6_asked hcv (M0 := gs M0 9 m) (m := m) (hm := gs_at) y18) cf_X6_asked k_674 rfl rfl ⟨Nat.le_of_ble_eq_true rfl, Nat.le_of_ble_eq_true rfl⟩ (r_recv hK hw (v_md (by decide)) E_md rfl) rfl hl.1 rfl (Nat.le_of_ble_eq_true rfl) ⟨Nat.le_refl _, Nat.le_refl _⟩ dX6_question_74 (fun H locs hw hS => ?_)
                refine lv_goto (tgt := 82) hx hb dX6_question_77 (by decide) ?_
                have e1 := (t_ret h).1
                have e2 := (t_ret h).2
                exact e_i hx hb hr hlk hw hS e1 (by rw [e2]) dX6_question_82
          · replace h := t_neg h q8
            refine lv_aload_n hx hb dX6_question_41 rfl (lv_at hl 0 rfl) ?_
            refine lv_iload_n hx hb dX6_question_42 rfl (lv_at hl 1 rfl) ?_
            refine lv_iload_n hx hb dX6_question_43 rfl (lv_at hl 2 rfl) ?_
            refine lv_iconst (v := nI 5) hx hb dX6_question_44 (by decide) ?_
            refine lv_isub hx hb dX6_question_45 ?_
            obtain ⟨r21, m22, y20, h⟩ := t_bd h
            refine c_vi hx hb hml hown hts hK hw hS (fun _ h => h) (As := [.int p0, .int (p1 - (nI 5))]) (rest := []) (c_X6_answer hcv (M0 := gs M0 9 m) (m := m) (hm := gs_at) y20) cf_X6_answer k_686 rfl rfl ⟨Nat.le_of_ble_eq_true rfl, Nat.le_of_ble_eq_true rfl⟩ (r_recv hK hw (v_md (by decide)) E_md rfl) rfl hl.1 rfl (Nat.le_of_ble_eq_true rfl) ⟨Nat.le_refl _, Nat.le_refl _⟩ dX6_question_46 (fun H locs hw hS => ?_)
            rw [gs_gs] at hw
            have e1 := (t_ret h).1
            have e2 := (t_ret h).2
            exact e_i hx hb hr hlk hw hS e1 (by rw [e2]) dX6_question_49
        · replace h := t_neg h q7
          refine lv_aload_n hx hb dX6_question_28 rfl (lv_at hl 0 rfl) ?_
          refine lv_iload_n hx hb dX6_question_29 rfl (lv_at hl 1 rfl) ?_
          refine lv_iload_n hx hb dX6_question_30 rfl (lv_at hl 2 rfl) ?_
          obtain ⟨r24, y23, h⟩ := t_b1 h
          refine c_vi hx hb hml hown hts hK hw hS (fun _ h => h) (As := [.int p0, .int p1]) (rest := []) (c_X6_asked hcv (M0 := gs M0 9 m) (m := m) (hm := gs_at) y23) cf_X6_asked k_674 rfl rfl ⟨Nat.le_of_ble_eq_true rfl, Nat.le_of_ble_eq_true rfl⟩ (r_recv hK hw (v_md (by decide)) E_md rfl) rfl hl.1 rfl (Nat.le_of_ble_eq_true rfl) ⟨Nat.le_refl _, Nat.le_refl _⟩ dX6_question_31 (fun H locs hw hS => ?_)
          have e1 := (t_ret h).1
          have e2 := (t_ret h).2
          exact e_i hx hb hr hlk hw hS e1 (by rw [e2]) dX6_question_34
      · replace h := t_pos h q6
        refine lv_bipush (v := -2) hx hb dX6_question_20 (by decide) ?_
        have e1 := (t_ret h).1
        have e2 := (t_ret h).2
        exact e_i hx hb hr hlk hw hS e1 (by rw [e2]) dX6_question_22
    · replace h := t_pos h q3
      refine lv_iconst (v := -1) hx hb dX6_question_8 (by decide) ?_
      have e1 := (t_ret h).1
      have e2 := (t_ret h).2
      exact e_i hx hb hr hlk hw hS e1 (by rw [e2]) dX6_question_9
  exact main _ _ hw hS ls hl

theorem cf_X6_next : cfV RX6 yX6_next cX6_next 3 (some .int) 1 := ⟨⟨k_828, k_829, k_7, k_830⟩, by decide +kernel⟩
def f_X6_next (m : SM) (p0 : Int32) : Option (Int32 × SM) :=
  b1 (f_X6_in p0 (nI 0) (nI 1)) fun r2 => (if r2 = (nI 0) then some ((-2 : Int32), m) else bd (f_X6_nextBlock m) fun r5 m6 => (if r5 = (-5 : Int32) then some (r5, m6) else (if p0 = (nI 0) then some (r5, m6) else b1 (f_X6_of m6 r5 (nI 4)) fun r10 => some (r10, m6))))
set_option maxHeartbeats 4000000 in
set_option maxRecDepth 100000 in
theorem c_X6_next {l : Launch} {D : va_G} {cy : Nat → ClassId} {ad : Nat → Nat → Nat} (hcv : CV ad) {M0 : MM} {m : SM} (hm : M0 9 = m) {p0 : Int32} {r : Int32} {x : SM} (h : f_X6_next m p0 = some (r, x)) : Met l yX6_next (.code yX6_next cX6_next 3 (some .int) :: TB) ({ frames := 8, cells := 0, slots := 0, locals := 182 } : Room) (PW D cy ad M0 [.ref (ad 9 0), .int p0]) (QI D cy ad r (gs M0 9 x)) 0 0 (AD ad) := by
  refine m_in (by decide +kernel) (Nat.le_of_ble_eq_true rfl) ?_
  intro p e s md args below meth c hC hw hS ls hl
  obtain ⟨hx, hb, hr, hml, hown, hts, hK, hlk⟩ := hC
  have hl : lv_has ls 3 [(0, .ref (ad 9 0)), (1, .int p0)] := hl
  rw [← gs_same hm] at hw
  unfold f_X6_next at h
  have main : JL p l e ({ frames := 8, cells := 0, slots := 0, locals := 182 } : Room) s md args below meth c D cy ad (MQ below (QI D cy ad r (gs M0 9 x)) args s 0 0 (AD ad)) (gs M0 9 m) 3 [(0, .ref (ad 9 0)), (1, .int p0)] 0 [] := by
    intro H locs hw hS ls hl
    refine lv_iload_n hx hb dX6_next_0 rfl (lv_at hl 1 rfl) ?_
    refine lv_iconst (v := nI 0) hx hb dX6_next_1 (by decide) ?_
    refine lv_iconst (v := nI 1) hx hb dX6_next_2 (by decide) ?_
    obtain ⟨r2, y1, h⟩ := t_b1 h
    refine c_si hx hb hml hown hts hK hw hS (fun _ h => h) (As := [.int p0, .int (nI 0), .int (nI 1)]) (rest := []) (c_X6_in hcv (M0 := gs M0 9 m) y1) cf_X6_in k_663 rfl rfl ⟨Nat.le_of_ble_eq_true rfl, Nat.le_of_ble_eq_true rfl⟩ rfl hl.1 rfl (Nat.le_of_ble_eq_true rfl) ⟨Nat.le_refl _, Nat.le_refl _⟩ dX6_next_3 (fun H locs hw hS => ?_)
    refine lv_if_ne (tgt := 12) hx hb dX6_next_6 (by decide) (fun q3 => ?_) (fun q3 => ?_)
    · replace h := t_neg h q3
      refine lv_aload_n hx hb dX6_next_12 rfl (lv_at hl 0 rfl) ?_
      obtain ⟨r5, m6, y4, h⟩ := t_bd h
      refine c_vi hx hb hml hown hts hK hw hS (fun _ h => h) (As := []) (rest := []) (c_X6_nextBlock hcv (M0 := gs M0 9 m) (m := m) (hm := gs_at) y4) cf_X6_nextBlock k_771 rfl rfl ⟨Nat.le_of_ble_eq_true rfl, Nat.le_of_ble_eq_true rfl⟩ (r_recv hK hw (v_md (by decide)) E_md rfl) rfl hl.1 rfl (Nat.le_of_ble_eq_true rfl) ⟨Nat.le_refl _, Nat.le_refl _⟩ dX6_next_13 (fun H locs hw hS => ?_)
      rw [gs_gs] at hw
      refine lv_istore_n (lv' := [(2, .int r5), (0, .ref (ad 9 0)), (1, .int p0)]) hx hb dX6_next_16 rfl hl (by decide) rfl (fun ls hl => ?_)
      refine lv_iload_n hx hb dX6_next_17 rfl (lv_at hl 0 rfl) ?_
      refine lv_bipush (v := -5) hx hb dX6_next_18 (by decide) ?_
      refine lv_icmp_eq (tgt := 27) hx hb dX6_next_20 (by decide) (fun q7 => ?_) (fun q7 => ?_)
      · replace h := t_pos h q7
        refine lv_iload_n hx hb dX6_next_27 rfl (lv_at hl 0 rfl) ?_
        refine lv_goto (tgt := 37) hx hb dX6_next_28 (by decide) ?_
        have e1 := (t_ret h).1
        have e2 := (t_ret h).2
        exact e_i hx hb hr hlk hw hS e1 (by rw [e2]) dX6_next_37
      · replace h := t_neg h q7
        refine lv_iload_n hx hb dX6_next_23 rfl (lv_at hl 2 rfl) ?_
        refine lv_if_ne (tgt := 31) hx hb dX6_next_24 (by decide) (fun q8 => ?_) (fun q8 => ?_)
        · replace h := t_neg h q8
          refine lv_aload_n hx hb dX6_next_31 rfl (lv_at hl 1 rfl) ?_
          refine lv_iload_n hx hb dX6_next_32 rfl (lv_at hl 0 rfl) ?_
          refine lv_iconst (v := nI 4) hx hb dX6_next_33 (by decide) ?_
          obtain ⟨r10, y9, h⟩ := t_b1 h
          refine c_vi hx hb hml hown hts hK hw hS (fun _ h => h) (As := [.int r5, .int (nI 4)]) (rest := []) (c_X6_of hcv (M0 := gs M0 9 m6) (m := m6) (hm := gs_at) y9) cf_X6_of k_611 rfl rfl ⟨Nat.le_of_ble_eq_true rfl, Nat.le_of_ble_eq_true rfl⟩ (r_recv hK hw (v_md (by decide)) E_md rfl) rfl hl.1 rfl (Nat.le_of_ble_eq_true rfl) ⟨Nat.le_refl _, Nat.le_refl _⟩ dX6_next_34 (fun H locs hw hS => ?_)
          have e1 := (t_ret h).1
          have e2 := (t_ret h).2
          exact e_i hx hb hr hlk hw hS e1 (by rw [e2]) dX6_next_37
        · replace h := t_pos h q8
          refine lv_iload_n hx hb dX6_next_27 rfl (lv_at hl 0 rfl) ?_
          refine lv_goto (tgt := 37) hx hb dX6_next_28 (by decide) ?_
          have e1 := (t_ret h).1
          have e2 := (t_ret h).2
          exact e_i hx hb hr hlk hw hS e1 (by rw [e2]) dX6_next_37
    · replace h := t_pos h q3
      refine lv_bipush (v := -2) hx hb dX6_next_9 (by decide) ?_
      have e1 := (t_ret h).1
      have e2 := (t_ret h).2
      exact e_i hx hb hr hlk hw hS e1 (by rw [e2]) dX6_next_11
  exact main _ _ hw hS ls hl

theorem cf_X6_stopsIn : cfV RX6 yX6_stopsIn cX6_stopsIn 4 (some .int) 1 := ⟨⟨k_832, k_833, k_7, k_834⟩, by decide +kernel⟩
def f_X6_stopsIn_L70 (p0 : Int32) (m : SM) (x2 : Int32) (s0 : Int32) : Option (Int32 × SM) :=
  bd (f_X6_bringBack m) fun r2 m3 => (if s0 = (nI 0) then some ((-5 : Int32), m3) else some (x2, m3))
def f_X6_stopsIn_L55 (p0 : Int32) (m : SM) (x2 : Int32) : Option (Int32 × SM) :=
  b1 (f_X6_asked m p0 (nI 4)) fun r2 => (if r2 = (nI 1) then f_X6_stopsIn_L70 p0 m x2 (nI 1) else f_X6_stopsIn_L70 p0 m x2 (nI 0))
def f_X6_stopsIn_L29 (p0 : Int32) : Nat → SM → Int32 → Option (Int32 × SM)
  | 0, _, _ => none
  | n + 1, m, x2 => b1 (f_X6_asked m p0 (nI 4)) fun r2 => (if r2 = (nI 0) then b1 (f_X6_unreadAll m) fun r5 => (if r5 ≤ (nI 0) then f_X6_stopsIn_L55 p0 m x2 else bd (f_X6_readNext m) fun r8 m9 => f_X6_stopsIn_L29 p0 n m9 (x2 + (nI 1))) else f_X6_stopsIn_L55 p0 m x2)
def f_X6_stopsIn (m : SM) (p0 : Int32) : Option (Int32 × SM) :=
  b1 (f_X6_isQuestion m p0) fun r2 => (if r2 = (nI 0) then some ((-1 : Int32), m) else b1 (f_X6_asked m p0 (nI 4)) fun r5 => (if r5 = (nI 1) then some ((-4 : Int32), m) else bd (f_X6_putAside m) fun r8 m9 => f_X6_stopsIn_L29 p0 FU m9 (nI 0)))
set_option maxHeartbeats 4000000 in
set_option maxRecDepth 100000 in
theorem c_X6_stopsIn {l : Launch} {D : va_G} {cy : Nat → ClassId} {ad : Nat → Nat → Nat} (hcv : CV ad) {M0 : MM} {m : SM} (hm : M0 9 = m) {p0 : Int32} {r : Int32} {x : SM} (h : f_X6_stopsIn m p0 = some (r, x)) : Met l yX6_stopsIn (.code yX6_stopsIn cX6_stopsIn 4 (some .int) :: TB) ({ frames := 9, cells := 0, slots := 0, locals := 203 } : Room) (PW D cy ad M0 [.ref (ad 9 0), .int p0]) (QI D cy ad r (gs M0 9 x)) 0 0 (AD ad) := by
  refine m_in (by decide +kernel) (Nat.le_of_ble_eq_true rfl) ?_
  intro p e s md args below meth c hC hw hS ls hl
  obtain ⟨hx, hb, hr, hml, hown, hts, hK, hlk⟩ := hC
  have hl : lv_has ls 4 [(0, .ref (ad 9 0)), (1, .int p0)] := hl
  rw [← gs_same hm] at hw
  have L70 : ∀ (m : SM) (x2 : Int32) (s0 : Int32), f_X6_stopsIn_L70 p0 m x2 s0 = some (r, x) → JL p l e ({ frames := 9, cells := 0, slots := 0, locals := 203 } : Room) s md args below meth c D cy ad (MQ below (QI D cy ad r (gs M0 9 x)) args s 0 0 (AD ad)) (gs M0 9 m) 4 [(0, .ref (ad 9 0)), (2, .int x2)] 70 [.int s0] := by
    intro m x2 s0 h H locs hw hS ls hl
    unfold f_X6_stopsIn_L70 at h
    refine lv_istore_n (lv' := [(3, .int s0), (0, .ref (ad 9 0)), (2, .int x2)]) hx hb dX6_stopsIn_70 rfl hl (by decide) rfl (fun ls hl => ?_)
    refine lv_aload_n hx hb dX6_stopsIn_71 rfl (lv_at hl 1 rfl) ?_
    obtain ⟨r2, m3, y1, h⟩ := t_bd h
    refine c_vv hx hb hml hown hts hK hw hS (fun _ h => h) (As := []) (rest := []) (c_X6_bringBack hcv (M0 := gs M0 9 m) (m := m) (hm := gs_at) y1) cf_X6_bringBack k_839 rfl rfl ⟨Nat.le_of_ble_eq_true rfl, Nat.le_of_ble_eq_true rfl⟩ (r_recv hK hw (v_md (by decide)) E_md rfl) rfl hl.1 rfl (Nat.le_of_ble_eq_true rfl) ⟨Nat.le_refl _, Nat.le_refl _⟩ dX6_stopsIn_72 (fun H locs hw hS => ?_)
    rw [gs_gs] at hw
    refine lv_iload_n hx hb dX6_stopsIn_75 rfl (lv_at hl 0 rfl) ?_
    refine lv_if_eq (tgt := 83) hx hb dX6_stopsIn_76 (by decide) (fun q4 => ?_) (fun q4 => ?_)
    · replace h := t_pos h q4
      refine lv_bipush (v := -5) hx hb dX6_stopsIn_83 (by decide) ?_
      have e1 := (t_ret h).1
      have e2 := (t_ret h).2
      exact e_i hx hb hr hlk hw hS e1 (by rw [e2]) dX6_stopsIn_85
    · replace h := t_neg h q4
      refine lv_iload_n hx hb dX6_stopsIn_79 rfl (lv_at hl 2 rfl) ?_
      refine lv_goto (tgt := 85) hx hb dX6_stopsIn_80 (by decide) ?_
      have e1 := (t_ret h).1
      have e2 := (t_ret h).2
      exact e_i hx hb hr hlk hw hS e1 (by rw [e2]) dX6_stopsIn_85
  have L55 : ∀ (m : SM) (x2 : Int32), f_X6_stopsIn_L55 p0 m x2 = some (r, x) → JL p l e ({ frames := 9, cells := 0, slots := 0, locals := 203 } : Room) s md args below meth c D cy ad (MQ below (QI D cy ad r (gs M0 9 x)) args s 0 0 (AD ad)) (gs M0 9 m) 4 [(0, .ref (ad 9 0)), (1, .int p0), (2, .int x2)] 55 [] := by
    intro m x2 h H locs hw hS ls hl
    unfold f_X6_stopsIn_L55 at h
    refine lv_aload_n hx hb dX6_stopsIn_55 rfl (lv_at hl 0 rfl) ?_
    refine lv_iload_n hx hb dX6_stopsIn_56 rfl (lv_at hl 1 rfl) ?_
    refine lv_iconst (v := nI 4) hx hb dX6_stopsIn_57 (by decide) ?_
    obtain ⟨r2, y1, h⟩ := t_b1 h
    refine c_vi hx hb hml hown hts hK hw hS (fun _ h => h) (As := [.int p0, .int (nI 4)]) (rest := []) (c_X6_asked hcv (M0 := gs M0 9 m) (m := m) (hm := gs_at) y1) cf_X6_asked k_674 rfl rfl ⟨Nat.le_of_ble_eq_true rfl, Nat.le_of_ble_eq_true rfl⟩ (r_recv hK hw (v_md (by decide)) E_md rfl) rfl hl.1 rfl (Nat.le_of_ble_eq_true rfl) ⟨Nat.le_refl _, Nat.le_refl _⟩ dX6_stopsIn_58 (fun H locs hw hS => ?_)
    refine lv_iconst (v := nI 1) hx hb dX6_stopsIn_61 (by decide) ?_
    refine lv_icmp_ne (tgt := 69) hx hb dX6_stopsIn_62 (by decide) (fun q3 => ?_) (fun q3 => ?_)
    · replace h := t_neg h q3
      refine lv_iconst (v := nI 0) hx hb dX6_stopsIn_69 (by decide) ?_
      exact L70 m x2 (nI 0) h H locs hw hS ls (lv_sub hl [0, 2] rfl)
    · replace h := t_pos h q3
      refine lv_iconst (v := nI 1) hx hb dX6_stopsIn_65 (by decide) ?_
      refine lv_goto (tgt := 70) hx hb dX6_stopsIn_66 (by decide) ?_
      exact L70 m x2 (nI 1) h H locs hw hS ls (lv_sub hl [0, 2] rfl)
  have L29 : ∀ (n : Nat), ∀ (m : SM) (x2 : Int32), f_X6_stopsIn_L29 p0 n m x2 = some (r, x) → JL p l e ({ frames := 9, cells := 0, slots := 0, locals := 203 } : Room) s md args below meth c D cy ad (MQ below (QI D cy ad r (gs M0 9 x)) args s 0 0 (AD ad)) (gs M0 9 m) 4 [(0, .ref (ad 9 0)), (1, .int p0), (2, .int x2)] 29 [] := by
    intro n
    induction n with
    | zero =>
      intro m x2 h
      cases h
    | succ n ih =>
      intro m x2 h H locs hw hS ls hl
      rw [f_X6_stopsIn_L29.eq_2] at h
      refine lv_aload_n hx hb dX6_stopsIn_29 rfl (lv_at hl 0 rfl) ?_
      refine lv_iload_n hx hb dX6_stopsIn_30 rfl (lv_at hl 1 rfl) ?_
      refine lv_iconst (v := nI 4) hx hb dX6_stopsIn_31 (by decide) ?_
      obtain ⟨r2, y1, h⟩ := t_b1 h
      refine c_vi hx hb hml hown hts hK hw hS (fun _ h => h) (As := [.int p0, .int (nI 4)]) (rest := []) (c_X6_asked hcv (M0 := gs M0 9 m) (m := m) (hm := gs_at) y1) cf_X6_asked k_674 rfl rfl ⟨Nat.le_of_ble_eq_true rfl, Nat.le_of_ble_eq_true rfl⟩ (r_recv hK hw (v_md (by decide)) E_md rfl) rfl hl.1 rfl (Nat.le_of_ble_eq_true rfl) ⟨Nat.le_refl _, Nat.le_refl _⟩ dX6_stopsIn_32 (fun H locs hw hS => ?_)
      refine lv_if_ne (tgt := 55) hx hb dX6_stopsIn_35 (by decide) (fun q3 => ?_) (fun q3 => ?_)
      · replace h := t_neg h q3
        exact L55 m x2 h H locs hw hS ls (lv_sub hl [0, 1, 2] rfl)
      · replace h := t_pos h q3
        refine lv_aload_n hx hb dX6_stopsIn_38 rfl (lv_at hl 0 rfl) ?_
        obtain ⟨r5, y4, h⟩ := t_b1 h
        refine c_vi hx hb hml hown hts hK hw hS (fun _ h => h) (As := []) (rest := []) (c_X6_unreadAll hcv (M0 := gs M0 9 m) (m := m) (hm := gs_at) y4) cf_X6_unreadAll k_763 rfl rfl ⟨Nat.le_of_ble_eq_true rfl, Nat.le_of_ble_eq_true rfl⟩ (r_recv hK hw (v_md (by decide)) E_md rfl) rfl hl.1 rfl (Nat.le_of_ble_eq_true rfl) ⟨Nat.le_refl _, Nat.le_refl _⟩ dX6_stopsIn_39 (fun H locs hw hS => ?_)
        refine lv_if_le (tgt := 55) hx hb dX6_stopsIn_42 (by decide) (fun q6 => ?_) (fun q6 => ?_)
        · replace h := t_pos h q6
          exact L55 m x2 h H locs hw hS ls (lv_sub hl [0, 1, 2] rfl)
        · replace h := t_neg h q6
          refine lv_aload_n hx hb dX6_stopsIn_45 rfl (lv_at hl 0 rfl) ?_
          obtain ⟨r8, m9, y7, h⟩ := t_bd h
          refine c_vv hx hb hml hown hts hK hw hS (fun _ h => h) (As := []) (rest := []) (c_X6_readNext hcv (M0 := gs M0 9 m) (m := m) (hm := gs_at) y7) cf_X6_readNext k_767 rfl rfl ⟨Nat.le_of_ble_eq_true rfl, Nat.le_of_ble_eq_true rfl⟩ (r_recv hK hw (v_md (by decide)) E_md rfl) rfl hl.1 rfl (Nat.le_of_ble_eq_true rfl) ⟨Nat.le_refl _, Nat.le_refl _⟩ dX6_stopsIn_46 (fun H locs hw hS => ?_)
          rw [gs_gs] at hw
          refine lv_iinc (v := (x2 + (nI 1))) (lv' := [(2, .int (x2 + (nI 1))), (0, .ref (ad 9 0)), (1, .int p0)]) hx hb dX6_stopsIn_49 hl (k := 2) rfl rfl (by decide) rfl (fun ls hl => ?_)
          refine lv_goto (tgt := 29) hx hb dX6_stopsIn_52 (by decide) ?_
          exact ih m9 (x2 + (nI 1)) h H locs hw hS ls (lv_sub hl [1, 2, 0] rfl)
  unfold f_X6_stopsIn at h
  have main : JL p l e ({ frames := 9, cells := 0, slots := 0, locals := 203 } : Room) s md args below meth c D cy ad (MQ below (QI D cy ad r (gs M0 9 x)) args s 0 0 (AD ad)) (gs M0 9 m) 4 [(0, .ref (ad 9 0)), (1, .int p0)] 0 [] := by
    intro H locs hw hS ls hl
    refine lv_aload_n hx hb dX6_stopsIn_0 rfl (lv_at hl 0 rfl) ?_
    refine lv_iload_n hx hb dX6_stopsIn_1 rfl (lv_at hl 1 rfl) ?_
    obtain ⟨r2, y1, h⟩ := t_b1 h
    refine c_vi hx hb hml hown hts hK hw hS (fun _ h => h) (As := [.int p0]) (rest := []) (c_X6_isQuestion hcv (M0 := gs M0 9 m) (m := m) (hm := gs_at) y1) cf_X6_isQuestion k_743 rfl rfl ⟨Nat.le_of_ble_eq_true rfl, Nat.le_of_ble_eq_true rfl⟩ (r_recv hK hw (v_md (by decide)) E_md rfl) rfl hl.1 rfl (Nat.le_of_ble_eq_true rfl) ⟨Nat.le_refl _, Nat.le_refl _⟩ dX6_stopsIn_2 (fun H locs hw hS => ?_)
    refine lv_if_ne (tgt := 10) hx hb dX6_stopsIn_5 (by decide) (fun q3 => ?_) (fun q3 => ?_)
    · replace h := t_neg h q3
      refine lv_aload_n hx hb dX6_stopsIn_10 rfl (lv_at hl 0 rfl) ?_
      refine lv_iload_n hx hb dX6_stopsIn_11 rfl (lv_at hl 1 rfl) ?_
      refine lv_iconst (v := nI 4) hx hb dX6_stopsIn_12 (by decide) ?_
      obtain ⟨r5, y4, h⟩ := t_b1 h
      refine c_vi hx hb hml hown hts hK hw hS (fun _ h => h) (As := [.int p0, .int (nI 4)]) (rest := []) (c_X6_asked hcv (M0 := gs M0 9 m) (m := m) (hm := gs_at) y4) cf_X6_asked k_674 rfl rfl ⟨Nat.le_of_ble_eq_true rfl, Nat.le_of_ble_eq_true rfl⟩ (r_recv hK hw (v_md (by decide)) E_md rfl) rfl hl.1 rfl (Nat.le_of_ble_eq_true rfl) ⟨Nat.le_refl _, Nat.le_refl _⟩ dX6_stopsIn_13 (fun H locs hw hS => ?_)
      refine lv_iconst (v := nI 1) hx hb dX6_stopsIn_16 (by decide) ?_
      refine lv_icmp_ne (tgt := 23) hx hb dX6_stopsIn_17 (by decide) (fun q6 => ?_) (fun q6 => ?_)
      · replace h := t_neg h q6
        refine lv_aload_n hx hb dX6_stopsIn_23 rfl (lv_at hl 0 rfl) ?_
        obtain ⟨r8, m9, y7, h⟩ := t_bd h
        refine c_vv hx hb hml hown hts hK hw hS (fun _ h => h) (As := []) (rest := []) (c_X6_putAside hcv (M0 := gs M0 9 m) (m := m) (hm := gs_at) y7) cf_X6_putAside k_835 rfl rfl ⟨Nat.le_of_ble_eq_true rfl, Nat.le_of_ble_eq_true rfl⟩ (r_recv hK hw (v_md (by decide)) E_md rfl) rfl hl.1 rfl (Nat.le_of_ble_eq_true rfl) ⟨Nat.le_refl _, Nat.le_refl _⟩ dX6_stopsIn_24 (fun H locs hw hS => ?_)
        rw [gs_gs] at hw
        refine lv_iconst (v := nI 0) hx hb dX6_stopsIn_27 (by decide) ?_
        refine lv_istore_n (lv' := [(2, .int (nI 0)), (0, .ref (ad 9 0)), (1, .int p0)]) hx hb dX6_stopsIn_28 rfl hl (by decide) rfl (fun ls hl => ?_)
        exact L29 FU m9 (nI 0) h H locs hw hS ls (lv_sub hl [1, 2, 0] rfl)
      · replace h := t_pos h q6
        refine lv_bipush (v := -4) hx hb dX6_stopsIn_20 (by decide) ?_
        have e1 := (t_ret h).1
        have e2 := (t_ret h).2
        exact e_i hx hb hr hlk hw hS e1 (by rw [e2]) dX6_stopsIn_22
    · replace h := t_pos h q3
      refine lv_iconst (v := -1) hx hb dX6_stopsIn_8 (by decide) ?_
      have e1 := (t_ret h).1
      have e2 := (t_ret h).2
      exact e_i hx hb hr hlk hw hS e1 (by rw [e2]) dX6_stopsIn_9
  exact main _ _ hw hS ls hl

theorem cf_X6_best : cfV RX6 yX6_best cX6_best 6 (some .int) 1 := ⟨⟨k_844, k_845, k_7, k_846⟩, by decide +kernel⟩
def f_X6_best_L80 (k35 : SM → Int32 → Int32 → Int32 → Option (Int32 × SM)) (p0 : Int32) (m : SM) (x2 : Int32) (x3 : Int32) (x4 : Int32) : Option (Int32 × SM) :=
  bd (f_X6_bringBack m) fun r2 m3 => k35 m3 x2 x3 (x4 + (nI 1))
def f_X6_best_L74 (k35 : SM → Int32 → Int32 → Int32 → Option (Int32 × SM)) (p0 : Int32) (m : SM) (x4 : Int32) (x5 : Int32) : Option (Int32 × SM) :=
  f_X6_best_L80 k35 p0 m x4 x5 x4
def f_X6_best_L35 (p0 : Int32) : Nat → SM → Int32 → Int32 → Int32 → Option (Int32 × SM)
  | 0, _, _, _, _ => none
  | n + 1, m, x2, x3, x4 => (if (nI 3) ≤ x4 then (if p0 = (nI 0) then some (x2, m) else some (x3, m)) else gd (nI 2) 220 (lt1 (up m 1 (nI 2).toNatClampNeg x4) fun m5 => bd (f_X6_goOn m5) fun r7 m8 => b1 (f_X6_openMany m8) fun r10 => (if r10 = (nI 0) then (if x2 = (-5 : Int32) then f_X6_best_L74 (f_X6_best_L35 p0 n) p0 m8 x4 r7 else (if x3 ≤ r7 then f_X6_best_L80 (f_X6_best_L35 p0 n) p0 m8 x2 x3 x4 else f_X6_best_L74 (f_X6_best_L35 p0 n) p0 m8 x4 r7)) else f_X6_best_L80 (f_X6_best_L35 p0 n) p0 m8 x2 x3 x4)))
def f_X6_best (m : SM) (p0 : Int32) : Option (Int32 × SM) :=
  b1 (f_X6_in p0 (nI 0) (nI 1)) fun r2 => (if r2 = (nI 0) then some ((-2 : Int32), m) else b1 (f_X6_openMany m) fun r5 => (if r5 = (nI 0) then some ((-4 : Int32), m) else bd (f_X6_putAside m) fun r8 m9 => f_X6_best_L35 p0 FU m9 (-5 : Int32) (-5 : Int32) (nI 0)))
set_option maxHeartbeats 4000000 in
set_option maxRecDepth 100000 in
theorem c_X6_best {l : Launch} {D : va_G} {cy : Nat → ClassId} {ad : Nat → Nat → Nat} (hcv : CV ad) {M0 : MM} {m : SM} (hm : M0 9 = m) {p0 : Int32} {r : Int32} {x : SM} (h : f_X6_best m p0 = some (r, x)) : Met l yX6_best (.code yX6_best cX6_best 6 (some .int) :: TB) ({ frames := 10, cells := 0, slots := 0, locals := 224 } : Room) (PW D cy ad M0 [.ref (ad 9 0), .int p0]) (QI D cy ad r (gs M0 9 x)) 0 0 (AD ad) := by
  refine m_in (by decide +kernel) (Nat.le_of_ble_eq_true rfl) ?_
  intro p e s md args below meth c hC hw hS ls hl
  obtain ⟨hx, hb, hr, hml, hown, hts, hK, hlk⟩ := hC
  have hl : lv_has ls 6 [(0, .ref (ad 9 0)), (1, .int p0)] := hl
  rw [← gs_same hm] at hw
  have L80 : ∀ (k35 : SM → Int32 → Int32 → Int32 → Option (Int32 × SM)) (hk35 : ∀ (m : SM) (x2 : Int32) (x3 : Int32) (x4 : Int32), k35 m x2 x3 x4 = some (r, x) → JL p l e ({ frames := 10, cells := 0, slots := 0, locals := 224 } : Room) s md args below meth c D cy ad (MQ below (QI D cy ad r (gs M0 9 x)) args s 0 0 (AD ad)) (gs M0 9 m) 6 [(0, .ref (ad 9 0)), (1, .int p0), (2, .int x2), (3, .int x3), (4, .int x4)] 35 []), ∀ (m : SM) (x2 : Int32) (x3 : Int32) (x4 : Int32), f_X6_best_L80 k35 p0 m x2 x3 x4 = some (r, x) → JL p l e ({ frames := 10, cells := 0, slots := 0, locals := 224 } : Room) s md args below meth c D cy ad (MQ below (QI D cy ad r (gs M0 9 x)) args s 0 0 (AD ad)) (gs M0 9 m) 6 [(0, .ref (ad 9 0)), (1, .int p0), (2, .int x2), (3, .int x3), (4, .int x4)] 80 [] := by
    intro k35 hk35 m x2 x3 x4 h H locs hw hS ls hl
    unfold f_X6_best_L80 at h
    refine lv_aload_n hx hb dX6_best_80 rfl (lv_at hl 0 rfl) ?_
    obtain ⟨r2, m3, y1, h⟩ := t_bd h
    refine c_vv hx hb hml hown hts hK hw hS (fun _ h => h) (As := []) (rest := []) (c_X6_bringBack hcv (M0 := gs M0 9 m) (m := m) (hm := gs_at) y1) cf_X6_bringBack k_839 rfl rfl ⟨Nat.le_of_ble_eq_true rfl, Nat.le_of_ble_eq_true rfl⟩ (r_recv hK hw (v_md (by decide)) E_md rfl) rfl hl.1 rfl (Nat.le_of_ble_eq_true rfl) ⟨Nat.le_refl _, Nat.le_refl _⟩ dX6_best_81 (fun H locs hw hS => ?_)
    rw [gs_gs] at hw
    refine lv_iinc (v := (x4 + (nI 1))) (lv' := [(4, .int (x4 + (nI 1))), (0, .ref (ad 9 0)), (1, .int p0), (2, .int x2), (3, .int x3)]) hx hb dX6_best_84 hl (k := 4) rfl rfl (by decide) rfl (fun ls hl => ?_)
    refine lv_goto (tgt := 35) hx hb dX6_best_87 (by decide) ?_
    exact hk35 m3 x2 x3 (x4 + (nI 1)) h H locs hw hS ls (lv_sub hl [1, 2, 3, 4, 0] rfl)
  have L74 : ∀ (k35 : SM → Int32 → Int32 → Int32 → Option (Int32 × SM)) (hk35 : ∀ (m : SM) (x2 : Int32) (x3 : Int32) (x4 : Int32), k35 m x2 x3 x4 = some (r, x) → JL p l e ({ frames := 10, cells := 0, slots := 0, locals := 224 } : Room) s md args below meth c D cy ad (MQ below (QI D cy ad r (gs M0 9 x)) args s 0 0 (AD ad)) (gs M0 9 m) 6 [(0, .ref (ad 9 0)), (1, .int p0), (2, .int x2), (3, .int x3), (4, .int x4)] 35 []), ∀ (m : SM) (x4 : Int32) (x5 : Int32), f_X6_best_L74 k35 p0 m x4 x5 = some (r, x) → JL p l e ({ frames := 10, cells := 0, slots := 0, locals := 224 } : Room) s md args below meth c D cy ad (MQ below (QI D cy ad r (gs M0 9 x)) args s 0 0 (AD ad)) (gs M0 9 m) 6 [(0, .ref (ad 9 0)), (1, .int p0), (4, .int x4), (5, .int x5)] 74 [] := by
    intro k35 hk35 m x4 x5 h H locs hw hS ls hl
    unfold f_X6_best_L74 at h
    refine lv_iload hx hb dX6_best_74 (lv_at hl 2 rfl) ?_
    refine lv_istore_n (lv' := [(2, .int x4), (0, .ref (ad 9 0)), (1, .int p0), (4, .int x4), (5, .int x5)]) hx hb dX6_best_76 rfl hl (by decide) rfl (fun ls hl => ?_)
    refine lv_iload hx hb dX6_best_77 (lv_at hl 4 rfl) ?_
    refine lv_istore_n (lv' := [(3, .int x5), (2, .int x4), (0, .ref (ad 9 0)), (1, .int p0), (4, .int x4), (5, .int x5)]) hx hb dX6_best_79 rfl hl (by decide) rfl (fun ls hl => ?_)
    exact L80 k35 hk35 m x4 x5 x4 h H locs hw hS ls (lv_sub hl [2, 3, 1, 0, 4] rfl)
  have L35 : ∀ (n : Nat), ∀ (m : SM) (x2 : Int32) (x3 : Int32) (x4 : Int32), f_X6_best_L35 p0 n m x2 x3 x4 = some (r, x) → JL p l e ({ frames := 10, cells := 0, slots := 0, locals := 224 } : Room) s md args below meth c D cy ad (MQ below (QI D cy ad r (gs M0 9 x)) args s 0 0 (AD ad)) (gs M0 9 m) 6 [(0, .ref (ad 9 0)), (1, .int p0), (2, .int x2), (3, .int x3), (4, .int x4)] 35 [] := by
    intro n
    induction n with
    | zero =>
      intro m x2 x3 x4 h
      cases h
    | succ n ih =>
      intro m x2 x3 x4 h H locs hw hS ls hl
      rw [f_X6_best_L35.eq_2] at h
      refine lv_iload hx hb dX6_best_35 (lv_at hl 4 rfl) ?_
      refine lv_iconst (v := nI 3) hx hb dX6_best_37 (by decide) ?_
      refine lv_icmp_ge (tgt := 90) hx hb dX6_best_38 (by decide) (fun q1 => ?_) (fun q1 => ?_)
      · replace h := t_pos h q1
        refine lv_iload_n hx hb dX6_best_90 rfl (lv_at hl 1 rfl) ?_
        refine lv_if_ne (tgt := 98) hx hb dX6_best_91 (by decide) (fun q2 => ?_) (fun q2 => ?_)
        · replace h := t_neg h q2
          refine lv_iload_n hx hb dX6_best_98 rfl (lv_at hl 3 rfl) ?_
          have e1 := (t_ret h).1
          have e2 := (t_ret h).2
          exact e_i hx hb hr hlk hw hS e1 (by rw [e2]) dX6_best_99
        · replace h := t_pos h q2
          refine lv_iload_n hx hb dX6_best_94 rfl (lv_at hl 2 rfl) ?_
          refine lv_goto (tgt := 99) hx hb dX6_best_95 (by decide) ?_
          have e1 := (t_ret h).1
          have e2 := (t_ret h).2
          exact e_i hx hb hr hlk hw hS e1 (by rw [e2]) dX6_best_99
      · replace h := t_neg h q1
        refine lv_aload_n hx hb dX6_best_41 rfl (lv_at hl 0 rfl) ?_
        refine r_get hx hb hts hown hK hw (v_md (by decide)) gs_atc E_md inX6 rfl 0 (by decide) k_544 rfl rfl dX6_best_42 ?_
        refine lv_iconst (v := nI 2) hx hb dX6_best_45 (by decide) ?_
        refine lv_iload hx hb dX6_best_46 (lv_at hl 4 rfl) ?_
        obtain ⟨q3, h⟩ := t_gd h
        obtain ⟨m5, e4, h⟩ := t_lt h
        refine r_iast hx hb hK hcv hw hS (v_md (by decide)) gs_atc (fun _ => E_m1) q3 (gs_up e4) dX6_best_48 (fun H locs hw hS => ?_)
        refine lv_aload_n hx hb dX6_best_49 rfl (lv_at hl 0 rfl) ?_
        obtain ⟨r7, m8, y6, h⟩ := t_bd h
        refine c_vi hx hb hml hown hts hK hw hS (fun _ h => h) (As := []) (rest := []) (c_X6_goOn hcv (M0 := gs M0 9 m5) (m := m5) (hm := gs_at) y6) cf_X6_goOn k_807 rfl rfl ⟨Nat.le_of_ble_eq_true rfl, Nat.le_of_ble_eq_true rfl⟩ (r_recv hK hw (v_md (by decide)) E_md rfl) rfl hl.1 rfl (Nat.le_of_ble_eq_true rfl) ⟨Nat.le_refl _, Nat.le_refl _⟩ dX6_best_50 (fun H locs hw hS => ?_)
        rw [gs_gs] at hw
        refine lv_istore (lv' := [(5, .int r7), (0, .ref (ad 9 0)), (1, .int p0), (2, .int x2), (3, .int x3), (4, .int x4)]) hx hb dX6_best_53 hl (by decide) rfl (fun ls hl => ?_)
        refine lv_aload_n hx hb dX6_best_55 rfl (lv_at hl 1 rfl) ?_
        obtain ⟨r10, y9, h⟩ := t_b1 h
        refine c_vi hx hb hml hown hts hK hw hS (fun _ h => h) (As := []) (rest := []) (c_X6_openMany hcv (M0 := gs M0 9 m8) (m := m8) (hm := gs_at) y9) cf_X6_openMany k_803 rfl rfl ⟨Nat.le_of_ble_eq_true rfl, Nat.le_of_ble_eq_true rfl⟩ (r_recv hK hw (v_md (by decide)) E_md rfl) rfl hl.1 rfl (Nat.le_of_ble_eq_true rfl) ⟨Nat.le_refl _, Nat.le_refl _⟩ dX6_best_56 (fun H locs hw hS => ?_)
        refine lv_if_ne (tgt := 80) hx hb dX6_best_59 (by decide) (fun q11 => ?_) (fun q11 => ?_)
        · replace h := t_neg h q11
          exact L80 (f_X6_best_L35 p0 n) ih m8 x2 x3 x4 h H locs hw hS ls (lv_sub hl [1, 2, 3, 4, 5] rfl)
        · replace h := t_pos h q11
          refine lv_iload_n hx hb dX6_best_62 rfl (lv_at hl 3 rfl) ?_
          refine lv_bipush (v := -5) hx hb dX6_best_63 (by decide) ?_
          refine lv_icmp_eq (tgt := 74) hx hb dX6_best_65 (by decide) (fun q12 => ?_) (fun q12 => ?_)
          · replace h := t_pos h q12
            exact L74 (f_X6_best_L35 p0 n) ih m8 x4 r7 h H locs hw hS ls (lv_sub hl [1, 2, 5, 0] rfl)
          · replace h := t_neg h q12
            refine lv_iload hx hb dX6_best_68 (lv_at hl 0 rfl) ?_
            refine lv_iload_n hx hb dX6_best_70 rfl (lv_at hl 4 rfl) ?_
            refine lv_icmp_ge (tgt := 80) hx hb dX6_best_71 (by decide) (fun q13 => ?_) (fun q13 => ?_)
            · replace h := t_pos h q13
              exact L80 (f_X6_best_L35 p0 n) ih m8 x2 x3 x4 h H locs hw hS ls (lv_sub hl [1, 2, 3, 4, 5] rfl)
            · replace h := t_neg h q13
              exact L74 (f_X6_best_L35 p0 n) ih m8 x4 r7 h H locs hw hS ls (lv_sub hl [1, 2, 5, 0] rfl)
  unfold f_X6_best at h
  have main : JL p l e ({ frames := 10, cells := 0, slots := 0, locals := 224 } : Room) s md args below meth c D cy ad (MQ below (QI D cy ad r (gs M0 9 x)) args s 0 0 (AD ad)) (gs M0 9 m) 6 [(0, .ref (ad 9 0)), (1, .int p0)] 0 [] := by
    intro H locs hw hS ls hl
    refine lv_iload_n hx hb dX6_best_0 rfl (lv_at hl 1 rfl) ?_
    refine lv_iconst (v := nI 0) hx hb dX6_best_1 (by decide) ?_
    refine lv_iconst (v := nI 1) hx hb dX6_best_2 (by decide) ?_
    obtain ⟨r2, y1, h⟩ := t_b1 h
    refine c_si hx hb hml hown hts hK hw hS (fun _ h => h) (As := [.int p0, .int (nI 0), .int (nI 1)]) (rest := []) (c_X6_in hcv (M0 := gs M0 9 m) y1) cf_X6_in k_663 rfl rfl ⟨Nat.le_of_ble_eq_true rfl, Nat.le_of_ble_eq_true rfl⟩ rfl hl.1 rfl (Nat.le_of_ble_eq_true rfl) ⟨Nat.le_refl _, Nat.le_refl _⟩ dX6_best_3 (fun H locs hw hS => ?_)
    refine lv_if_ne (tgt := 12) hx hb dX6_best_6 (by decide) (fun q3 => ?_) (fun q3 => ?_)
    · replace h := t_neg h q3
      refine lv_aload_n hx hb dX6_best_12 rfl (lv_at hl 0 rfl) ?_
      obtain ⟨r5, y4, h⟩ := t_b1 h
      refine c_vi hx hb hml hown hts hK hw hS (fun _ h => h) (As := []) (rest := []) (c_X6_openMany hcv (M0 := gs M0 9 m) (m := m) (hm := gs_at) y4) cf_X6_openMany k_803 rfl rfl ⟨Nat.le_of_ble_eq_true rfl, Nat.le_of_ble_eq_true rfl⟩ (r_recv hK hw (v_md (by decide)) E_md rfl) rfl hl.1 rfl (Nat.le_of_ble_eq_true rfl) ⟨Nat.le_refl _, Nat.le_refl _⟩ dX6_best_13 (fun H locs hw hS => ?_)
      refine lv_if_ne (tgt := 22) hx hb dX6_best_16 (by decide) (fun q6 => ?_) (fun q6 => ?_)
      · replace h := t_neg h q6
        refine lv_bipush (v := -5) hx hb dX6_best_22 (by decide) ?_
        refine lv_istore_n (lv' := [(2, .int (-5 : Int32)), (0, .ref (ad 9 0)), (1, .int p0)]) hx hb dX6_best_24 rfl hl (by decide) rfl (fun ls hl => ?_)
        refine lv_bipush (v := -5) hx hb dX6_best_25 (by decide) ?_
        refine lv_istore_n (lv' := [(3, .int (-5 : Int32)), (2, .int (-5 : Int32)), (0, .ref (ad 9 0)), (1, .int p0)]) hx hb dX6_best_27 rfl hl (by decide) rfl (fun ls hl => ?_)
        refine lv_aload_n hx hb dX6_best_28 rfl (lv_at hl 2 rfl) ?_
        obtain ⟨r8, m9, y7, h⟩ := t_bd h
        refine c_vv hx hb hml hown hts hK hw hS (fun _ h => h) (As := []) (rest := []) (c_X6_putAside hcv (M0 := gs M0 9 m) (m := m) (hm := gs_at) y7) cf_X6_putAside k_835 rfl rfl ⟨Nat.le_of_ble_eq_true rfl, Nat.le_of_ble_eq_true rfl⟩ (r_recv hK hw (v_md (by decide)) E_md rfl) rfl hl.1 rfl (Nat.le_of_ble_eq_true rfl) ⟨Nat.le_refl _, Nat.le_refl _⟩ dX6_best_29 (fun H locs hw hS => ?_)
        rw [gs_gs] at hw
        refine lv_iconst (v := nI 0) hx hb dX6_best_32 (by decide) ?_
        refine lv_istore (lv' := [(4, .int (nI 0)), (3, .int (-5 : Int32)), (2, .int (-5 : Int32)), (0, .ref (ad 9 0)), (1, .int p0)]) hx hb dX6_best_33 hl (by decide) rfl (fun ls hl => ?_)
        exact L35 FU m9 (-5 : Int32) (-5 : Int32) (nI 0) h H locs hw hS ls (lv_sub hl [3, 4, 2, 1, 0] rfl)
      · replace h := t_pos h q6
        refine lv_bipush (v := -4) hx hb dX6_best_19 (by decide) ?_
        have e1 := (t_ret h).1
        have e2 := (t_ret h).2
        exact e_i hx hb hr hlk hw hS e1 (by rw [e2]) dX6_best_21
    · replace h := t_pos h q3
      refine lv_bipush (v := -2) hx hb dX6_best_9 (by decide) ?_
      have e1 := (t_ret h).1
      have e2 := (t_ret h).2
      exact e_i hx hb hr hlk hw hS e1 (by rw [e2]) dX6_best_11
  exact main _ _ hw hS ls hl

theorem cf_X6_count : cfV RX6 yX6_count cX6_count 2 (some .int) 1 := ⟨⟨k_848, k_849, k_7, k_850⟩, by decide +kernel⟩
def f_X6_count (m : SM) (p0 : Int32) : Option (Int32) :=
  (if p0 = (nI 0) then gd (nI 0) 220 (some (m 1 (nI 0).toNatClampNeg)) else (if p0 = (nI 1) then gd (nI 1) 220 (some (m 1 (nI 1).toNatClampNeg)) else (if p0 = (nI 2) then b1 (f_X6_openMany m) fun r17 => some r17 else (if p0 = (nI 3) then gd (nI 2) 220 (some (m 1 (nI 2).toNatClampNeg)) else (if p0 = (nI 4) then b1 (f_X6_allOf m (nI 3)) fun r14 => some r14 else (if p0 = (nI 5) then b1 (f_X6_allOf m (nI 4)) fun r12 => some r12 else (if p0 = (nI 6) then gd (nI 3) 220 (some (m 1 (nI 3).toNatClampNeg)) else (if p0 = (nI 7) then some (m 0 3) else (if p0 = (nI 8) then some (m 0 7) else (some (-2 : Int32)))))))))))
set_option maxHeartbeats 4000000 in
set_option maxRecDepth 100000 in
theorem c_X6_count {l : Launch} {D : va_G} {cy : Nat → ClassId} {ad : Nat → Nat → Nat} (hcv : CV ad) {M0 : MM} {m : SM} (hm : M0 9 = m) {p0 : Int32} {r : Int32} (h : f_X6_count m p0 = some r) : Met l yX6_count (.code yX6_count cX6_count 2 (some .int) :: TB) ({ frames := 2, cells := 0, slots := 0, locals := 45 } : Room) (PW D cy ad M0 [.ref (ad 9 0), .int p0]) (QI D cy ad r M0) 0 0 (AD ad) := by
  refine m_in (by decide +kernel) (Nat.le_of_ble_eq_true rfl) ?_
  intro p e s md args below meth c hC hw hS ls hl
  obtain ⟨hx, hb, hr, hml, hown, hts, hK, hlk⟩ := hC
  have hl : lv_has ls 2 [(0, .ref (ad 9 0)), (1, .int p0)] := hl
  rw [← gs_same hm] at hw
  unfold f_X6_count at h
  have main : JL p l e ({ frames := 2, cells := 0, slots := 0, locals := 45 } : Room) s md args below meth c D cy ad (MQ below (QI D cy ad r M0) args s 0 0 (AD ad)) (gs M0 9 m) 2 [(0, .ref (ad 9 0)), (1, .int p0)] 0 [] := by
    intro H locs hw hS ls hl
    refine lv_iload_n hx hb dX6_count_0 rfl (lv_at hl 1 rfl) ?_
    by_cases q1 : p0 = (nI 0)
    · replace h := t_pos h q1
      refine lv_tableIn (off := 51) (tgt := 52) hx hb dX6_count_1 (by rw [q1]; decide) (by rw [q1]; decide) (by rw [q1]; rfl) (by decide) ?_
      refine lv_aload_n hx hb dX6_count_52 rfl (lv_at hl 0 rfl) ?_
      refine r_get hx hb hts hown hK hw (v_md (by decide)) gs_atc E_md inX6 rfl 0 (by decide) k_544 rfl rfl dX6_count_53 ?_
      refine lv_iconst (v := nI 0) hx hb dX6_count_56 (by decide) ?_
      obtain ⟨q19, h⟩ := t_gd h
      refine r_iald hx hb hK hw (v_md (by decide)) gs_atc E_m1 q19 dX6_count_57 ?_
      have e1 := Option.some.inj h
      exact e_i hx hb hr hlk hw hS e1 (gs_same hm) dX6_count_58
    · replace h := t_neg h q1
      by_cases q2 : p0 = (nI 1)
      · replace h := t_pos h q2
        refine lv_tableIn (off := 58) (tgt := 59) hx hb dX6_count_1 (by rw [q2]; decide) (by rw [q2]; decide) (by rw [q2]; rfl) (by decide) ?_
        refine lv_aload_n hx hb dX6_count_59 rfl (lv_at hl 0 rfl) ?_
        refine r_get hx hb hts hown hK hw (v_md (by decide)) gs_atc E_md inX6 rfl 0 (by decide) k_544 rfl rfl dX6_count_60 ?_
        refine lv_iconst (v := nI 1) hx hb dX6_count_63 (by decide) ?_
        obtain ⟨q18, h⟩ := t_gd h
        refine r_iald hx hb hK hw (v_md (by decide)) gs_atc E_m1 q18 dX6_count_64 ?_
        have e1 := Option.some.inj h
        exact e_i hx hb hr hlk hw hS e1 (gs_same hm) dX6_count_65
      · replace h := t_neg h q2
        by_cases q3 : p0 = (nI 2)
        · replace h := t_pos h q3
          refine lv_tableIn (off := 65) (tgt := 66) hx hb dX6_count_1 (by rw [q3]; decide) (by rw [q3]; decide) (by rw [q3]; rfl) (by decide) ?_
          refine lv_aload_n hx hb dX6_count_66 rfl (lv_at hl 0 rfl) ?_
          obtain ⟨r17, y16, h⟩ := t_b1 h
          refine c_vi hx hb hml hown hts hK hw hS (fun _ h => h) (As := []) (rest := []) (c_X6_openMany hcv (M0 := gs M0 9 m) (m := m) (hm := gs_at) y16) cf_X6_openMany k_803 rfl rfl ⟨Nat.le_of_ble_eq_true rfl, Nat.le_of_ble_eq_true rfl⟩ (r_recv hK hw (v_md (by decide)) E_md rfl) rfl hl.1 rfl (Nat.le_of_ble_eq_true rfl) ⟨Nat.le_refl _, Nat.le_refl _⟩ dX6_count_67 (fun H locs hw hS => ?_)
          have e1 := Option.some.inj h
          exact e_i hx hb hr hlk hw hS e1 (gs_same hm) dX6_count_70
        · replace h := t_neg h q3
          by_cases q4 : p0 = (nI 3)
          · replace h := t_pos h q4
            refine lv_tableIn (off := 70) (tgt := 71) hx hb dX6_count_1 (by rw [q4]; decide) (by rw [q4]; decide) (by rw [q4]; rfl) (by decide) ?_
            refine lv_aload_n hx hb dX6_count_71 rfl (lv_at hl 0 rfl) ?_
            refine r_get hx hb hts hown hK hw (v_md (by decide)) gs_atc E_md inX6 rfl 0 (by decide) k_544 rfl rfl dX6_count_72 ?_
            refine lv_iconst (v := nI 2) hx hb dX6_count_75 (by decide) ?_
            obtain ⟨q15, h⟩ := t_gd h
            refine r_iald hx hb hK hw (v_md (by decide)) gs_atc E_m1 q15 dX6_count_76 ?_
            have e1 := Option.some.inj h
            exact e_i hx hb hr hlk hw hS e1 (gs_same hm) dX6_count_77
          · replace h := t_neg h q4
            by_cases q5 : p0 = (nI 4)
            · replace h := t_pos h q5
              refine lv_tableIn (off := 77) (tgt := 78) hx hb dX6_count_1 (by rw [q5]; decide) (by rw [q5]; decide) (by rw [q5]; rfl) (by decide) ?_
              refine lv_aload_n hx hb dX6_count_78 rfl (lv_at hl 0 rfl) ?_
              refine lv_iconst (v := nI 3) hx hb dX6_count_79 (by decide) ?_
              obtain ⟨r14, y13, h⟩ := t_b1 h
              refine c_vi hx hb hml hown hts hK hw hS (fun _ h => h) (As := [.int (nI 3)]) (rest := []) (c_X6_allOf hcv (M0 := gs M0 9 m) (m := m) (hm := gs_at) y13) cf_X6_allOf k_607 rfl rfl ⟨Nat.le_of_ble_eq_true rfl, Nat.le_of_ble_eq_true rfl⟩ (r_recv hK hw (v_md (by decide)) E_md rfl) rfl hl.1 rfl (Nat.le_of_ble_eq_true rfl) ⟨Nat.le_refl _, Nat.le_refl _⟩ dX6_count_80 (fun H locs hw hS => ?_)
              have e1 := Option.some.inj h
              exact e_i hx hb hr hlk hw hS e1 (gs_same hm) dX6_count_83
            · replace h := t_neg h q5
              by_cases q6 : p0 = (nI 5)
              · replace h := t_pos h q6
                refine lv_tableIn (off := 83) (tgt := 84) hx hb dX6_count_1 (by rw [q6]; decide) (by rw [q6]; decide) (by rw [q6]; rfl) (by decide) ?_
                refine lv_aload_n hx hb dX6_count_84 rfl (lv_at hl 0 rfl) ?_
                refine lv_iconst (v := nI 4) hx hb dX6_count_85 (by decide) ?_
                obtain ⟨r12, y11, h⟩ := t_b1 h
                refine c_vi hx hb hml hown hts hK hw hS (fun _ h => h) (As := [.int (nI 4)]) (rest := []) (c_X6_allOf hcv (M0 := gs M0 9 m) (m := m) (hm := gs_at) y11) cf_X6_allOf k_607 rfl rfl ⟨Nat.le_of_ble_eq_true rfl, Nat.le_of_ble_eq_true rfl⟩ (r_recv hK hw (v_md (by decide)) E_md rfl) rfl hl.1 rfl (Nat.le_of_ble_eq_true rfl) ⟨Nat.le_refl _, Nat.le_refl _⟩ dX6_count_86 (fun H locs hw hS => ?_)
                have e1 := Option.some.inj h
                exact e_i hx hb hr hlk hw hS e1 (gs_same hm) dX6_count_89
              · replace h := t_neg h q6
                by_cases q7 : p0 = (nI 6)
                · replace h := t_pos h q7
                  refine lv_tableIn (off := 89) (tgt := 90) hx hb dX6_count_1 (by rw [q7]; decide) (by rw [q7]; decide) (by rw [q7]; rfl) (by decide) ?_
                  refine lv_aload_n hx hb dX6_count_90 rfl (lv_at hl 0 rfl) ?_
                  refine r_get hx hb hts hown hK hw (v_md (by decide)) gs_atc E_md inX6 rfl 0 (by decide) k_544 rfl rfl dX6_count_91 ?_
                  refine lv_iconst (v := nI 3) hx hb dX6_count_94 (by decide) ?_
                  obtain ⟨q10, h⟩ := t_gd h
                  refine r_iald hx hb hK hw (v_md (by decide)) gs_atc E_m1 q10 dX6_count_95 ?_
                  have e1 := Option.some.inj h
                  exact e_i hx hb hr hlk hw hS e1 (gs_same hm) dX6_count_96
                · replace h := t_neg h q7
                  by_cases q8 : p0 = (nI 7)
                  · replace h := t_pos h q8
                    refine lv_tableIn (off := 96) (tgt := 97) hx hb dX6_count_1 (by rw [q8]; decide) (by rw [q8]; decide) (by rw [q8]; rfl) (by decide) ?_
                    refine lv_aload_n hx hb dX6_count_97 rfl (lv_at hl 0 rfl) ?_
                    refine r_get hx hb hts hown hK hw (v_md (by decide)) gs_atc E_md inX6 rfl 3 (by decide) k_547 rfl rfl dX6_count_98 ?_
                    have e1 := Option.some.inj h
                    exact e_i hx hb hr hlk hw hS e1 (gs_same hm) dX6_count_101
                  · replace h := t_neg h q8
                    by_cases q9 : p0 = (nI 8)
                    · replace h := t_pos h q9
                      refine lv_tableIn (off := 101) (tgt := 102) hx hb dX6_count_1 (by rw [q9]; decide) (by rw [q9]; decide) (by rw [q9]; rfl) (by decide) ?_
                      refine lv_aload_n hx hb dX6_count_102 rfl (lv_at hl 0 rfl) ?_
                      refine r_get hx hb hts hown hK hw (v_md (by decide)) gs_atc E_md inX6 rfl 7 (by decide) k_551 rfl rfl dX6_count_103 ?_
                      have e1 := Option.some.inj h
                      exact e_i hx hb hr hlk hw hS e1 (gs_same hm) dX6_count_106
                    · replace h := t_neg h q9
                      refine lv_tableOut (tgt := 107) hx hb dX6_count_1 (tab_out (lo := 0) (n := 9) (by decide) (lt_s (lt_s (lt_s (lt_s (lt_s (lt_s (lt_s (lt_s (lt_s lt_0 q1) q2) q3) q4) q5) q6) q7) q8) q9)) (by decide) ?_
                      refine lv_bipush (v := -2) hx hb dX6_count_107 (by decide) ?_
                      have e1 := Option.some.inj h
                      exact e_i hx hb hr hlk hw hS e1 (gs_same hm) dX6_count_109
  exact main _ _ hw hS ls hl

