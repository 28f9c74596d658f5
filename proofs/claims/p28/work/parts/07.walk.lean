theorem cf_X0_copyFrom : cfV RX0 yX0_copyFrom cX0_copyFrom 2 none 1 := ⟨⟨k_240, k_241, k_4, k_242⟩, by decide +kernel⟩
def f_X0_copyFrom (m : SM) (mz : SM) (i : Nat) (i2 : Nat) : Option (Int32 × SM) :=
  lt1 (sc m (11 + i) (va_cpy (mz (11 + i2)) (m (11 + i)) 0 0 16)) fun m2 => lt1 (up m2 (3 + i) 1 (mz (3 + i2) 1)) fun m4 => lt1 (up m4 (3 + i) 2 (mz (3 + i2) 2)) fun m6 => lt1 (up m6 (3 + i) 3 (mz (3 + i2) 3)) fun m8 => lt1 (up m8 (3 + i) 4 (mz (3 + i2) 4)) fun m10 => lt1 (up m10 (3 + i) 5 (mz (3 + i2) 5)) fun m12 => lt1 (up m12 (3 + i) 6 (mz (3 + i2) 6)) fun m14 => lt1 (up m14 (3 + i) 7 (mz (3 + i2) 7)) fun m16 => lt1 (up m16 (3 + i) 8 (mz (3 + i2) 8)) fun m18 => some (0, m18)
set_option maxHeartbeats 4000000 in
set_option maxRecDepth 100000 in
theorem c_X0_copyFrom {l : Launch} {D : va_G} {cy : Nat → ClassId} {ad : Nat → Nat → Nat} (hcv : CV ad) {g : Nat} (hg : g < 7) {g2 : Nat} (hg2 : g2 < 7) {i : Nat} (hi : i < 8) {i2 : Nat} (hi2 : i2 < 8) {M0 : MM} {m : SM} (hm : M0 g = m) (hne : g2 ≠ g) {mz : SM} (hm2 : M0 g2 = mz) {r : Int32} {x : SM} (h : f_X0_copyFrom m mz i i2 = some (r, x)) : Met l yX0_copyFrom (.code yX0_copyFrom cX0_copyFrom 2 none :: TB) ({ frames := 1, cells := 0, slots := 0, locals := 60 } : Room) (PW D cy ad M0 [.ref (ad g (3 + i)), .ref (ad g2 (3 + i2))]) (QV D cy ad (gs M0 g x)) 0 0 (AD ad) := by
  refine m_in (by decide +kernel) (Nat.le_of_ble_eq_true rfl) ?_
  intro p e s md args below meth c hC hw hS ls hl
  obtain ⟨hx, hb, hr, hml, hown, hts, hK, hlk⟩ := hC
  have hl : lv_has ls 2 [(0, .ref (ad g (3 + i))), (1, .ref (ad g2 (3 + i2)))] := hl
  rw [← gs_same hm] at hw
  unfold f_X0_copyFrom at h
  have main : JL p l e ({ frames := 1, cells := 0, slots := 0, locals := 60 } : Room) s md args below meth c D cy ad (MQ below (QV D cy ad (gs M0 g x)) args s 0 0 (AD ad)) (gs M0 g m) 2 [(0, .ref (ad g (3 + i))), (1, .ref (ad g2 (3 + i2)))] 0 [] := by
    intro H locs hw hS ls hl
    refine lv_aload_n hx hb dX0_copyFrom_0 rfl (lv_at hl 1 rfl) ?_
    refine r_get hx hb hts hown hK hw (v_bk hg2 hi2) (gs_nec hne hm2) (E_bk hg2 hi2) inX0 rfl 0 (by decide) k_72 rfl rfl dX0_copyFrom_1 ?_
    refine lv_iconst (v := nI 0) hx hb dX0_copyFrom_4 (by decide) ?_
    refine lv_aload_n hx hb dX0_copyFrom_5 rfl (lv_at hl 0 rfl) ?_
    refine r_get hx hb hts hown hK hw (v_bk hg hi) gs_atc (E_bk hg hi) inX0 rfl 0 (by decide) k_72 rfl rfl dX0_copyFrom_6 ?_
    refine lv_iconst (v := nI 0) hx hb dX0_copyFrom_9 (by decide) ?_
    refine lv_bipush (v := nI 16) hx hb dX0_copyFrom_10 (by decide) ?_
    obtain ⟨m2, e1, h⟩ := t_lt h
    refine r_copy hx hb hts (hml.trans hl.1.symm) hown k_243 k_245 k_244 k_7 hK hcv hw hS (v_va hg hi) gs_atc (fun _ => (E_va hg hi)) (v_va hg2 hi2) (gs_nec hne hm2) (fun _ => (E_va hg2 hi2)) (by decide) (by decide) (by decide) (by decide) (by decide) (Nat.le_of_ble_eq_true rfl) (by decide) (gs_sc e1) dX0_copyFrom_12 (fun H locs hw hS => ?_)
    refine lv_aload_n hx hb dX0_copyFrom_15 rfl (lv_at hl 0 rfl) ?_
    refine lv_aload_n hx hb dX0_copyFrom_16 rfl (lv_at hl 1 rfl) ?_
    refine r_get hx hb hts hown hK hw (v_bk hg2 hi2) (gs_nec hne hm2) (E_bk hg2 hi2) inX0 rfl 1 (by decide) k_74 rfl rfl dX0_copyFrom_17 ?_
    obtain ⟨m4, e3, h⟩ := t_lt h
    refine r_put hx hb hts hown hK hcv hw hS (v_bk hg hi) gs_atc (E_bk hg hi) inX0 rfl tyX0 tyX0_ok nmX0 1 (by decide) k_74 rfl rfl rfl rfl (Nat.le_of_ble_eq_true rfl) (E_bk hg hi) (gs_up e3) dX0_copyFrom_20 (fun H locs hw hS => ?_)
    refine lv_aload_n hx hb dX0_copyFrom_23 rfl (lv_at hl 0 rfl) ?_
    refine lv_aload_n hx hb dX0_copyFrom_24 rfl (lv_at hl 1 rfl) ?_
    refine r_get hx hb hts hown hK hw (v_bk hg2 hi2) (gs_nec hne hm2) (E_bk hg2 hi2) inX0 rfl 2 (by decide) k_77 rfl rfl dX0_copyFrom_25 ?_
    obtain ⟨m6, e5, h⟩ := t_lt h
    refine r_put hx hb hts hown hK hcv hw hS (v_bk hg hi) gs_atc (E_bk hg hi) inX0 rfl tyX0 tyX0_ok nmX0 2 (by decide) k_77 rfl rfl rfl rfl (Nat.le_of_ble_eq_true rfl) (E_bk hg hi) (gs_up e5) dX0_copyFrom_28 (fun H locs hw hS => ?_)
    refine lv_aload_n hx hb dX0_copyFrom_31 rfl (lv_at hl 0 rfl) ?_
    refine lv_aload_n hx hb dX0_copyFrom_32 rfl (lv_at hl 1 rfl) ?_
    refine r_get hx hb hts hown hK hw (v_bk hg2 hi2) (gs_nec hne hm2) (E_bk hg2 hi2) inX0 rfl 3 (by decide) k_81 rfl rfl dX0_copyFrom_33 ?_
    obtain ⟨m8, e7, h⟩ := t_lt h
    refine r_put hx hb hts hown hK hcv hw hS (v_bk hg hi) gs_atc (E_bk hg hi) inX0 rfl tyX0 tyX0_ok nmX0 3 (by decide) k_81 rfl rfl rfl rfl (Nat.le_of_ble_eq_true rfl) (E_bk hg hi) (gs_up e7) dX0_copyFrom_36 (fun H locs hw hS => ?_)
    refine lv_aload_n hx hb dX0_copyFrom_39 rfl (lv_at hl 0 rfl) ?_
    refine lv_aload_n hx hb dX0_copyFrom_40 rfl (lv_at hl 1 rfl) ?_
    refine r_get hx hb hts hown hK hw (v_bk hg2 hi2) (gs_nec hne hm2) (E_bk hg2 hi2) inX0 rfl 4 (by decide) k_85 rfl rfl dX0_copyFrom_41 ?_
    obtain ⟨m10, e9, h⟩ := t_lt h
    refine r_put hx hb hts hown hK hcv hw hS (v_bk hg hi) gs_atc (E_bk hg hi) inX0 rfl tyX0 tyX0_ok nmX0 4 (by decide) k_85 rfl rfl rfl rfl (Nat.le_of_ble_eq_true rfl) (E_bk hg hi) (gs_up e9) dX0_copyFrom_44 (fun H locs hw hS => ?_)
    refine lv_aload_n hx hb dX0_copyFrom_47 rfl (lv_at hl 0 rfl) ?_
    refine lv_aload_n hx hb dX0_copyFrom_48 rfl (lv_at hl 1 rfl) ?_
    refine r_get hx hb hts hown hK hw (v_bk hg2 hi2) (gs_nec hne hm2) (E_bk hg2 hi2) inX0 rfl 5 (by decide) k_88 rfl rfl dX0_copyFrom_49 ?_
    obtain ⟨m12, e11, h⟩ := t_lt h
    refine r_put hx hb hts hown hK hcv hw hS (v_bk hg hi) gs_atc (E_bk hg hi) inX0 rfl tyX0 tyX0_ok nmX0 5 (by decide) k_88 rfl rfl rfl rfl (Nat.le_of_ble_eq_true rfl) (E_bk hg hi) (gs_up e11) dX0_copyFrom_52 (fun H locs hw hS => ?_)
    refine lv_aload_n hx hb dX0_copyFrom_55 rfl (lv_at hl 0 rfl) ?_
    refine lv_aload_n hx hb dX0_copyFrom_56 rfl (lv_at hl 1 rfl) ?_
    refine r_get hx hb hts hown hK hw (v_bk hg2 hi2) (gs_nec hne hm2) (E_bk hg2 hi2) inX0 rfl 6 (by decide) k_91 rfl rfl dX0_copyFrom_57 ?_
    obtain ⟨m14, e13, h⟩ := t_lt h
    refine r_put hx hb hts hown hK hcv hw hS (v_bk hg hi) gs_atc (E_bk hg hi) inX0 rfl tyX0 tyX0_ok nmX0 6 (by decide) k_91 rfl rfl rfl rfl (Nat.le_of_ble_eq_true rfl) (E_bk hg hi) (gs_up e13) dX0_copyFrom_60 (fun H locs hw hS => ?_)
    refine lv_aload_n hx hb dX0_copyFrom_63 rfl (lv_at hl 0 rfl) ?_
    refine lv_aload_n hx hb dX0_copyFrom_64 rfl (lv_at hl 1 rfl) ?_
    refine r_get hx hb hts hown hK hw (v_bk hg2 hi2) (gs_nec hne hm2) (E_bk hg2 hi2) inX0 rfl 7 (by decide) k_94 rfl rfl dX0_copyFrom_65 ?_
    obtain ⟨m16, e15, h⟩ := t_lt h
    refine r_put hx hb hts hown hK hcv hw hS (v_bk hg hi) gs_atc (E_bk hg hi) inX0 rfl tyX0 tyX0_ok nmX0 7 (by decide) k_94 rfl rfl rfl rfl (Nat.le_of_ble_eq_true rfl) (E_bk hg hi) (gs_up e15) dX0_copyFrom_68 (fun H locs hw hS => ?_)
    refine lv_aload_n hx hb dX0_copyFrom_71 rfl (lv_at hl 0 rfl) ?_
    refine lv_aload_n hx hb dX0_copyFrom_72 rfl (lv_at hl 1 rfl) ?_
    refine r_get hx hb hts hown hK hw (v_bk hg2 hi2) (gs_nec hne hm2) (E_bk hg2 hi2) inX0 rfl 8 (by decide) k_95 rfl rfl dX0_copyFrom_73 ?_
    obtain ⟨m18, e17, h⟩ := t_lt h
    refine r_put hx hb hts hown hK hcv hw hS (v_bk hg hi) gs_atc (E_bk hg hi) inX0 rfl tyX0 tyX0_ok nmX0 8 (by decide) k_95 rfl rfl rfl rfl (Nat.le_of_ble_eq_true rfl) (E_bk hg hi) (gs_up e17) dX0_copyFrom_76 (fun H locs hw hS => ?_)
    have e1 := (t_ret h).1
    have e2 := (t_ret h).2
    exact e_v hx hb hr hlk hw hS (by rw [e2]) dX0_copyFrom_79
  exact main _ _ hw hS ls hl

theorem cf_X0_readRow : cfV RX0 yX0_readRow cX0_readRow 2 (some .int) 0 := ⟨⟨k_329, k_330, k_4, k_331⟩, by decide +kernel⟩
def f_X0_readRow (m : SM) (i : Nat) : Option (Int32 × SM) :=
  (if (m (3 + i) 5) < (m (3 + i) 4) then gd (m (3 + i) 5) 16 (lt1 (up m (3 + i) 5 ((m (3 + i) 5) + (nI 1))) fun m4 => lt1 (up m4 (3 + i) 6 ((m4 (3 + i) 6) + (m (11 + i) (m (3 + i) 5).toNatClampNeg))) fun m6 => lt1 (up m6 (3 + i) 7 (mn (m6 (3 + i) 7) (m (11 + i) (m (3 + i) 5).toNatClampNeg))) fun m8 => lt1 (up m8 (3 + i) 8 (mx (m8 (3 + i) 8) (m (11 + i) (m (3 + i) 5).toNatClampNeg))) fun m10 => some ((m (11 + i) (m (3 + i) 5).toNatClampNeg), m10)) else some ((-5 : Int32), m))
set_option maxHeartbeats 4000000 in
set_option maxRecDepth 100000 in
theorem c_X0_readRow {l : Launch} {D : va_G} {cy : Nat → ClassId} {ad : Nat → Nat → Nat} (hcv : CV ad) {g : Nat} (hg : g < 7) {i : Nat} (hi : i < 8) {M0 : MM} {m : SM} (hm : M0 g = m) {r : Int32} {x : SM} (h : f_X0_readRow m i = some (r, x)) : Met l yX0_readRow (.code yX0_readRow cX0_readRow 2 (some .int) :: TB) ({ frames := 1, cells := 0, slots := 0, locals := 21 } : Room) (PW D cy ad M0 [.ref (ad g (3 + i))]) (QI D cy ad r (gs M0 g x)) 0 0 (AD ad) := by
  refine m_in (by decide +kernel) (Nat.le_of_ble_eq_true rfl) ?_
  intro p e s md args below meth c hC hw hS ls hl
  obtain ⟨hx, hb, hr, hml, hown, hts, hK, hlk⟩ := hC
  have hl : lv_has ls 2 [(0, .ref (ad g (3 + i)))] := hl
  rw [← gs_same hm] at hw
  unfold f_X0_readRow at h
  have main : JL p l e ({ frames := 1, cells := 0, slots := 0, locals := 21 } : Room) s md args below meth c D cy ad (MQ below (QI D cy ad r (gs M0 g x)) args s 0 0 (AD ad)) (gs M0 g m) 2 [(0, .ref (ad g (3 + i)))] 0 [] := by
    intro H locs hw hS ls hl
    refine lv_aload_n hx hb dX0_readRow_0 rfl (lv_at hl 0 rfl) ?_
    refine r_get hx hb hts hown hK hw (v_bk hg hi) gs_atc (E_bk hg hi) inX0 rfl 5 (by decide) k_88 rfl rfl dX0_readRow_1 ?_
    refine lv_aload_n hx hb dX0_readRow_4 rfl (lv_at hl 0 rfl) ?_
    refine r_get hx hb hts hown hK hw (v_bk hg hi) gs_atc (E_bk hg hi) inX0 rfl 4 (by decide) k_85 rfl rfl dX0_readRow_5 ?_
    refine lv_icmp_lt (tgt := 14) hx hb dX0_readRow_8 (by decide) (fun q1 => ?_) (fun q1 => ?_)
    · replace h := t_pos h q1
      refine lv_aload_n hx hb dX0_readRow_14 rfl (lv_at hl 0 rfl) ?_
      refine r_get hx hb hts hown hK hw (v_bk hg hi) gs_atc (E_bk hg hi) inX0 rfl 0 (by decide) k_72 rfl rfl dX0_readRow_15 ?_
      refine lv_aload_n hx hb dX0_readRow_18 rfl (lv_at hl 0 rfl) ?_
      refine r_get hx hb hts hown hK hw (v_bk hg hi) gs_atc (E_bk hg hi) inX0 rfl 5 (by decide) k_88 rfl rfl dX0_readRow_19 ?_
      obtain ⟨q2, h⟩ := t_gd h
      refine r_iald hx hb hK hw (v_va hg hi) gs_atc (E_va hg hi) q2 dX0_readRow_22 ?_
      refine lv_istore_n (lv' := [(1, .int (m (11 + i) (m (3 + i) 5).toNatClampNeg)), (0, .ref (ad g (3 + i)))]) hx hb dX0_readRow_23 rfl hl (by decide) rfl (fun ls hl => ?_)
      refine lv_aload_n hx hb dX0_readRow_24 rfl (lv_at hl 1 rfl) ?_
      refine lv_dup hx hb dX0_readRow_25 rfl ?_
      refine r_get hx hb hts hown hK hw (v_bk hg hi) gs_atc (E_bk hg hi) inX0 rfl 5 (by decide) k_88 rfl rfl dX0_readRow_26 ?_
      refine lv_iconst (v := nI 1) hx hb dX0_readRow_29 (by decide) ?_
      refine lv_iadd hx hb dX0_readRow_30 ?_
      obtain ⟨m4, e3, h⟩ := t_lt h
      refine r_put hx hb hts hown hK hcv hw hS (v_bk hg hi) gs_atc (E_bk hg hi) inX0 rfl tyX0 tyX0_ok nmX0 5 (by decide) k_88 rfl rfl rfl rfl (Nat.le_of_ble_eq_true rfl) (E_bk hg hi) (gs_up e3) dX0_readRow_31 (fun H locs hw hS => ?_)
      refine lv_aload_n hx hb dX0_readRow_34 rfl (lv_at hl 1 rfl) ?_
      refine lv_dup hx hb dX0_readRow_35 rfl ?_
      refine r_get hx hb hts hown hK hw (v_bk hg hi) gs_atc (E_bk hg hi) inX0 rfl 6 (by decide) k_91 rfl rfl dX0_readRow_36 ?_
      refine lv_iload_n hx hb dX0_readRow_39 rfl (lv_at hl 0 rfl) ?_
      refine lv_iadd hx hb dX0_readRow_40 ?_
      obtain ⟨m6, e5, h⟩ := t_lt h
      refine r_put hx hb hts hown hK hcv hw hS (v_bk hg hi) gs_atc (E_bk hg hi) inX0 rfl tyX0 tyX0_ok nmX0 6 (by decide) k_91 rfl rfl rfl rfl (Nat.le_of_ble_eq_true rfl) (E_bk hg hi) (gs_up e5) dX0_readRow_41 (fun H locs hw hS => ?_)
      refine lv_aload_n hx hb dX0_readRow_44 rfl (lv_at hl 1 rfl) ?_
      refine lv_aload_n hx hb dX0_readRow_45 rfl (lv_at hl 1 rfl) ?_
      refine r_get hx hb hts hown hK hw (v_bk hg hi) gs_atc (E_bk hg hi) inX0 rfl 7 (by decide) k_94 rfl rfl dX0_readRow_46 ?_
      refine lv_iload_n hx hb dX0_readRow_49 rfl (lv_at hl 0 rfl) ?_
      refine r_min hx hb hts (hml.trans hl.1.symm) hown k_287 k_270 k_8 k_271 (Nat.le_of_ble_eq_true rfl) (Nat.le_of_ble_eq_true rfl) (Nat.le_of_ble_eq_true rfl) (Nat.le_of_ble_eq_true rfl) dX0_readRow_50 ?_
      obtain ⟨m8, e7, h⟩ := t_lt h
      refine r_put hx hb hts hown hK hcv hw hS (v_bk hg hi) gs_atc (E_bk hg hi) inX0 rfl tyX0 tyX0_ok nmX0 7 (by decide) k_94 rfl rfl rfl rfl (Nat.le_of_ble_eq_true rfl) (E_bk hg hi) (gs_up e7) dX0_readRow_53 (fun H locs hw hS => ?_)
      refine lv_aload_n hx hb dX0_readRow_56 rfl (lv_at hl 1 rfl) ?_
      refine lv_aload_n hx hb dX0_readRow_57 rfl (lv_at hl 1 rfl) ?_
      refine r_get hx hb hts hown hK hw (v_bk hg hi) gs_atc (E_bk hg hi) inX0 rfl 8 (by decide) k_95 rfl rfl dX0_readRow_58 ?_
      refine lv_iload_n hx hb dX0_readRow_61 rfl (lv_at hl 0 rfl) ?_
      refine r_max hx hb hts (hml.trans hl.1.symm) hown k_288 k_273 k_8 k_274 (Nat.le_of_ble_eq_true rfl) (Nat.le_of_ble_eq_true rfl) (Nat.le_of_ble_eq_true rfl) (Nat.le_of_ble_eq_true rfl) dX0_readRow_62 ?_
      obtain ⟨m10, e9, h⟩ := t_lt h
      refine r_put hx hb hts hown hK hcv hw hS (v_bk hg hi) gs_atc (E_bk hg hi) inX0 rfl tyX0 tyX0_ok nmX0 8 (by decide) k_95 rfl rfl rfl rfl (Nat.le_of_ble_eq_true rfl) (E_bk hg hi) (gs_up e9) dX0_readRow_65 (fun H locs hw hS => ?_)
      refine lv_iload_n hx hb dX0_readRow_68 rfl (lv_at hl 0 rfl) ?_
      have e1 := (t_ret h).1
      have e2 := (t_ret h).2
      exact e_i hx hb hr hlk hw hS e1 (by rw [e2]) dX0_readRow_69
    · replace h := t_neg h q1
      refine lv_bipush (v := -5) hx hb dX0_readRow_11 (by decide) ?_
      have e1 := (t_ret h).1
      have e2 := (t_ret h).2
      exact e_i hx hb hr hlk hw hS e1 (by rw [e2]) dX0_readRow_13
  exact main _ _ hw hS ls hl

theorem cf_X0_readFirst : cfV RX0 yX0_readFirst cX0_readFirst 3 none 1 := ⟨⟨k_474, k_475, k_4, k_476⟩, by decide +kernel⟩
def f_X0_readFirst_L24 (i : Nat) (p0 : Int32) : Nat → SM → Int32 → Option (Int32 × SM)
  | 0, _, _ => none
  | n + 1, m, x2 => (if p0 ≤ x2 then some (0, m) else bd (f_X0_readRow m i) fun r3 m4 => f_X0_readFirst_L24 i p0 n m4 (x2 + (nI 1)))
def f_X0_readFirst (m : SM) (i : Nat) (p0 : Int32) : Option (Int32 × SM) :=
  lt1 (up m (3 + i) 5 (nI 0)) fun m2 => lt1 (up m2 (3 + i) 6 (nI 0)) fun m4 => lt1 (up m4 (3 + i) 7 (nI 999)) fun m6 => lt1 (up m6 (3 + i) 8 (nI 0)) fun m8 => f_X0_readFirst_L24 i p0 FU m8 (nI 0)
set_option maxHeartbeats 4000000 in
set_option maxRecDepth 100000 in
theorem c_X0_readFirst {l : Launch} {D : va_G} {cy : Nat → ClassId} {ad : Nat → Nat → Nat} (hcv : CV ad) {g : Nat} (hg : g < 7) {i : Nat} (hi : i < 8) {M0 : MM} {m : SM} (hm : M0 g = m) {p0 : Int32} {r : Int32} {x : SM} (h : f_X0_readFirst m i p0 = some (r, x)) : Met l yX0_readFirst (.code yX0_readFirst cX0_readFirst 3 none :: TB) ({ frames := 2, cells := 0, slots := 0, locals := 42 } : Room) (PW D cy ad M0 [.ref (ad g (3 + i)), .int p0]) (QV D cy ad (gs M0 g x)) 0 0 (AD ad) := by
  refine m_in (by decide +kernel) (Nat.le_of_ble_eq_true rfl) ?_
  intro p e s md args below meth c hC hw hS ls hl
  obtain ⟨hx, hb, hr, hml, hown, hts, hK, hlk⟩ := hC
  have hl : lv_has ls 3 [(0, .ref (ad g (3 + i))), (1, .int p0)] := hl
  rw [← gs_same hm] at hw
  have L24 : ∀ (n : Nat), ∀ (m : SM) (x2 : Int32), f_X0_readFirst_L24 i p0 n m x2 = some (r, x) → JL p l e ({ frames := 2, cells := 0, slots := 0, locals := 42 } : Room) s md args below meth c D cy ad (MQ below (QV D cy ad (gs M0 g x)) args s 0 0 (AD ad)) (gs M0 g m) 3 [(0, .ref (ad g (3 + i))), (1, .int p0), (2, .int x2)] 24 [] := by
    intro n
    induction n with
    | zero =>
      intro m x2 h
      cases h
    | succ n ih =>
      intro m x2 h H locs hw hS ls hl
      rw [f_X0_readFirst_L24.eq_2] at h
      refine lv_iload_n hx hb dX0_readFirst_24 rfl (lv_at hl 2 rfl) ?_
      refine lv_iload_n hx hb dX0_readFirst_25 rfl (lv_at hl 1 rfl) ?_
      refine lv_icmp_ge (tgt := 40) hx hb dX0_readFirst_26 (by decide) (fun q1 => ?_) (fun q1 => ?_)
      · replace h := t_pos h q1
        have e1 := (t_ret h).1
        have e2 := (t_ret h).2
        exact e_v hx hb hr hlk hw hS (by rw [e2]) dX0_readFirst_40
      · replace h := t_neg h q1
        refine lv_aload_n hx hb dX0_readFirst_29 rfl (lv_at hl 0 rfl) ?_
        obtain ⟨r3, m4, y2, h⟩ := t_bd h
        refine c_vi hx hb hml hown hts hK hw hS (fun _ h => h) (As := []) (rest := []) (c_X0_readRow hcv (g := g) (hg := hg) (i := i) (hi := hi) (M0 := gs M0 g m) (m := m) (hm := gs_at) y2) cf_X0_readRow k_477 rfl rfl ⟨Nat.le_of_ble_eq_true rfl, Nat.le_of_ble_eq_true rfl⟩ (r_recv hK hw (v_bk hg hi) (E_bk hg hi) rfl) rfl hl.1 rfl (Nat.le_of_ble_eq_true rfl) ⟨Nat.le_refl _, Nat.le_refl _⟩ dX0_readFirst_30 (fun H locs hw hS => ?_)
        rw [gs_gs] at hw
        refine lv_pop hx hb dX0_readFirst_33 rfl ?_
        refine lv_iinc (v := (x2 + (nI 1))) (lv' := [(2, .int (x2 + (nI 1))), (0, .ref (ad g (3 + i))), (1, .int p0)]) hx hb dX0_readFirst_34 hl (k := 2) rfl rfl (by decide) rfl (fun ls hl => ?_)
        refine lv_goto (tgt := 24) hx hb dX0_readFirst_37 (by decide) ?_
        exact ih m4 (x2 + (nI 1)) h H locs hw hS ls (lv_sub hl [1, 2, 0] rfl)
  unfold f_X0_readFirst at h
  have main : JL p l e ({ frames := 2, cells := 0, slots := 0, locals := 42 } : Room) s md args below meth c D cy ad (MQ below (QV D cy ad (gs M0 g x)) args s 0 0 (AD ad)) (gs M0 g m) 3 [(0, .ref (ad g (3 + i))), (1, .int p0)] 0 [] := by
    intro H locs hw hS ls hl
    refine lv_aload_n hx hb dX0_readFirst_0 rfl (lv_at hl 0 rfl) ?_
    refine lv_iconst (v := nI 0) hx hb dX0_readFirst_1 (by decide) ?_
    obtain ⟨m2, e1, h⟩ := t_lt h
    refine r_put hx hb hts hown hK hcv hw hS (v_bk hg hi) gs_atc (E_bk hg hi) inX0 rfl tyX0 tyX0_ok nmX0 5 (by decide) k_88 rfl rfl rfl rfl (Nat.le_of_ble_eq_true rfl) (E_bk hg hi) (gs_up e1) dX0_readFirst_2 (fun H locs hw hS => ?_)
    refine lv_aload_n hx hb dX0_readFirst_5 rfl (lv_at hl 0 rfl) ?_
    refine lv_iconst (v := nI 0) hx hb dX0_readFirst_6 (by decide) ?_
    obtain ⟨m4, e3, h⟩ := t_lt h
    refine r_put hx hb hts hown hK hcv hw hS (v_bk hg hi) gs_atc (E_bk hg hi) inX0 rfl tyX0 tyX0_ok nmX0 6 (by decide) k_91 rfl rfl rfl rfl (Nat.le_of_ble_eq_true rfl) (E_bk hg hi) (gs_up e3) dX0_readFirst_7 (fun H locs hw hS => ?_)
    refine lv_aload_n hx hb dX0_readFirst_10 rfl (lv_at hl 0 rfl) ?_
    refine lv_sipush (v := nI 999) hx hb dX0_readFirst_11 (by decide) ?_
    obtain ⟨m6, e5, h⟩ := t_lt h
    refine r_put hx hb hts hown hK hcv hw hS (v_bk hg hi) gs_atc (E_bk hg hi) inX0 rfl tyX0 tyX0_ok nmX0 7 (by decide) k_94 rfl rfl rfl rfl (Nat.le_of_ble_eq_true rfl) (E_bk hg hi) (gs_up e5) dX0_readFirst_14 (fun H locs hw hS => ?_)
    refine lv_aload_n hx hb dX0_readFirst_17 rfl (lv_at hl 0 rfl) ?_
    refine lv_iconst (v := nI 0) hx hb dX0_readFirst_18 (by decide) ?_
    obtain ⟨m8, e7, h⟩ := t_lt h
    refine r_put hx hb hts hown hK hcv hw hS (v_bk hg hi) gs_atc (E_bk hg hi) inX0 rfl tyX0 tyX0_ok nmX0 8 (by decide) k_95 rfl rfl rfl rfl (Nat.le_of_ble_eq_true rfl) (E_bk hg hi) (gs_up e7) dX0_readFirst_19 (fun H locs hw hS => ?_)
    refine lv_iconst (v := nI 0) hx hb dX0_readFirst_22 (by decide) ?_
    refine lv_istore_n (lv' := [(2, .int (nI 0)), (0, .ref (ad g (3 + i))), (1, .int p0)]) hx hb dX0_readFirst_23 rfl hl (by decide) rfl (fun ls hl => ?_)
    exact L24 FU m8 (nI 0) h H locs hw hS ls (lv_sub hl [1, 2, 0] rfl)
  exact main _ _ hw hS ls hl

theorem cf_X0_copyFromText : cfV RX0 yX0_copyFromText cX0_copyFromText 2 none 1 := ⟨⟨k_470, k_471, k_4, k_472⟩, by decide +kernel⟩
def f_X0_copyFromText (m : SM) (mz : SM) (i : Nat) : Option (Int32 × SM) :=
  lt1 (sc m (11 + i) (va_cpy (mz 2) (m (11 + i)) 0 0 16)) fun m2 => lt1 (up m2 (3 + i) 1 (mz 0 4)) fun m4 => lt1 (up m4 (3 + i) 2 (mz 0 5)) fun m6 => lt1 (up m6 (3 + i) 3 (mz 0 6)) fun m8 => lt1 (up m8 (3 + i) 4 (mz 0 7)) fun m10 => bd (f_X0_readFirst m10 i (nI 0)) fun r12 m13 => some (0, m13)
set_option maxHeartbeats 4000000 in
set_option maxRecDepth 100000 in
theorem c_X0_copyFromText {l : Launch} {D : va_G} {cy : Nat → ClassId} {ad : Nat → Nat → Nat} (hcv : CV ad) {g : Nat} (hg : g < 7) {i : Nat} (hi : i < 8) {M0 : MM} {m : SM} (hm : M0 g = m) (hne : 7 ≠ g) {mz : SM} (hm2 : M0 7 = mz) {r : Int32} {x : SM} (h : f_X0_copyFromText m mz i = some (r, x)) : Met l yX0_copyFromText (.code yX0_copyFromText cX0_copyFromText 2 none :: TB) ({ frames := 3, cells := 0, slots := 0, locals := 64 } : Room) (PW D cy ad M0 [.ref (ad g (3 + i)), .ref (ad 7 0)]) (QV D cy ad (gs M0 g x)) 0 0 (AD ad) := by
  refine m_in (by decide +kernel) (Nat.le_of_ble_eq_true rfl) ?_
  intro p e s md args below meth c hC hw hS ls hl
  obtain ⟨hx, hb, hr, hml, hown, hts, hK, hlk⟩ := hC
  have hl : lv_has ls 2 [(0, .ref (ad g (3 + i))), (1, .ref (ad 7 0))] := hl
  rw [← gs_same hm] at hw
  unfold f_X0_copyFromText at h
  have main : JL p l e ({ frames := 3, cells := 0, slots := 0, locals := 64 } : Room) s md args below meth c D cy ad (MQ below (QV D cy ad (gs M0 g x)) args s 0 0 (AD ad)) (gs M0 g m) 2 [(0, .ref (ad g (3 + i))), (1, .ref (ad 7 0))] 0 [] := by
    intro H locs hw hS ls hl
    refine lv_aload_n hx hb dX0_copyFromText_0 rfl (lv_at hl 1 rfl) ?_
    refine r_get hx hb hts hown hK hw (v_tx (by decide)) (gs_nec hne hm2) E_tx inX1 rfl 1 (by decide) k_25 rfl rfl dX0_copyFromText_1 ?_
    refine lv_iconst (v := nI 0) hx hb dX0_copyFromText_4 (by decide) ?_
    refine lv_aload_n hx hb dX0_copyFromText_5 rfl (lv_at hl 0 rfl) ?_
    refine r_get hx hb hts hown hK hw (v_bk hg hi) gs_atc (E_bk hg hi) inX0 rfl 0 (by decide) k_72 rfl rfl dX0_copyFromText_6 ?_
    refine lv_iconst (v := nI 0) hx hb dX0_copyFromText_9 (by decide) ?_
    refine lv_bipush (v := nI 16) hx hb dX0_copyFromText_10 (by decide) ?_
    obtain ⟨m2, e1, h⟩ := t_lt h
    refine r_copy hx hb hts (hml.trans hl.1.symm) hown k_243 k_245 k_244 k_7 hK hcv hw hS (v_va hg hi) gs_atc (fun _ => (E_va hg hi)) (v_tx (by decide)) (gs_nec hne hm2) (fun _ => E_tv) (by decide) (by decide) (by decide) (by decide) (by decide) (Nat.le_of_ble_eq_true rfl) (by decide) (gs_sc e1) dX0_copyFromText_12 (fun H locs hw hS => ?_)
    refine lv_aload_n hx hb dX0_copyFromText_15 rfl (lv_at hl 0 rfl) ?_
    refine lv_aload_n hx hb dX0_copyFromText_16 rfl (lv_at hl 1 rfl) ?_
    refine r_get hx hb hts hown hK hw (v_tx (by decide)) (gs_nec hne hm2) E_tx inX1 rfl 4 (by decide) k_31 rfl rfl dX0_copyFromText_17 ?_
    obtain ⟨m4, e3, h⟩ := t_lt h
    refine r_put hx hb hts hown hK hcv hw hS (v_bk hg hi) gs_atc (E_bk hg hi) inX0 rfl tyX0 tyX0_ok nmX0 1 (by decide) k_74 rfl rfl rfl rfl (Nat.le_of_ble_eq_true rfl) (E_bk hg hi) (gs_up e3) dX0_copyFromText_20 (fun H locs hw hS => ?_)
    refine lv_aload_n hx hb dX0_copyFromText_23 rfl (lv_at hl 0 rfl) ?_
    refine lv_aload_n hx hb dX0_copyFromText_24 rfl (lv_at hl 1 rfl) ?_
    refine r_get hx hb hts hown hK hw (v_tx (by decide)) (gs_nec hne hm2) E_tx inX1 rfl 5 (by decide) k_32 rfl rfl dX0_copyFromText_25 ?_
    obtain ⟨m6, e5, h⟩ := t_lt h
    refine r_put hx hb hts hown hK hcv hw hS (v_bk hg hi) gs_atc (E_bk hg hi) inX0 rfl tyX0 tyX0_ok nmX0 2 (by decide) k_77 rfl rfl rfl rfl (Nat.le_of_ble_eq_true rfl) (E_bk hg hi) (gs_up e5) dX0_copyFromText_28 (fun H locs hw hS => ?_)
    refine lv_aload_n hx hb dX0_copyFromText_31 rfl (lv_at hl 0 rfl) ?_
    refine lv_aload_n hx hb dX0_copyFromText_32 rfl (lv_at hl 1 rfl) ?_
    refine r_get hx hb hts hown hK hw (v_tx (by decide)) (gs_nec hne hm2) E_tx inX1 rfl 6 (by decide) k_34 rfl rfl dX0_copyFromText_33 ?_
    obtain ⟨m8, e7, h⟩ := t_lt h
    refine r_put hx hb hts hown hK hcv hw hS (v_bk hg hi) gs_atc (E_bk hg hi) inX0 rfl tyX0 tyX0_ok nmX0 3 (by decide) k_81 rfl rfl rfl rfl (Nat.le_of_ble_eq_true rfl) (E_bk hg hi) (gs_up e7) dX0_copyFromText_36 (fun H locs hw hS => ?_)
    refine lv_aload_n hx hb dX0_copyFromText_39 rfl (lv_at hl 0 rfl) ?_
    refine lv_aload_n hx hb dX0_copyFromText_40 rfl (lv_at hl 1 rfl) ?_
    refine r_get hx hb hts hown hK hw (v_tx (by decide)) (gs_nec hne hm2) E_tx inX1 rfl 7 (by decide) k_36 rfl rfl dX0_copyFromText_41 ?_
    obtain ⟨m10, e9, h⟩ := t_lt h
    refine r_put hx hb hts hown hK hcv hw hS (v_bk hg hi) gs_atc (E_bk hg hi) inX0 rfl tyX0 tyX0_ok nmX0 4 (by decide) k_85 rfl rfl rfl rfl (Nat.le_of_ble_eq_true rfl) (E_bk hg hi) (gs_up e9) dX0_copyFromText_44 (fun H locs hw hS => ?_)
    refine lv_aload_n hx hb dX0_copyFromText_47 rfl (lv_at hl 0 rfl) ?_
    refine lv_iconst (v := nI 0) hx hb dX0_copyFromText_48 (by decide) ?_
    obtain ⟨r12, m13, y11, h⟩ := t_bd h
    refine c_vv hx hb hml hown hts hK hw hS (fun _ h => h) (As := [.int (nI 0)]) (rest := []) (c_X0_readFirst hcv (g := g) (hg := hg) (i := i) (hi := hi) (M0 := gs M0 g m10) (m := m10) (hm := gs_at) y11) cf_X0_readFirst k_473 rfl rfl ⟨Nat.le_of_ble_eq_true rfl, Nat.le_of_ble_eq_true rfl⟩ (r_recv hK hw (v_bk hg hi) (E_bk hg hi) rfl) rfl hl.1 rfl (Nat.le_of_ble_eq_true rfl) ⟨Nat.le_refl _, Nat.le_refl _⟩ dX0_copyFromText_49 (fun H locs hw hS => ?_)
    rw [gs_gs] at hw
    have e1 := (t_ret h).1
    have e2 := (t_ret h).2
    exact e_v hx hb hr hlk hw hS (by rw [e2]) dX0_copyFromText_52
  exact main _ _ hw hS ls hl

theorem cf_X0_unread : cfV RX0 yX0_unread cX0_unread 1 (some .int) 0 := ⟨⟨k_280, k_281, k_4, k_282⟩, by decide +kernel⟩
def f_X0_unread (m : SM) (i : Nat) : Option (Int32) :=
  some ((m (3 + i) 4) - (m (3 + i) 5))
set_option maxHeartbeats 4000000 in
set_option maxRecDepth 100000 in
theorem c_X0_unread {l : Launch} {D : va_G} {cy : Nat → ClassId} {ad : Nat → Nat → Nat} (hcv : CV ad) {g : Nat} (hg : g < 7) {i : Nat} (hi : i < 8) {M0 : MM} {m : SM} (hm : M0 g = m) {r : Int32} (h : f_X0_unread m i = some r) : Met l yX0_unread (.code yX0_unread cX0_unread 1 (some .int) :: TB) ({ frames := 0, cells := 0, slots := 0, locals := 0 } : Room) (PW D cy ad M0 [.ref (ad g (3 + i))]) (QI D cy ad r M0) 0 0 (AD ad) := by
  refine m_in (by decide +kernel) (Nat.le_of_ble_eq_true rfl) ?_
  intro p e s md args below meth c hC hw hS ls hl
  obtain ⟨hx, hb, hr, hml, hown, hts, hK, hlk⟩ := hC
  have hl : lv_has ls 1 [(0, .ref (ad g (3 + i)))] := hl
  rw [← gs_same hm] at hw
  unfold f_X0_unread at h
  have main : JL p l e ({ frames := 0, cells := 0, slots := 0, locals := 0 } : Room) s md args below meth c D cy ad (MQ below (QI D cy ad r M0) args s 0 0 (AD ad)) (gs M0 g m) 1 [(0, .ref (ad g (3 + i)))] 0 [] := by
    intro H locs hw hS ls hl
    refine lv_aload_n hx hb dX0_unread_0 rfl (lv_at hl 0 rfl) ?_
    refine r_get hx hb hts hown hK hw (v_bk hg hi) gs_atc (E_bk hg hi) inX0 rfl 4 (by decide) k_85 rfl rfl dX0_unread_1 ?_
    refine lv_aload_n hx hb dX0_unread_4 rfl (lv_at hl 0 rfl) ?_
    refine r_get hx hb hts hown hK hw (v_bk hg hi) gs_atc (E_bk hg hi) inX0 rfl 5 (by decide) k_88 rfl rfl dX0_unread_5 ?_
    refine lv_isub hx hb dX0_unread_8 ?_
    have e1 := Option.some.inj h
    exact e_i hx hb hr hlk hw hS e1 (gs_same hm) dX0_unread_9
  exact main _ _ hw hS ls hl

theorem cf_X0_readFromLimit : cfV RX0 yX0_readFromLimit cX0_readFromLimit 4 (some .int) 1 := ⟨⟨k_284, k_285, k_4, k_286⟩, by decide +kernel⟩
def f_X0_readFromLimit_L4 (m : SM) (i : Nat) (p0 : Int32) : Nat → Int32 → Int32 → Option (Int32)
  | 0, _, _ => none
  | n + 1, x2, x3 => (if (m (3 + i) 5) ≤ x3 then some x2 else gd x3 16 ((if (m (11 + i) x3.toNatClampNeg) < p0 then f_X0_readFromLimit_L4 m i p0 n x2 (x3 + (nI 1)) else f_X0_readFromLimit_L4 m i p0 n (x2 + (nI 1)) (x3 + (nI 1)))))
def f_X0_readFromLimit (m : SM) (i : Nat) (p0 : Int32) : Option (Int32) :=
  f_X0_readFromLimit_L4 m i p0 FU (nI 0) (nI 0)
set_option maxHeartbeats 4000000 in
set_option maxRecDepth 100000 in
theorem c_X0_readFromLimit {l : Launch} {D : va_G} {cy : Nat → ClassId} {ad : Nat → Nat → Nat} (hcv : CV ad) {g : Nat} (hg : g < 7) {i : Nat} (hi : i < 8) {M0 : MM} {m : SM} (hm : M0 g = m) {p0 : Int32} {r : Int32} (h : f_X0_readFromLimit m i p0 = some r) : Met l yX0_readFromLimit (.code yX0_readFromLimit cX0_readFromLimit 4 (some .int) :: TB) ({ frames := 0, cells := 0, slots := 0, locals := 0 } : Room) (PW D cy ad M0 [.ref (ad g (3 + i)), .int p0]) (QI D cy ad r M0) 0 0 (AD ad) := by
  refine m_in (by decide +kernel) (Nat.le_of_ble_eq_true rfl) ?_
  intro p e s md args below meth c hC hw hS ls hl
  obtain ⟨hx, hb, hr, hml, hown, hts, hK, hlk⟩ := hC
  have hl : lv_has ls 4 [(0, .ref (ad g (3 + i))), (1, .int p0)] := hl
  rw [← gs_same hm] at hw
  have L4 : ∀ (n : Nat), ∀ (x2 : Int32) (x3 : Int32), f_X0_readFromLimit_L4 m i p0 n x2 x3 = some r → JL p l e ({ frames := 0, cells := 0, slots := 0, locals := 0 } : Room) s md args below meth c D cy ad (MQ below (QI D cy ad r M0) args s 0 0 (AD ad)) (gs M0 g m) 4 [(0, .ref (ad g (3 + i))), (1, .int p0), (2, .int x2), (3, .int x3)] 4 [] := by
    intro n
    induction n with
    | zero =>
      intro x2 x3 h
      cases h
    | succ n ih =>
      intro x2 x3 h H locs hw hS ls hl
      rw [f_X0_readFromLimit_L4.eq_2] at h
      refine lv_iload_n hx hb dX0_readFromLimit_4 rfl (lv_at hl 3 rfl) ?_
      refine lv_aload_n hx hb dX0_readFromLimit_5 rfl (lv_at hl 0 rfl) ?_
      refine r_get hx hb hts hown hK hw (v_bk hg hi) gs_atc (E_bk hg hi) inX0 rfl 5 (by decide) k_88 rfl rfl dX0_readFromLimit_6 ?_
      refine lv_icmp_ge (tgt := 31) hx hb dX0_readFromLimit_9 (by decide) (fun q1 => ?_) (fun q1 => ?_)
      · replace h := t_pos h q1
        refine lv_iload_n hx hb dX0_readFromLimit_31 rfl (lv_at hl 2 rfl) ?_
        have e1 := Option.some.inj h
        exact e_i hx hb hr hlk hw hS e1 (gs_same hm) dX0_readFromLimit_32
      · replace h := t_neg h q1
        refine lv_aload_n hx hb dX0_readFromLimit_12 rfl (lv_at hl 0 rfl) ?_
        refine r_get hx hb hts hown hK hw (v_bk hg hi) gs_atc (E_bk hg hi) inX0 rfl 0 (by decide) k_72 rfl rfl dX0_readFromLimit_13 ?_
        refine lv_iload_n hx hb dX0_readFromLimit_16 rfl (lv_at hl 3 rfl) ?_
        obtain ⟨q2, h⟩ := t_gd h
        refine r_iald hx hb hK hw (v_va hg hi) gs_atc (E_va hg hi) q2 dX0_readFromLimit_17 ?_
        refine lv_iload_n hx hb dX0_readFromLimit_18 rfl (lv_at hl 1 rfl) ?_
        refine lv_icmp_lt (tgt := 25) hx hb dX0_readFromLimit_19 (by decide) (fun q3 => ?_) (fun q3 => ?_)
        · replace h := t_pos h q3
          refine lv_iinc (v := (x3 + (nI 1))) (lv' := [(3, .int (x3 + (nI 1))), (0, .ref (ad g (3 + i))), (1, .int p0), (2, .int x2)]) hx hb dX0_readFromLimit_25 hl (k := 3) rfl rfl (by decide) rfl (fun ls hl => ?_)
          refine lv_goto (tgt := 4) hx hb dX0_readFromLimit_28 (by decide) ?_
          exact ih x2 (x3 + (nI 1)) h H locs hw hS ls (lv_sub hl [1, 2, 3, 0] rfl)
        · replace h := t_neg h q3
          refine lv_iinc (v := (x2 + (nI 1))) (lv' := [(2, .int (x2 + (nI 1))), (0, .ref (ad g (3 + i))), (1, .int p0), (3, .int x3)]) hx hb dX0_readFromLimit_22 hl (k := 2) rfl rfl (by decide) rfl (fun ls hl => ?_)
          refine lv_iinc (v := (x3 + (nI 1))) (lv' := [(3, .int (x3 + (nI 1))), (2, .int (x2 + (nI 1))), (0, .ref (ad g (3 + i))), (1, .int p0)]) hx hb dX0_readFromLimit_25 hl (k := 3) rfl rfl (by decide) rfl (fun ls hl => ?_)
          refine lv_goto (tgt := 4) hx hb dX0_readFromLimit_28 (by decide) ?_
          exact ih (x2 + (nI 1)) (x3 + (nI 1)) h H locs hw hS ls (lv_sub hl [2, 3, 1, 0] rfl)
  unfold f_X0_readFromLimit at h
  have main : JL p l e ({ frames := 0, cells := 0, slots := 0, locals := 0 } : Room) s md args below meth c D cy ad (MQ below (QI D cy ad r M0) args s 0 0 (AD ad)) (gs M0 g m) 4 [(0, .ref (ad g (3 + i))), (1, .int p0)] 0 [] := by
    intro H locs hw hS ls hl
    refine lv_iconst (v := nI 0) hx hb dX0_readFromLimit_0 (by decide) ?_
    refine lv_istore_n (lv' := [(2, .int (nI 0)), (0, .ref (ad g (3 + i))), (1, .int p0)]) hx hb dX0_readFromLimit_1 rfl hl (by decide) rfl (fun ls hl => ?_)
    refine lv_iconst (v := nI 0) hx hb dX0_readFromLimit_2 (by decide) ?_
    refine lv_istore_n (lv' := [(3, .int (nI 0)), (2, .int (nI 0)), (0, .ref (ad g (3 + i))), (1, .int p0)]) hx hb dX0_readFromLimit_3 rfl hl (by decide) rfl (fun ls hl => ?_)
    exact L4 FU (nI 0) (nI 0) h H locs hw hS ls (lv_sub hl [2, 3, 1, 0] rfl)
  exact main _ _ hw hS ls hl

theorem cf_X0_share : cfV RX0 yX0_share cX0_share 5 (some .int) 3 := ⟨⟨k_276, k_277, k_4, k_278⟩, by decide +kernel⟩
def f_X0_share (m : SM) (i : Nat) (p0 : Int32) (p1 : Int32) (p2 : Int32) : Option (Int32) :=
  b1 (f_X0_unread m i) fun r2 => (if p0 = (nI 1) then b1 (f_X0_readFromLimit m i p1) fun r9 => (if p2 < p1 then some (r9 + (nI 0)) else some (r9 + r2)) else (if p0 = (nI 2) then (if r2 ≤ (nI 0) then some (m (3 + i) 7) else some (mn (m (3 + i) 7) p2)) else (if p0 = (nI 3) then (if r2 ≤ (nI 0) then some (m (3 + i) 8) else some (mx (m (3 + i) 8) p2)) else (some ((m (3 + i) 6) + (r2 * p2))))))
set_option maxHeartbeats 4000000 in
set_option maxRecDepth 100000 in
theorem c_X0_share {l : Launch} {D : va_G} {cy : Nat → ClassId} {ad : Nat → Nat → Nat} (hcv : CV ad) {g : Nat} (hg : g < 7) {i : Nat} (hi : i < 8) {M0 : MM} {m : SM} (hm : M0 g = m) {p0 p1 p2 : Int32} {r : Int32} (h : f_X0_share m i p0 p1 p2 = some r) : Met l yX0_share (.code yX0_share cX0_share 5 (some .int) :: TB) ({ frames := 1, cells := 0, slots := 0, locals := 23 } : Room) (PW D cy ad M0 [.ref (ad g (3 + i)), .int p0, .int p1, .int p2]) (QI D cy ad r M0) 0 0 (AD ad) := by
  refine m_in (by decide +kernel) (Nat.le_of_ble_eq_true rfl) ?_
  intro p e s md args below meth c hC hw hS ls hl
  obtain ⟨hx, hb, hr, hml, hown, hts, hK, hlk⟩ := hC
  have hl : lv_has ls 5 [(0, .ref (ad g (3 + i))), (1, .int p0), (2, .int p1), (3, .int p2)] := hl
  rw [← gs_same hm] at hw
  unfold f_X0_share at h
  have main : JL p l e ({ frames := 1, cells := 0, slots := 0, locals := 23 } : Room) s md args below meth c D cy ad (MQ below (QI D cy ad r M0) args s 0 0 (AD ad)) (gs M0 g m) 5 [(0, .ref (ad g (3 + i))), (1, .int p0), (2, .int p1), (3, .int p2)] 0 [] := by
    intro H locs hw hS ls hl
    refine lv_aload_n hx hb dX0_share_0 rfl (lv_at hl 0 rfl) ?_
    obtain ⟨r2, y1, h⟩ := t_b1 h
    refine c_vi hx hb hml hown hts hK hw hS (fun _ h => h) (As := []) (rest := []) (c_X0_unread hcv (g := g) (hg := hg) (i := i) (hi := hi) (M0 := gs M0 g m) (m := m) (hm := gs_at) y1) cf_X0_unread k_279 rfl rfl ⟨Nat.le_of_ble_eq_true rfl, Nat.le_of_ble_eq_true rfl⟩ (r_recv hK hw (v_bk hg hi) (E_bk hg hi) rfl) rfl hl.1 rfl (Nat.le_of_ble_eq_true rfl) ⟨Nat.le_refl _, Nat.le_refl _⟩ dX0_share_1 (fun H locs hw hS => ?_)
    refine lv_istore (lv' := [(4, .int r2), (0, .ref (ad g (3 + i))), (1, .int p0), (2, .int p1), (3, .int p2)]) hx hb dX0_share_4 hl (by decide) rfl (fun ls hl => ?_)
    refine lv_iload_n hx hb dX0_share_6 rfl (lv_at hl 2 rfl) ?_
    by_cases q3 : p0 = (nI 1)
    · replace h := t_pos h q3
      refine lv_tableIn (off := 25) (tgt := 32) hx hb dX0_share_7 (by rw [q3]; decide) (by rw [q3]; decide) (by rw [q3]; rfl) (by decide) ?_
      refine lv_aload_n hx hb dX0_share_32 rfl (lv_at hl 1 rfl) ?_
      refine lv_iload_n hx hb dX0_share_33 rfl (lv_at hl 3 rfl) ?_
      obtain ⟨r9, y8, h⟩ := t_b1 h
      refine c_vi hx hb hml hown hts hK hw hS (fun _ h => h) (As := [.int p1]) (rest := []) (c_X0_readFromLimit hcv (g := g) (hg := hg) (i := i) (hi := hi) (M0 := gs M0 g m) (m := m) (hm := gs_at) y8) cf_X0_readFromLimit k_283 rfl rfl ⟨Nat.le_of_ble_eq_true rfl, Nat.le_of_ble_eq_true rfl⟩ (r_recv hK hw (v_bk hg hi) (E_bk hg hi) rfl) rfl hl.1 rfl (Nat.le_of_ble_eq_true rfl) ⟨Nat.le_refl _, Nat.le_refl _⟩ dX0_share_34 (fun H locs hw hS => ?_)
      refine lv_iload_n hx hb dX0_share_37 rfl (lv_at hl 4 rfl) ?_
      refine lv_iload_n hx hb dX0_share_38 rfl (lv_at hl 3 rfl) ?_
      refine lv_icmp_lt (tgt := 47) hx hb dX0_share_39 (by decide) (fun q10 => ?_) (fun q10 => ?_)
      · replace h := t_pos h q10
        refine lv_iconst (v := nI 0) hx hb dX0_share_47 (by decide) ?_
        refine lv_iadd hx hb dX0_share_48 ?_
        have e1 := Option.some.inj h
        exact e_i hx hb hr hlk hw hS e1 (gs_same hm) dX0_share_49
      · replace h := t_neg h q10
        refine lv_iload hx hb dX0_share_42 (lv_at hl 0 rfl) ?_
        refine lv_goto (tgt := 48) hx hb dX0_share_44 (by decide) ?_
        refine lv_iadd hx hb dX0_share_48 ?_
        have e1 := Option.some.inj h
        exact e_i hx hb hr hlk hw hS e1 (gs_same hm) dX0_share_49
    · replace h := t_neg h q3
      by_cases q4 : p0 = (nI 2)
      · replace h := t_pos h q4
        refine lv_tableIn (off := 43) (tgt := 50) hx hb dX0_share_7 (by rw [q4]; decide) (by rw [q4]; decide) (by rw [q4]; rfl) (by decide) ?_
        refine lv_iload hx hb dX0_share_50 (lv_at hl 0 rfl) ?_
        refine lv_if_le (tgt := 66) hx hb dX0_share_52 (by decide) (fun q7 => ?_) (fun q7 => ?_)
        · replace h := t_pos h q7
          refine lv_aload_n hx hb dX0_share_66 rfl (lv_at hl 1 rfl) ?_
          refine r_get hx hb hts hown hK hw (v_bk hg hi) gs_atc (E_bk hg hi) inX0 rfl 7 (by decide) k_94 rfl rfl dX0_share_67 ?_
          have e1 := Option.some.inj h
          exact e_i hx hb hr hlk hw hS e1 (gs_same hm) dX0_share_70
        · replace h := t_neg h q7
          refine lv_aload_n hx hb dX0_share_55 rfl (lv_at hl 1 rfl) ?_
          refine r_get hx hb hts hown hK hw (v_bk hg hi) gs_atc (E_bk hg hi) inX0 rfl 7 (by decide) k_94 rfl rfl dX0_share_56 ?_
          refine lv_iload_n hx hb dX0_share_59 rfl (lv_at hl 4 rfl) ?_
          refine r_min hx hb hts (hml.trans hl.1.symm) hown k_287 k_270 k_8 k_271 (Nat.le_of_ble_eq_true rfl) (Nat.le_of_ble_eq_true rfl) (Nat.le_of_ble_eq_true rfl) (Nat.le_of_ble_eq_true rfl) dX0_share_60 ?_
          refine lv_goto (tgt := 70) hx hb dX0_share_63 (by decide) ?_
          have e1 := Option.some.inj h
          exact e_i hx hb hr hlk hw hS e1 (gs_same hm) dX0_share_70
      · replace h := t_neg h q4
        by_cases q5 : p0 = (nI 3)
        · replace h := t_pos h q5
          refine lv_tableIn (off := 64) (tgt := 71) hx hb dX0_share_7 (by rw [q5]; decide) (by rw [q5]; decide) (by rw [q5]; rfl) (by decide) ?_
          refine lv_iload hx hb dX0_share_71 (lv_at hl 0 rfl) ?_
          refine lv_if_le (tgt := 87) hx hb dX0_share_73 (by decide) (fun q6 => ?_) (fun q6 => ?_)
          · replace h := t_pos h q6
            refine lv_aload_n hx hb dX0_share_87 rfl (lv_at hl 1 rfl) ?_
            refine r_get hx hb hts hown hK hw (v_bk hg hi) gs_atc (E_bk hg hi) inX0 rfl 8 (by decide) k_95 rfl rfl dX0_share_88 ?_
            have e1 := Option.some.inj h
            exact e_i hx hb hr hlk hw hS e1 (gs_same hm) dX0_share_91
          · replace h := t_neg h q6
            refine lv_aload_n hx hb dX0_share_76 rfl (lv_at hl 1 rfl) ?_
            refine r_get hx hb hts hown hK hw (v_bk hg hi) gs_atc (E_bk hg hi) inX0 rfl 8 (by decide) k_95 rfl rfl dX0_share_77 ?_
            refine lv_iload_n hx hb dX0_share_80 rfl (lv_at hl 4 rfl) ?_
            refine r_max hx hb hts (hml.trans hl.1.symm) hown k_288 k_273 k_8 k_274 (Nat.le_of_ble_eq_true rfl) (Nat.le_of_ble_eq_true rfl) (Nat.le_of_ble_eq_true rfl) (Nat.le_of_ble_eq_true rfl) dX0_share_81 ?_
            refine lv_goto (tgt := 91) hx hb dX0_share_84 (by decide) ?_
            have e1 := Option.some.inj h
            exact e_i hx hb hr hlk hw hS e1 (gs_same hm) dX0_share_91
        · replace h := t_neg h q5
          refine lv_tableOut (tgt := 92) hx hb dX0_share_7 (tab_out (lo := 1) (n := 3) (by decide) (lt_s (lt_s (lt_s lt_0 q3) q4) q5)) (by decide) ?_
          refine lv_aload_n hx hb dX0_share_92 rfl (lv_at hl 1 rfl) ?_
          refine r_get hx hb hts hown hK hw (v_bk hg hi) gs_atc (E_bk hg hi) inX0 rfl 6 (by decide) k_91 rfl rfl dX0_share_93 ?_
          refine lv_iload hx hb dX0_share_96 (lv_at hl 0 rfl) ?_
          refine lv_iload_n hx hb dX0_share_98 rfl (lv_at hl 4 rfl) ?_
          refine lv_imul hx hb dX0_share_99 ?_
          refine lv_iadd hx hb dX0_share_100 ?_
          have e1 := Option.some.inj h
          exact e_i hx hb hr hlk hw hS e1 (gs_same hm) dX0_share_101
  exact main _ _ hw hS ls hl

theorem cf_X1_append : cfV RX1 yX1_append cX1_append 2 none 1 := ⟨⟨k_427, k_428, k_2, k_429⟩, by decide +kernel⟩
def f_X1_append (m : SM) (p0 : Int32) : Option (Int32 × SM) :=
  (if (nI 80) ≤ (m 0 2) then some (0, m) else gd (m 0 2) 80 (lt1 (up m 1 (m 0 2).toNatClampNeg (vp_nar .char p0)) fun m4 => lt1 (up m4 0 2 ((m4 0 2) + (nI 1))) fun m6 => some (0, m6)))
set_option maxHeartbeats 4000000 in
set_option maxRecDepth 100000 in
theorem c_X1_append {l : Launch} {D : va_G} {cy : Nat → ClassId} {ad : Nat → Nat → Nat} (hcv : CV ad) {M0 : MM} {m : SM} (hm : M0 7 = m) {p0 : Int32} {r : Int32} {x : SM} (h : f_X1_append m p0 = some (r, x)) : Met l yX1_append (.code yX1_append cX1_append 2 none :: TB) ({ frames := 0, cells := 0, slots := 0, locals := 0 } : Room) (PW D cy ad M0 [.ref (ad 7 0), .int p0]) (QV D cy ad (gs M0 7 x)) 0 0 (AD ad) := by
  refine m_in (by decide +kernel) (Nat.le_of_ble_eq_true rfl) ?_
  intro p e s md args below meth c hC hw hS ls hl
  obtain ⟨hx, hb, hr, hml, hown, hts, hK, hlk⟩ := hC
  have hl : lv_has ls 2 [(0, .ref (ad 7 0)), (1, .int p0)] := hl
  rw [← gs_same hm] at hw
  unfold f_X1_append at h
  have main : JL p l e ({ frames := 0, cells := 0, slots := 0, locals := 0 } : Room) s md args below meth c D cy ad (MQ below (QV D cy ad (gs M0 7 x)) args s 0 0 (AD ad)) (gs M0 7 m) 2 [(0, .ref (ad 7 0)), (1, .int p0)] 0 [] := by
    intro H locs hw hS ls hl
    refine lv_aload_n hx hb dX1_append_0 rfl (lv_at hl 0 rfl) ?_
    refine r_get hx hb hts hown hK hw (v_tx (by decide)) gs_atc E_tx inX1 rfl 2 (by decide) k_26 rfl rfl dX1_append_1 ?_
    refine lv_bipush (v := nI 80) hx hb dX1_append_4 (by decide) ?_
    refine lv_icmp_ge (tgt := 29) hx hb dX1_append_6 (by decide) (fun q1 => ?_) (fun q1 => ?_)
    · replace h := t_pos h q1
      have e1 := (t_ret h).1
      have e2 := (t_ret h).2
      exact e_v hx hb hr hlk hw hS (by rw [e2]) dX1_append_29
    · replace h := t_neg h q1
      refine lv_aload_n hx hb dX1_append_9 rfl (lv_at hl 0 rfl) ?_
      refine r_get hx hb hts hown hK hw (v_tx (by decide)) gs_atc E_tx inX1 rfl 0 (by decide) k_23 rfl rfl dX1_append_10 ?_
      refine lv_aload_n hx hb dX1_append_13 rfl (lv_at hl 0 rfl) ?_
      refine r_get hx hb hts hown hK hw (v_tx (by decide)) gs_atc E_tx inX1 rfl 2 (by decide) k_26 rfl rfl dX1_append_14 ?_
      refine lv_iload_n hx hb dX1_append_17 rfl (lv_at hl 1 rfl) ?_
      obtain ⟨q2, h⟩ := t_gd h
      obtain ⟨m4, e3, h⟩ := t_lt h
      refine r_cast hx hb hK hcv hw hS (v_tx (by decide)) gs_atc (fun _ => E_tc) q2 (gs_up e3) dX1_append_18 (fun H locs hw hS => ?_)
      refine lv_aload_n hx hb dX1_append_19 rfl (lv_at hl 0 rfl) ?_
      refine lv_dup hx hb dX1_append_20 rfl ?_
      refine r_get hx hb hts hown hK hw (v_tx (by decide)) gs_atc E_tx inX1 rfl 2 (by decide) k_26 rfl rfl dX1_append_21 ?_
      refine lv_iconst (v := nI 1) hx hb dX1_append_24 (by decide) ?_
      refine lv_iadd hx hb dX1_append_25 ?_
      obtain ⟨m6, e5, h⟩ := t_lt h
      refine r_put hx hb hts hown hK hcv hw hS (v_tx (by decide)) gs_atc E_tx inX1 rfl tyX1 tyX1_ok nmX1 2 (by decide) k_26 rfl rfl rfl rfl (Nat.le_of_ble_eq_true rfl) E_tx (gs_up e5) dX1_append_26 (fun H locs hw hS => ?_)
      have e1 := (t_ret h).1
      have e2 := (t_ret h).2
      exact e_v hx hb hr hlk hw hS (by rw [e2]) dX1_append_29
  exact main _ _ hw hS ls hl

theorem cf_X1_takeDigit : cfV RX1 yX1_takeDigit cX1_takeDigit 4 (some .int) 2 := ⟨⟨k_445, k_446, k_2, k_447⟩, by decide +kernel⟩
def f_X1_takeDigit (m : SM) (p0 : Int32) (p1 : Int32) : Option (Int32 × SM) :=
  (if (m 0 2) ≤ (m 0 3) then some ((-1 : Int32), m) else gd (m 0 3) 80 ((if (m 1 (m 0 3).toNatClampNeg) < p0 then some ((-1 : Int32), m) else gd (m 0 3) 80 ((if (m 1 (m 0 3).toNatClampNeg) ≤ p1 then gd (m 0 3) 80 (lt1 (up m 0 3 ((m 0 3) + (nI 1))) fun m8 => some (((m 1 (m 0 3).toNatClampNeg) - (nI 48)), m8)) else some ((-1 : Int32), m))))))
set_option maxHeartbeats 4000000 in
set_option maxRecDepth 100000 in
theorem c_X1_takeDigit {l : Launch} {D : va_G} {cy : Nat → ClassId} {ad : Nat → Nat → Nat} (hcv : CV ad) {M0 : MM} {m : SM} (hm : M0 7 = m) {p0 p1 : Int32} {r : Int32} {x : SM} (h : f_X1_takeDigit m p0 p1 = some (r, x)) : Met l yX1_takeDigit (.code yX1_takeDigit cX1_takeDigit 4 (some .int) :: TB) ({ frames := 0, cells := 0, slots := 0, locals := 0 } : Room) (PW D cy ad M0 [.ref (ad 7 0), .int p0, .int p1]) (QI D cy ad r (gs M0 7 x)) 0 0 (AD ad) := by
  refine m_in (by decide +kernel) (Nat.le_of_ble_eq_true rfl) ?_
  intro p e s md args below meth c hC hw hS ls hl
  obtain ⟨hx, hb, hr, hml, hown, hts, hK, hlk⟩ := hC
  have hl : lv_has ls 4 [(0, .ref (ad 7 0)), (1, .int p0), (2, .int p1)] := hl
  rw [← gs_same hm] at hw
  unfold f_X1_takeDigit at h
  have main : JL p l e ({ frames := 0, cells := 0, slots := 0, locals := 0 } : Room) s md args below meth c D cy ad (MQ below (QI D cy ad r (gs M0 7 x)) args s 0 0 (AD ad)) (gs M0 7 m) 4 [(0, .ref (ad 7 0)), (1, .int p0), (2, .int p1)] 0 [] := by
    intro H locs hw hS ls hl
    refine lv_aload_n hx hb dX1_takeDigit_0 rfl (lv_at hl 0 rfl) ?_
    refine r_get hx hb hts hown hK hw (v_tx (by decide)) gs_atc E_tx inX1 rfl 3 (by decide) k_29 rfl rfl dX1_takeDigit_1 ?_
    refine lv_aload_n hx hb dX1_takeDigit_4 rfl (lv_at hl 0 rfl) ?_
    refine r_get hx hb hts hown hK hw (v_tx (by decide)) gs_atc E_tx inX1 rfl 2 (by decide) k_26 rfl rfl dX1_takeDigit_5 ?_
    refine lv_icmp_ge (tgt := 37) hx hb dX1_takeDigit_8 (by decide) (fun q1 => ?_) (fun q1 => ?_)
    · replace h := t_pos h q1
      refine lv_iconst (v := -1) hx hb dX1_takeDigit_37 (by decide) ?_
      have e1 := (t_ret h).1
      have e2 := (t_ret h).2
      exact e_i hx hb hr hlk hw hS e1 (by rw [e2]) dX1_takeDigit_38
    · replace h := t_neg h q1
      refine lv_aload_n hx hb dX1_takeDigit_11 rfl (lv_at hl 0 rfl) ?_
      refine r_get hx hb hts hown hK hw (v_tx (by decide)) gs_atc E_tx inX1 rfl 0 (by decide) k_23 rfl rfl dX1_takeDigit_12 ?_
      refine lv_aload_n hx hb dX1_takeDigit_15 rfl (lv_at hl 0 rfl) ?_
      refine r_get hx hb hts hown hK hw (v_tx (by decide)) gs_atc E_tx inX1 rfl 3 (by decide) k_29 rfl rfl dX1_takeDigit_16 ?_
      obtain ⟨q2, h⟩ := t_gd h
      refine r_cald hx hb hK hw (v_tx (by decide)) gs_atc E_tc q2 dX1_takeDigit_19 ?_
      refine lv_iload_n hx hb dX1_takeDigit_20 rfl (lv_at hl 1 rfl) ?_
      refine lv_icmp_lt (tgt := 37) hx hb dX1_takeDigit_21 (by decide) (fun q3 => ?_) (fun q3 => ?_)
      · replace h := t_pos h q3
        refine lv_iconst (v := -1) hx hb dX1_takeDigit_37 (by decide) ?_
        have e1 := (t_ret h).1
        have e2 := (t_ret h).2
        exact e_i hx hb hr hlk hw hS e1 (by rw [e2]) dX1_takeDigit_38
      · replace h := t_neg h q3
        refine lv_aload_n hx hb dX1_takeDigit_24 rfl (lv_at hl 0 rfl) ?_
        refine r_get hx hb hts hown hK hw (v_tx (by decide)) gs_atc E_tx inX1 rfl 0 (by decide) k_23 rfl rfl dX1_takeDigit_25 ?_
        refine lv_aload_n hx hb dX1_takeDigit_28 rfl (lv_at hl 0 rfl) ?_
        refine r_get hx hb hts hown hK hw (v_tx (by decide)) gs_atc E_tx inX1 rfl 3 (by decide) k_29 rfl rfl dX1_takeDigit_29 ?_
        obtain ⟨q4, h⟩ := t_gd h
        refine r_cald hx hb hK hw (v_tx (by decide)) gs_atc E_tc q4 dX1_takeDigit_32 ?_
        refine lv_iload_n hx hb dX1_takeDigit_33 rfl (lv_at hl 2 rfl) ?_
        refine lv_icmp_le (tgt := 39) hx hb dX1_takeDigit_34 (by decide) (fun q5 => ?_) (fun q5 => ?_)
        · replace h := t_pos h q5
          refine lv_aload_n hx hb dX1_takeDigit_39 rfl (lv_at hl 0 rfl) ?_
          refine r_get hx hb hts hown hK hw (v_tx (by decide)) gs_atc E_tx inX1 rfl 0 (by decide) k_23 rfl rfl dX1_takeDigit_40 ?_
          refine lv_aload_n hx hb dX1_takeDigit_43 rfl (lv_at hl 0 rfl) ?_
          refine r_get hx hb hts hown hK hw (v_tx (by decide)) gs_atc E_tx inX1 rfl 3 (by decide) k_29 rfl rfl dX1_takeDigit_44 ?_
          obtain ⟨q6, h⟩ := t_gd h
          refine r_cald hx hb hK hw (v_tx (by decide)) gs_atc E_tc q6 dX1_takeDigit_47 ?_
          refine lv_bipush (v := nI 48) hx hb dX1_takeDigit_48 (by decide) ?_
          refine lv_isub hx hb dX1_takeDigit_50 ?_
          refine lv_istore_n (lv' := [(3, .int ((m 1 (m 0 3).toNatClampNeg) - (nI 48))), (0, .ref (ad 7 0)), (1, .int p0), (2, .int p1)]) hx hb dX1_takeDigit_51 rfl hl (by decide) rfl (fun ls hl => ?_)
          refine lv_aload_n hx hb dX1_takeDigit_52 rfl (lv_at hl 1 rfl) ?_
          refine lv_dup hx hb dX1_takeDigit_53 rfl ?_
          refine r_get hx hb hts hown hK hw (v_tx (by decide)) gs_atc E_tx inX1 rfl 3 (by decide) k_29 rfl rfl dX1_takeDigit_54 ?_
          refine lv_iconst (v := nI 1) hx hb dX1_takeDigit_57 (by decide) ?_
          refine lv_iadd hx hb dX1_takeDigit_58 ?_
          obtain ⟨m8, e7, h⟩ := t_lt h
          refine r_put hx hb hts hown hK hcv hw hS (v_tx (by decide)) gs_atc E_tx inX1 rfl tyX1 tyX1_ok nmX1 3 (by decide) k_29 rfl rfl rfl rfl (Nat.le_of_ble_eq_true rfl) E_tx (gs_up e7) dX1_takeDigit_59 (fun H locs hw hS => ?_)
          refine lv_iload_n hx hb dX1_takeDigit_62 rfl (lv_at hl 0 rfl) ?_
          have e1 := (t_ret h).1
          have e2 := (t_ret h).2
          exact e_i hx hb hr hlk hw hS e1 (by rw [e2]) dX1_takeDigit_63
        · replace h := t_neg h q5
          refine lv_iconst (v := -1) hx hb dX1_takeDigit_37 (by decide) ?_
          have e1 := (t_ret h).1
          have e2 := (t_ret h).2
          exact e_i hx hb hr hlk hw hS e1 (by rw [e2]) dX1_takeDigit_38
  exact main _ _ hw hS ls hl

theorem cf_X1_takeSign : cfV RX1 yX1_takeSign cX1_takeSign 2 (some .boolean) 1 := ⟨⟨k_449, k_450, k_2, k_451⟩, by decide +kernel⟩
def f_X1_takeSign (m : SM) (p0 : Int32) : Option (Int32 × SM) :=
  (if (m 0 2) ≤ (m 0 3) then some ((nI 0), m) else gd (m 0 3) 80 ((if (m 1 (m 0 3).toNatClampNeg) = p0 then lt1 (up m 0 3 ((m 0 3) + (nI 1))) fun m5 => some ((nI 1), m5) else some ((nI 0), m))))
set_option maxHeartbeats 4000000 in
set_option maxRecDepth 100000 in
theorem c_X1_takeSign {l : Launch} {D : va_G} {cy : Nat → ClassId} {ad : Nat → Nat → Nat} (hcv : CV ad) {M0 : MM} {m : SM} (hm : M0 7 = m) {p0 : Int32} {r : Int32} {x : SM} (h : f_X1_takeSign m p0 = some (r, x)) : Met l yX1_takeSign (.code yX1_takeSign cX1_takeSign 2 (some .boolean) :: TB) ({ frames := 0, cells := 0, slots := 0, locals := 0 } : Room) (PW D cy ad M0 [.ref (ad 7 0), .int p0]) (QI D cy ad r (gs M0 7 x)) 0 0 (AD ad) := by
  refine m_in (by decide +kernel) (Nat.le_of_ble_eq_true rfl) ?_
  intro p e s md args below meth c hC hw hS ls hl
  obtain ⟨hx, hb, hr, hml, hown, hts, hK, hlk⟩ := hC
  have hl : lv_has ls 2 [(0, .ref (ad 7 0)), (1, .int p0)] := hl
  rw [← gs_same hm] at hw
  unfold f_X1_takeSign at h
  have main : JL p l e ({ frames := 0, cells := 0, slots := 0, locals := 0 } : Room) s md args below meth c D cy ad (MQ below (QI D cy ad r (gs M0 7 x)) args s 0 0 (AD ad)) (gs M0 7 m) 2 [(0, .ref (ad 7 0)), (1, .int p0)] 0 [] := by
    intro H locs hw hS ls hl
    refine lv_aload_n hx hb dX1_takeSign_0 rfl (lv_at hl 0 rfl) ?_
    refine r_get hx hb hts hown hK hw (v_tx (by decide)) gs_atc E_tx inX1 rfl 3 (by decide) k_29 rfl rfl dX1_takeSign_1 ?_
    refine lv_aload_n hx hb dX1_takeSign_4 rfl (lv_at hl 0 rfl) ?_
    refine r_get hx hb hts hown hK hw (v_tx (by decide)) gs_atc E_tx inX1 rfl 2 (by decide) k_26 rfl rfl dX1_takeSign_5 ?_
    refine lv_icmp_ge (tgt := 24) hx hb dX1_takeSign_8 (by decide) (fun q1 => ?_) (fun q1 => ?_)
    · replace h := t_pos h q1
      refine lv_iconst (v := nI 0) hx hb dX1_takeSign_24 (by decide) ?_
      have e1 := (t_ret h).1
      have e2 := (t_ret h).2
      exact e_z hx hb hr hlk (Or.inl rfl) hw hS e1 (by rw [e2]) dX1_takeSign_25
    · replace h := t_neg h q1
      refine lv_aload_n hx hb dX1_takeSign_11 rfl (lv_at hl 0 rfl) ?_
      refine r_get hx hb hts hown hK hw (v_tx (by decide)) gs_atc E_tx inX1 rfl 0 (by decide) k_23 rfl rfl dX1_takeSign_12 ?_
      refine lv_aload_n hx hb dX1_takeSign_15 rfl (lv_at hl 0 rfl) ?_
      refine r_get hx hb hts hown hK hw (v_tx (by decide)) gs_atc E_tx inX1 rfl 3 (by decide) k_29 rfl rfl dX1_takeSign_16 ?_
      obtain ⟨q2, h⟩ := t_gd h
      refine r_cald hx hb hK hw (v_tx (by decide)) gs_atc E_tc q2 dX1_takeSign_19 ?_
      refine lv_iload_n hx hb dX1_takeSign_20 rfl (lv_at hl 1 rfl) ?_
      refine lv_icmp_eq (tgt := 26) hx hb dX1_takeSign_21 (by decide) (fun q3 => ?_) (fun q3 => ?_)
      · replace h := t_pos h q3
        refine lv_aload_n hx hb dX1_takeSign_26 rfl (lv_at hl 0 rfl) ?_
        refine lv_dup hx hb dX1_takeSign_27 rfl ?_
        refine r_get hx hb hts hown hK hw (v_tx (by decide)) gs_atc E_tx inX1 rfl 3 (by decide) k_29 rfl rfl dX1_takeSign_28 ?_
        refine lv_iconst (v := nI 1) hx hb dX1_takeSign_31 (by decide) ?_
        refine lv_iadd hx hb dX1_takeSign_32 ?_
        obtain ⟨m5, e4, h⟩ := t_lt h
        refine r_put hx hb hts hown hK hcv hw hS (v_tx (by decide)) gs_atc E_tx inX1 rfl tyX1 tyX1_ok nmX1 3 (by decide) k_29 rfl rfl rfl rfl (Nat.le_of_ble_eq_true rfl) E_tx (gs_up e4) dX1_takeSign_33 (fun H locs hw hS => ?_)
        refine lv_iconst (v := nI 1) hx hb dX1_takeSign_36 (by decide) ?_
        have e1 := (t_ret h).1
        have e2 := (t_ret h).2
        exact e_z hx hb hr hlk (Or.inr rfl) hw hS e1 (by rw [e2]) dX1_takeSign_37
      · replace h := t_neg h q3
        refine lv_iconst (v := nI 0) hx hb dX1_takeSign_24 (by decide) ?_
        have e1 := (t_ret h).1
        have e2 := (t_ret h).2
        exact e_z hx hb hr hlk (Or.inl rfl) hw hS e1 (by rw [e2]) dX1_takeSign_25
  exact main _ _ hw hS ls hl

theorem cf_X1_takeNumber : cfV RX1 yX1_takeNumber cX1_takeNumber 4 (some .int) 0 := ⟨⟨k_453, k_454, k_2, k_455⟩, by decide +kernel⟩
def f_X1_takeNumber_L11 : Nat → SM → Int32 → Int32 → Option (Int32 × SM)
  | 0, _, _, _ => none
  | n + 1, m, x1, x2 => (if (nI 3) ≤ x2 then some (x1, m) else (if x1 ≤ (nI 0) then some (x1, m) else bd (f_X1_takeDigit m (nI 48) (nI 57)) fun r4 m5 => (if (nI 0) ≤ r4 then f_X1_takeNumber_L11 n m5 (((nI 10) * x1) + r4) (x2 + (nI 1)) else some (x1, m5))))
def f_X1_takeNumber (m : SM) : Option (Int32 × SM) :=
  bd (f_X1_takeDigit m (nI 48) (nI 57)) fun r2 m3 => f_X1_takeNumber_L11 FU m3 r2 (nI 1)
set_option maxHeartbeats 4000000 in
set_option maxRecDepth 100000 in
theorem c_X1_takeNumber {l : Launch} {D : va_G} {cy : Nat → ClassId} {ad : Nat → Nat → Nat} (hcv : CV ad) {M0 : MM} {m : SM} (hm : M0 7 = m) {r : Int32} {x : SM} (h : f_X1_takeNumber m = some (r, x)) : Met l yX1_takeNumber (.code yX1_takeNumber cX1_takeNumber 4 (some .int) :: TB) ({ frames := 1, cells := 0, slots := 0, locals := 23 } : Room) (PW D cy ad M0 [.ref (ad 7 0)]) (QI D cy ad r (gs M0 7 x)) 0 0 (AD ad) := by
  refine m_in (by decide +kernel) (Nat.le_of_ble_eq_true rfl) ?_
  intro p e s md args below meth c hC hw hS ls hl
  obtain ⟨hx, hb, hr, hml, hown, hts, hK, hlk⟩ := hC
  have hl : lv_has ls 4 [(0, .ref (ad 7 0))] := hl
  rw [← gs_same hm] at hw
  have L11 : ∀ (n : Nat), ∀ (m : SM) (x1 : Int32) (x2 : Int32), f_X1_takeNumber_L11 n m x1 x2 = some (r, x) → JL p l e ({ frames := 1, cells := 0, slots := 0, locals := 23 } : Room) s md args below meth c D cy ad (MQ below (QI D cy ad r (gs M0 7 x)) args s 0 0 (AD ad)) (gs M0 7 m) 4 [(0, .ref (ad 7 0)), (1, .int x1), (2, .int x2)] 11 [] := by
    intro n
    induction n with
    | zero =>
      intro m x1 x2 h
      cases h
    | succ n ih =>
      intro m x1 x2 h H locs hw hS ls hl
      rw [f_X1_takeNumber_L11.eq_2] at h
      refine lv_iload_n hx hb dX1_takeNumber_11 rfl (lv_at hl 2 rfl) ?_
      refine lv_iconst (v := nI 3) hx hb dX1_takeNumber_12 (by decide) ?_
      refine lv_icmp_ge (tgt := 48) hx hb dX1_takeNumber_13 (by decide) (fun q1 => ?_) (fun q1 => ?_)
      · replace h := t_pos h q1
        refine lv_iload_n hx hb dX1_takeNumber_48 rfl (lv_at hl 1 rfl) ?_
        have e1 := (t_ret h).1
        have e2 := (t_ret h).2
        exact e_i hx hb hr hlk hw hS e1 (by rw [e2]) dX1_takeNumber_49
      · replace h := t_neg h q1
        refine lv_iload_n hx hb dX1_takeNumber_16 rfl (lv_at hl 1 rfl) ?_
        refine lv_if_le (tgt := 48) hx hb dX1_takeNumber_17 (by decide) (fun q2 => ?_) (fun q2 => ?_)
        · replace h := t_pos h q2
          refine lv_iload_n hx hb dX1_takeNumber_48 rfl (lv_at hl 1 rfl) ?_
          have e1 := (t_ret h).1
          have e2 := (t_ret h).2
          exact e_i hx hb hr hlk hw hS e1 (by rw [e2]) dX1_takeNumber_49
        · replace h := t_neg h q2
          refine lv_aload_n hx hb dX1_takeNumber_20 rfl (lv_at hl 0 rfl) ?_
          refine lv_bipush (v := nI 48) hx hb dX1_takeNumber_21 (by decide) ?_
          refine lv_bipush (v := nI 57) hx hb dX1_takeNumber_23 (by decide) ?_
          obtain ⟨r4, m5, y3, h⟩ := t_bd h
          refine c_vi hx hb hml hown hts hK hw hS (fun _ h => h) (As := [.int (nI 48), .int (nI 57)]) (rest := []) (c_X1_takeDigit hcv (M0 := gs M0 7 m) (m := m) (hm := gs_at) y3) cf_X1_takeDigit k_444 rfl rfl ⟨Nat.le_of_ble_eq_true rfl, Nat.le_of_ble_eq_true rfl⟩ (r_recv hK hw (v_tx (by decide)) E_tx rfl) rfl hl.1 rfl (Nat.le_of_ble_eq_true rfl) ⟨Nat.le_refl _, Nat.le_refl _⟩ dX1_takeNumber_25 (fun H locs hw hS => ?_)
          rw [gs_gs] at hw
          refine lv_istore_n (lv' := [(3, .int r4), (0, .ref (ad 7 0)), (1, .int x1), (2, .int x2)]) hx hb dX1_takeNumber_28 rfl hl (by decide) rfl (fun ls hl => ?_)
          refine lv_iload_n hx hb dX1_takeNumber_29 rfl (lv_at hl 0 rfl) ?_
          refine lv_if_ge (tgt := 35) hx hb dX1_takeNumber_30 (by decide) (fun q6 => ?_) (fun q6 => ?_)
          · replace h := t_pos h q6
            refine lv_bipush (v := nI 10) hx hb dX1_takeNumber_35 (by decide) ?_
            refine lv_iload_n hx hb dX1_takeNumber_37 rfl (lv_at hl 2 rfl) ?_
            refine lv_imul hx hb dX1_takeNumber_38 ?_
            refine lv_iload_n hx hb dX1_takeNumber_39 rfl (lv_at hl 0 rfl) ?_
            refine lv_iadd hx hb dX1_takeNumber_40 ?_
            refine lv_istore_n (lv' := [(1, .int (((nI 10) * x1) + r4)), (3, .int r4), (0, .ref (ad 7 0)), (2, .int x2)]) hx hb dX1_takeNumber_41 rfl hl (by decide) rfl (fun ls hl => ?_)
            refine lv_iinc (v := (x2 + (nI 1))) (lv' := [(2, .int (x2 + (nI 1))), (1, .int (((nI 10) * x1) + r4)), (3, .int r4), (0, .ref (ad 7 0))]) hx hb dX1_takeNumber_42 hl (k := 3) rfl rfl (by decide) rfl (fun ls hl => ?_)
            refine lv_goto (tgt := 11) hx hb dX1_takeNumber_45 (by decide) ?_
            exact ih m5 (((nI 10) * x1) + r4) (x2 + (nI 1)) h H locs hw hS ls (lv_sub hl [3, 1, 0] rfl)
          · replace h := t_neg h q6
            refine lv_iload_n hx hb dX1_takeNumber_33 rfl (lv_at hl 2 rfl) ?_
            have e1 := (t_ret h).1
            have e2 := (t_ret h).2
            exact e_i hx hb hr hlk hw hS e1 (by rw [e2]) dX1_takeNumber_34
  unfold f_X1_takeNumber at h
  have main : JL p l e ({ frames := 1, cells := 0, slots := 0, locals := 23 } : Room) s md args below meth c D cy ad (MQ below (QI D cy ad r (gs M0 7 x)) args s 0 0 (AD ad)) (gs M0 7 m) 4 [(0, .ref (ad 7 0))] 0 [] := by
    intro H locs hw hS ls hl
    refine lv_aload_n hx hb dX1_takeNumber_0 rfl (lv_at hl 0 rfl) ?_
    refine lv_bipush (v := nI 48) hx hb dX1_takeNumber_1 (by decide) ?_
    refine lv_bipush (v := nI 57) hx hb dX1_takeNumber_3 (by decide) ?_
    obtain ⟨r2, m3, y1, h⟩ := t_bd h
    refine c_vi hx hb hml hown hts hK hw hS (fun _ h => h) (As := [.int (nI 48), .int (nI 57)]) (rest := []) (c_X1_takeDigit hcv (M0 := gs M0 7 m) (m := m) (hm := gs_at) y1) cf_X1_takeDigit k_444 rfl rfl ⟨Nat.le_of_ble_eq_true rfl, Nat.le_of_ble_eq_true rfl⟩ (r_recv hK hw (v_tx (by decide)) E_tx rfl) rfl hl.1 rfl (Nat.le_of_ble_eq_true rfl) ⟨Nat.le_refl _, Nat.le_refl _⟩ dX1_takeNumber_5 (fun H locs hw hS => ?_)
    rw [gs_gs] at hw
    refine lv_istore_n (lv' := [(1, .int r2), (0, .ref (ad 7 0))]) hx hb dX1_takeNumber_8 rfl hl (by decide) rfl (fun ls hl => ?_)
    refine lv_iconst (v := nI 1) hx hb dX1_takeNumber_9 (by decide) ?_
    refine lv_istore_n (lv' := [(2, .int (nI 1)), (1, .int r2), (0, .ref (ad 7 0))]) hx hb dX1_takeNumber_10 rfl hl (by decide) rfl (fun ls hl => ?_)
    exact L11 FU m3 r2 (nI 1) h H locs hw hS ls (lv_sub hl [2, 1, 0] rfl)
  exact main _ _ hw hS ls hl

theorem cf_X1_takeValues : cfV RX1 yX1_takeValues cX1_takeValues 3 (some .boolean) 0 := ⟨⟨k_457, k_458, k_2, k_459⟩, by decide +kernel⟩
def f_X1_takeValues_L28 (k7 : SM → Int32 → Option (Int32 × SM)) (m : SM) (x1 : Int32) : Option (Int32 × SM) :=
  bd (f_X1_takeNumber m) fun r2 m3 => (if (nI 0) ≤ r2 then gd x1 16 (lt1 (up m3 2 x1.toNatClampNeg r2) fun m7 => lt1 (up m7 0 7 ((m7 0 7) + (nI 1))) fun m9 => (if (m9 0 3) < (m9 0 2) then k7 m9 (x1 + (nI 1)) else some ((nI 1), m9))) else some ((nI 0), m3))
def f_X1_takeValues_L7 : Nat → SM → Int32 → Option (Int32 × SM)
  | 0, _, _ => none
  | n + 1, m, x1 => (if (nI 16) ≤ x1 then some ((nI 0), m) else (if x1 ≤ (nI 0) then f_X1_takeValues_L28 (f_X1_takeValues_L7 n) m x1 else bd (f_X1_takeSign m (nI 44)) fun r4 m5 => (if r4 = (nI 0) then some ((nI 0), m5) else f_X1_takeValues_L28 (f_X1_takeValues_L7 n) m5 x1)))
def f_X1_takeValues (m : SM) : Option (Int32 × SM) :=
  lt1 (up m 0 7 (nI 0)) fun m2 => f_X1_takeValues_L7 FU m2 (nI 0)
set_option maxHeartbeats 4000000 in
set_option maxRecDepth 100000 in
theorem c_X1_takeValues {l : Launch} {D : va_G} {cy : Nat → ClassId} {ad : Nat → Nat → Nat} (hcv : CV ad) {M0 : MM} {m : SM} (hm : M0 7 = m) {r : Int32} {x : SM} (h : f_X1_takeValues m = some (r, x)) : Met l yX1_takeValues (.code yX1_takeValues cX1_takeValues 3 (some .boolean) :: TB) ({ frames := 2, cells := 0, slots := 0, locals := 46 } : Room) (PW D cy ad M0 [.ref (ad 7 0)]) (QI D cy ad r (gs M0 7 x)) 0 0 (AD ad) := by
  refine m_in (by decide +kernel) (Nat.le_of_ble_eq_true rfl) ?_
  intro p e s md args below meth c hC hw hS ls hl
  obtain ⟨hx, hb, hr, hml, hown, hts, hK, hlk⟩ := hC
  have hl : lv_has ls 3 [(0, .ref (ad 7 0))] := hl
  rw [← gs_same hm] at hw
  have L28 : ∀ (k7 : SM → Int32 → Option (Int32 × SM)) (hk7 : ∀ (m : SM) (x1 : Int32), k7 m x1 = some (r, x) → JL p l e ({ frames := 2, cells := 0, slots := 0, locals := 46 } : Room) s md args below meth c D cy ad (MQ below (QI D cy ad r (gs M0 7 x)) args s 0 0 (AD ad)) (gs M0 7 m) 3 [(0, .ref (ad 7 0)), (1, .int x1)] 7 []), ∀ (m : SM) (x1 : Int32), f_X1_takeValues_L28 k7 m x1 = some (r, x) → JL p l e ({ frames := 2, cells := 0, slots := 0, locals := 46 } : Room) s md args below meth c D cy ad (MQ below (QI D cy ad r (gs M0 7 x)) args s 0 0 (AD ad)) (gs M0 7 m) 3 [(0, .ref (ad 7 0)), (1, .int x1)] 28 [] := by
    intro k7 hk7 m x1 h H locs hw hS ls hl
    unfold f_X1_takeValues_L28 at h
    refine lv_aload_n hx hb dX1_takeValues_28 rfl (lv_at hl 0 rfl) ?_
    obtain ⟨r2, m3, y1, h⟩ := t_bd h
    refine c_vi hx hb hml hown hts hK hw hS (fun _ h => h) (As := []) (rest := []) (c_X1_takeNumber hcv (M0 := gs M0 7 m) (m := m) (hm := gs_at) y1) cf_X1_takeNumber k_452 rfl rfl ⟨Nat.le_of_ble_eq_true rfl, Nat.le_of_ble_eq_true rfl⟩ (r_recv hK hw (v_tx (by decide)) E_tx rfl) rfl hl.1 rfl (Nat.le_of_ble_eq_true rfl) ⟨Nat.le_refl _, Nat.le_refl _⟩ dX1_takeValues_29 (fun H locs hw hS => ?_)
    rw [gs_gs] at hw
    refine lv_istore_n (lv' := [(2, .int r2), (0, .ref (ad 7 0)), (1, .int x1)]) hx hb dX1_takeValues_32 rfl hl (by decide) rfl (fun ls hl => ?_)
    refine lv_iload_n hx hb dX1_takeValues_33 rfl (lv_at hl 0 rfl) ?_
    refine lv_if_ge (tgt := 39) hx hb dX1_takeValues_34 (by decide) (fun q4 => ?_) (fun q4 => ?_)
    · replace h := t_pos h q4
      refine lv_aload_n hx hb dX1_takeValues_39 rfl (lv_at hl 1 rfl) ?_
      refine r_get hx hb hts hown hK hw (v_tx (by decide)) gs_atc E_tx inX1 rfl 1 (by decide) k_24 rfl rfl dX1_takeValues_40 ?_
      refine lv_iload_n hx hb dX1_takeValues_43 rfl (lv_at hl 2 rfl) ?_
      refine lv_iload_n hx hb dX1_takeValues_44 rfl (lv_at hl 0 rfl) ?_
      obtain ⟨q5, h⟩ := t_gd h
      obtain ⟨m7, e6, h⟩ := t_lt h
      refine r_iast hx hb hK hcv hw hS (v_tx (by decide)) gs_atc (fun _ => E_tv) q5 (gs_up e6) dX1_takeValues_45 (fun H locs hw hS => ?_)
      refine lv_aload_n hx hb dX1_takeValues_46 rfl (lv_at hl 1 rfl) ?_
      refine lv_dup hx hb dX1_takeValues_47 rfl ?_
      refine r_get hx hb hts hown hK hw (v_tx (by decide)) gs_atc E_tx inX1 rfl 7 (by decide) k_37 rfl rfl dX1_takeValues_48 ?_
      refine lv_iconst (v := nI 1) hx hb dX1_takeValues_51 (by decide) ?_
      refine lv_iadd hx hb dX1_takeValues_52 ?_
      obtain ⟨m9, e8, h⟩ := t_lt h
      refine r_put hx hb hts hown hK hcv hw hS (v_tx (by decide)) gs_atc E_tx inX1 rfl tyX1 tyX1_ok nmX1 7 (by decide) k_37 rfl rfl rfl rfl (Nat.le_of_ble_eq_true rfl) E_tx (gs_up e8) dX1_takeValues_53 (fun H locs hw hS => ?_)
      refine lv_aload_n hx hb dX1_takeValues_56 rfl (lv_at hl 1 rfl) ?_
      refine r_get hx hb hts hown hK hw (v_tx (by decide)) gs_atc E_tx inX1 rfl 3 (by decide) k_29 rfl rfl dX1_takeValues_57 ?_
      refine lv_aload_n hx hb dX1_takeValues_60 rfl (lv_at hl 1 rfl) ?_
      refine r_get hx hb hts hown hK hw (v_tx (by decide)) gs_atc E_tx inX1 rfl 2 (by decide) k_26 rfl rfl dX1_takeValues_61 ?_
      refine lv_icmp_lt (tgt := 69) hx hb dX1_takeValues_64 (by decide) (fun q10 => ?_) (fun q10 => ?_)
      · replace h := t_pos h q10
        refine lv_iinc (v := (x1 + (nI 1))) (lv' := [(1, .int (x1 + (nI 1))), (2, .int r2), (0, .ref (ad 7 0))]) hx hb dX1_takeValues_69 hl (k := 2) rfl rfl (by decide) rfl (fun ls hl => ?_)
        refine lv_goto (tgt := 7) hx hb dX1_takeValues_72 (by decide) ?_
        exact hk7 m9 (x1 + (nI 1)) h H locs hw hS ls (lv_sub hl [2, 0] rfl)
      · replace h := t_neg h q10
        refine lv_iconst (v := nI 1) hx hb dX1_takeValues_67 (by decide) ?_
        have e1 := (t_ret h).1
        have e2 := (t_ret h).2
        exact e_z hx hb hr hlk (Or.inr rfl) hw hS e1 (by rw [e2]) dX1_takeValues_68
    · replace h := t_neg h q4
      refine lv_iconst (v := nI 0) hx hb dX1_takeValues_37 (by decide) ?_
      have e1 := (t_ret h).1
      have e2 := (t_ret h).2
      exact e_z hx hb hr hlk (Or.inl rfl) hw hS e1 (by rw [e2]) dX1_takeValues_38
  have L7 : ∀ (n : Nat), ∀ (m : SM) (x1 : Int32), f_X1_takeValues_L7 n m x1 = some (r, x) → JL p l e ({ frames := 2, cells := 0, slots := 0, locals := 46 } : Room) s md args below meth c D cy ad (MQ below (QI D cy ad r (gs M0 7 x)) args s 0 0 (AD ad)) (gs M0 7 m) 3 [(0, .ref (ad 7 0)), (1, .int x1)] 7 [] := by
    intro n
    induction n with
    | zero =>
      intro m x1 h
      cases h
    | succ n ih =>
      intro m x1 h H locs hw hS ls hl
      rw [f_X1_takeValues_L7.eq_2] at h
      refine lv_iload_n hx hb dX1_takeValues_7 rfl (lv_at hl 1 rfl) ?_
      refine lv_bipush (v := nI 16) hx hb dX1_takeValues_8 (by decide) ?_
      refine lv_icmp_ge (tgt := 75) hx hb dX1_takeValues_10 (by decide) (fun q1 => ?_) (fun q1 => ?_)
      · replace h := t_pos h q1
        refine lv_iconst (v := nI 0) hx hb dX1_takeValues_75 (by decide) ?_
        have e1 := (t_ret h).1
        have e2 := (t_ret h).2
        exact e_z hx hb hr hlk (Or.inl rfl) hw hS e1 (by rw [e2]) dX1_takeValues_76
      · replace h := t_neg h q1
        refine lv_iload_n hx hb dX1_takeValues_13 rfl (lv_at hl 1 rfl) ?_
        refine lv_if_le (tgt := 28) hx hb dX1_takeValues_14 (by decide) (fun q2 => ?_) (fun q2 => ?_)
        · replace h := t_pos h q2
          exact L28 (f_X1_takeValues_L7 n) ih m x1 h H locs hw hS ls (lv_sub hl [0, 1] rfl)
        · replace h := t_neg h q2
          refine lv_aload_n hx hb dX1_takeValues_17 rfl (lv_at hl 0 rfl) ?_
          refine lv_bipush (v := nI 44) hx hb dX1_takeValues_18 (by decide) ?_
          obtain ⟨r4, m5, y3, h⟩ := t_bd h
          refine c_vi hx hb hml hown hts hK hw hS (fun _ h => h) (As := [.int (nI 44)]) (rest := []) (c_X1_takeSign hcv (M0 := gs M0 7 m) (m := m) (hm := gs_at) y3) cf_X1_takeSign k_448 rfl rfl ⟨Nat.le_of_ble_eq_true rfl, Nat.le_of_ble_eq_true rfl⟩ (r_recv hK hw (v_tx (by decide)) E_tx rfl) rfl hl.1 rfl (Nat.le_of_ble_eq_true rfl) ⟨Nat.le_refl _, Nat.le_refl _⟩ dX1_takeValues_20 (fun H locs hw hS => ?_)
          rw [gs_gs] at hw
          refine lv_if_ne (tgt := 28) hx hb dX1_takeValues_23 (by decide) (fun q6 => ?_) (fun q6 => ?_)
          · replace h := t_neg h q6
            exact L28 (f_X1_takeValues_L7 n) ih m5 x1 h H locs hw hS ls (lv_sub hl [0, 1] rfl)
          · replace h := t_pos h q6
            refine lv_iconst (v := nI 0) hx hb dX1_takeValues_26 (by decide) ?_
            have e1 := (t_ret h).1
            have e2 := (t_ret h).2
            exact e_z hx hb hr hlk (Or.inl rfl) hw hS e1 (by rw [e2]) dX1_takeValues_27
  unfold f_X1_takeValues at h
  have main : JL p l e ({ frames := 2, cells := 0, slots := 0, locals := 46 } : Room) s md args below meth c D cy ad (MQ below (QI D cy ad r (gs M0 7 x)) args s 0 0 (AD ad)) (gs M0 7 m) 3 [(0, .ref (ad 7 0))] 0 [] := by
    intro H locs hw hS ls hl
    refine lv_aload_n hx hb dX1_takeValues_0 rfl (lv_at hl 0 rfl) ?_
    refine lv_iconst (v := nI 0) hx hb dX1_takeValues_1 (by decide) ?_
    obtain ⟨m2, e1, h⟩ := t_lt h
    refine r_put hx hb hts hown hK hcv hw hS (v_tx (by decide)) gs_atc E_tx inX1 rfl tyX1 tyX1_ok nmX1 7 (by decide) k_37 rfl rfl rfl rfl (Nat.le_of_ble_eq_true rfl) E_tx (gs_up e1) dX1_takeValues_2 (fun H locs hw hS => ?_)
    refine lv_iconst (v := nI 0) hx hb dX1_takeValues_5 (by decide) ?_
    refine lv_istore_n (lv' := [(1, .int (nI 0)), (0, .ref (ad 7 0))]) hx hb dX1_takeValues_6 rfl hl (by decide) rfl (fun ls hl => ?_)
    exact L7 FU m2 (nI 0) h H locs hw hS ls (lv_sub hl [1, 0] rfl)
  exact main _ _ hw hS ls hl

theorem cf_X1_parse : cfV RX1 yX1_parse cX1_parse 1 (some .boolean) 0 := ⟨⟨k_441, k_442, k_2, k_443⟩, by decide +kernel⟩
def f_X1_parse (m : SM) : Option (Int32 × SM) :=
  lt1 (up m 0 3 (nI 0)) fun m2 => bd (f_X1_takeDigit m2 (nI 48) (nI 51)) fun r4 m5 => lt1 (up m5 0 4 r4) fun m7 => (if (m7 0 4) < (nI 0) then some ((nI 0), m7) else bd (f_X1_takeSign m7 (nI 58)) fun r10 m11 => (if r10 = (nI 0) then some ((nI 0), m11) else bd (f_X1_takeNumber m11) fun r14 m15 => lt1 (up m15 0 5 r14) fun m17 => (if (m17 0 5) < (nI 0) then some ((nI 0), m17) else bd (f_X1_takeSign m17 (nI 45)) fun r20 m21 => (if r20 = (nI 0) then some ((nI 0), m21) else bd (f_X1_takeNumber m21) fun r24 m25 => lt1 (up m25 0 6 r24) fun m27 => (if (m27 0 6) < (nI 0) then some ((nI 0), m27) else bd (f_X1_takeSign m27 (nI 61)) fun r30 m31 => (if r30 = (nI 0) then some ((nI 0), m31) else bd (f_X1_takeValues m31) fun r34 m35 => gz r34 (some (r34, m35))))))))
set_option maxHeartbeats 4000000 in
set_option maxRecDepth 100000 in
theorem c_X1_parse {l : Launch} {D : va_G} {cy : Nat → ClassId} {ad : Nat → Nat → Nat} (hcv : CV ad) {M0 : MM} {m : SM} (hm : M0 7 = m) {r : Int32} {x : SM} (h : f_X1_parse m = some (r, x)) : Met l yX1_parse (.code yX1_parse cX1_parse 1 (some .boolean) :: TB) ({ frames := 3, cells := 0, slots := 0, locals := 68 } : Room) (PW D cy ad M0 [.ref (ad 7 0)]) (QI D cy ad r (gs M0 7 x)) 0 0 (AD ad) := by
  refine m_in (by decide +kernel) (Nat.le_of_ble_eq_true rfl) ?_
  intro p e s md args below meth c hC hw hS ls hl
  obtain ⟨hx, hb, hr, hml, hown, hts, hK, hlk⟩ := hC
  have hl : lv_has ls 1 [(0, .ref (ad 7 0))] := hl
  rw [← gs_same hm] at hw
  unfold f_X1_parse at h
  have main : JL p l e ({ frames := 3, cells := 0, slots := 0, locals := 68 } : Room) s md args below meth c D cy ad (MQ below (QI D cy ad r (gs M0 7 x)) args s 0 0 (AD ad)) (gs M0 7 m) 1 [(0, .ref (ad 7 0))] 0 [] := by
    intro H locs hw hS ls hl
    refine lv_aload_n hx hb dX1_parse_0 rfl (lv_at hl 0 rfl) ?_
    refine lv_iconst (v := nI 0) hx hb dX1_parse_1 (by decide) ?_
    obtain ⟨m2, e1, h⟩ := t_lt h
    refine r_put hx hb hts hown hK hcv hw hS (v_tx (by decide)) gs_atc E_tx inX1 rfl tyX1 tyX1_ok nmX1 3 (by decide) k_29 rfl rfl rfl rfl (Nat.le_of_ble_eq_true rfl) E_tx (gs_up e1) dX1_parse_2 (fun H locs hw hS => ?_)
    refine lv_aload_n hx hb dX1_parse_5 rfl (lv_at hl 0 rfl) ?_
    refine lv_aload_n hx hb dX1_parse_6 rfl (lv_at hl 0 rfl) ?_
    refine lv_bipush (v := nI 48) hx hb dX1_parse_7 (by decide) ?_
    refine lv_bipush (v := nI 51) hx hb dX1_parse_9 (by decide) ?_
    obtain ⟨r4, m5, y3, h⟩ := t_bd h
    refine c_vi hx hb hml hown hts hK hw hS (fun _ h => h) (As := [.int (nI 48), .int (nI 51)]) (rest := [.ref (ad 7 0)]) (c_X1_takeDigit hcv (M0 := gs M0 7 m2) (m := m2) (hm := gs_at) y3) cf_X1_takeDigit k_444 rfl rfl ⟨Nat.le_of_ble_eq_true rfl, Nat.le_of_ble_eq_true rfl⟩ (r_recv hK hw (v_tx (by decide)) E_tx rfl) rfl hl.1 rfl (Nat.le_of_ble_eq_true rfl) ⟨Nat.le_refl _, Nat.le_refl _⟩ dX1_parse_11 (fun H locs hw hS => ?_)
    rw [gs_gs] at hw
    obtain ⟨m7, e6, h⟩ := t_lt h
    refine r_put hx hb hts hown hK hcv hw hS (v_tx (by decide)) gs_atc E_tx inX1 rfl tyX1 tyX1_ok nmX1 4 (by decide) k_30 rfl rfl rfl rfl (Nat.le_of_ble_eq_true rfl) E_tx (gs_up e6) dX1_parse_14 (fun H locs hw hS => ?_)
    refine lv_aload_n hx hb dX1_parse_17 rfl (lv_at hl 0 rfl) ?_
    refine r_get hx hb hts hown hK hw (v_tx (by decide)) gs_atc E_tx inX1 rfl 4 (by decide) k_30 rfl rfl dX1_parse_18 ?_
    refine lv_if_lt (tgt := 33) hx hb dX1_parse_21 (by decide) (fun q8 => ?_) (fun q8 => ?_)
    · replace h := t_pos h q8
      refine lv_iconst (v := nI 0) hx hb dX1_parse_33 (by decide) ?_
      have e1 := (t_ret h).1
      have e2 := (t_ret h).2
      exact e_z hx hb hr hlk (Or.inl rfl) hw hS e1 (by rw [e2]) dX1_parse_34
    · replace h := t_neg h q8
      refine lv_aload_n hx hb dX1_parse_24 rfl (lv_at hl 0 rfl) ?_
      refine lv_bipush (v := nI 58) hx hb dX1_parse_25 (by decide) ?_
      obtain ⟨r10, m11, y9, h⟩ := t_bd h
      refine c_vi hx hb hml hown hts hK hw hS (fun _ h => h) (As := [.int (nI 58)]) (rest := []) (c_X1_takeSign hcv (M0 := gs M0 7 m7) (m := m7) (hm := gs_at) y9) cf_X1_takeSign k_448 rfl rfl ⟨Nat.le_of_ble_eq_true rfl, Nat.le_of_ble_eq_true rfl⟩ (r_recv hK hw (v_tx (by decide)) E_tx rfl) rfl hl.1 rfl (Nat.le_of_ble_eq_true rfl) ⟨Nat.le_refl _, Nat.le_refl _⟩ dX1_parse_27 (fun H locs hw hS => ?_)
      rw [gs_gs] at hw
      refine lv_if_ne (tgt := 35) hx hb dX1_parse_30 (by decide) (fun q12 => ?_) (fun q12 => ?_)
      · replace h := t_neg h q12
        refine lv_aload_n hx hb dX1_parse_35 rfl (lv_at hl 0 rfl) ?_
        refine lv_aload_n hx hb dX1_parse_36 rfl (lv_at hl 0 rfl) ?_
        obtain ⟨r14, m15, y13, h⟩ := t_bd h
        refine c_vi hx hb hml hown hts hK hw hS (fun _ h => h) (As := []) (rest := [.ref (ad 7 0)]) (c_X1_takeNumber hcv (M0 := gs M0 7 m11) (m := m11) (hm := gs_at) y13) cf_X1_takeNumber k_452 rfl rfl ⟨Nat.le_of_ble_eq_true rfl, Nat.le_of_ble_eq_true rfl⟩ (r_recv hK hw (v_tx (by decide)) E_tx rfl) rfl hl.1 rfl (Nat.le_of_ble_eq_true rfl) ⟨Nat.le_refl _, Nat.le_refl _⟩ dX1_parse_37 (fun H locs hw hS => ?_)
        rw [gs_gs] at hw
        obtain ⟨m17, e16, h⟩ := t_lt h
        refine r_put hx hb hts hown hK hcv hw hS (v_tx (by decide)) gs_atc E_tx inX1 rfl tyX1 tyX1_ok nmX1 5 (by decide) k_33 rfl rfl rfl rfl (Nat.le_of_ble_eq_true rfl) E_tx (gs_up e16) dX1_parse_40 (fun H locs hw hS => ?_)
        refine lv_aload_n hx hb dX1_parse_43 rfl (lv_at hl 0 rfl) ?_
        refine r_get hx hb hts hown hK hw (v_tx (by decide)) gs_atc E_tx inX1 rfl 5 (by decide) k_33 rfl rfl dX1_parse_44 ?_
        refine lv_if_lt (tgt := 59) hx hb dX1_parse_47 (by decide) (fun q18 => ?_) (fun q18 => ?_)
        · replace h := t_pos h q18
          refine lv_iconst (v := nI 0) hx hb dX1_parse_59 (by decide) ?_
          have e1 := (t_ret h).1
          have e2 := (t_ret h).2
          exact e_z hx hb hr hlk (Or.inl rfl) hw hS e1 (by rw [e2]) dX1_parse_60
        · replace h := t_neg h q18
          refine lv_aload_n hx hb dX1_parse_50 rfl (lv_at hl 0 rfl) ?_
          refine lv_bipush (v := nI 45) hx hb dX1_parse_51 (by decide) ?_
          obtain ⟨r20, m21, y19, h⟩ := t_bd h
          refine c_vi hx hb hml hown hts hK hw hS (fun _ h => h) (As := [.int (nI 45)]) (rest := []) (c_X1_takeSign hcv (M0 := gs M0 7 m17) (m := m17) (hm := gs_at) y19) cf_X1_takeSign k_448 rfl rfl ⟨Nat.le_of_ble_eq_true rfl, Nat.le_of_ble_eq_true rfl⟩ (r_recv hK hw (v_tx (by decide)) E_tx rfl) rfl hl.1 rfl (Nat.le_of_ble_eq_true rfl) ⟨Nat.le_refl _, Nat.le_refl _⟩ dX1_parse_53 (fun H locs hw hS => ?_)
          rw [gs_gs] at hw
          refine lv_if_ne (tgt := 61) hx hb dX1_parse_56 (by decide) (fun q22 => ?_) (fun q22 => ?_)
          · replace h := t_neg h q22
            refine lv_aload_n hx hb dX1_parse_61 rfl (lv_at hl 0 rfl) ?_
            refine lv_aload_n hx hb dX1_parse_62 rfl (lv_at hl 0 rfl) ?_
            obtain ⟨r24, m25, y23, h⟩ := t_bd h
            refine c_vi hx hb hml hown hts hK hw hS (fun _ h => h) (As := []) (rest := [.ref (ad 7 0)]) (c_X1_takeNumber hcv (M0 := gs M0 7 m21) (m := m21) (hm := gs_at) y23) cf_X1_takeNumber k_452 rfl rfl ⟨Nat.le_of_ble_eq_true rfl, Nat.le_of_ble_eq_true rfl⟩ (r_recv hK hw (v_tx (by decide)) E_tx rfl) rfl hl.1 rfl (Nat.le_of_ble_eq_true rfl) ⟨Nat.le_refl _, Nat.le_refl _⟩ dX1_parse_63 (fun H locs hw hS => ?_)
            rw [gs_gs] at hw
            obtain ⟨m27, e26, h⟩ := t_lt h
            refine r_put hx hb hts hown hK hcv hw hS (v_tx (by decide)) gs_atc E_tx inX1 rfl tyX1 tyX1_ok nmX1 6 (by decide) k_35 rfl rfl rfl rfl (Nat.le_of_ble_eq_true rfl) E_tx (gs_up e26) dX1_parse_66 (fun H locs hw hS => ?_)
            refine lv_aload_n hx hb dX1_parse_69 rfl (lv_at hl 0 rfl) ?_
            refine r_get hx hb hts hown hK hw (v_tx (by decide)) gs_atc E_tx inX1 rfl 6 (by decide) k_35 rfl rfl dX1_parse_70 ?_
            refine lv_if_lt (tgt := 85) hx hb dX1_parse_73 (by decide) (fun q28 => ?_) (fun q28 => ?_)
            · replace h := t_pos h q28
              refine lv_iconst (v := nI 0) hx hb dX1_parse_85 (by decide) ?_
              have e1 := (t_ret h).1
              have e2 := (t_ret h).2
              exact e_z hx hb hr hlk (Or.inl rfl) hw hS e1 (by rw [e2]) dX1_parse_86
            · replace h := t_neg h q28
              refine lv_aload_n hx hb dX1_parse_76 rfl (lv_at hl 0 rfl) ?_
              refine lv_bipush (v := nI 61) hx hb dX1_parse_77 (by decide) ?_
              obtain ⟨r30, m31, y29, h⟩ := t_bd h
              refine c_vi hx hb hml hown hts hK hw hS (fun _ h => h) (As := [.int (nI 61)]) (rest := []) (c_X1_takeSign hcv (M0 := gs M0 7 m27) (m := m27) (hm := gs_at) y29) cf_X1_takeSign k_448 rfl rfl ⟨Nat.le_of_ble_eq_true rfl, Nat.le_of_ble_eq_true rfl⟩ (r_recv hK hw (v_tx (by decide)) E_tx rfl) rfl hl.1 rfl (Nat.le_of_ble_eq_true rfl) ⟨Nat.le_refl _, Nat.le_refl _⟩ dX1_parse_79 (fun H locs hw hS => ?_)
              rw [gs_gs] at hw
              refine lv_if_ne (tgt := 87) hx hb dX1_parse_82 (by decide) (fun q32 => ?_) (fun q32 => ?_)
              · replace h := t_neg h q32
                refine lv_aload_n hx hb dX1_parse_87 rfl (lv_at hl 0 rfl) ?_
                obtain ⟨r34, m35, y33, h⟩ := t_bd h
                refine c_vi hx hb hml hown hts hK hw hS (fun _ h => h) (As := []) (rest := []) (c_X1_takeValues hcv (M0 := gs M0 7 m31) (m := m31) (hm := gs_at) y33) cf_X1_takeValues k_456 rfl rfl ⟨Nat.le_of_ble_eq_true rfl, Nat.le_of_ble_eq_true rfl⟩ (r_recv hK hw (v_tx (by decide)) E_tx rfl) rfl hl.1 rfl (Nat.le_of_ble_eq_true rfl) ⟨Nat.le_refl _, Nat.le_refl _⟩ dX1_parse_88 (fun H locs hw hS => ?_)
                rw [gs_gs] at hw
                obtain ⟨q36, h⟩ := t_gz h
                have e1 := (t_ret h).1
                have e2 := (t_ret h).2
                exact e_z hx hb hr hlk q36 hw hS e1 (by rw [e2]) dX1_parse_91
              · replace h := t_pos h q32
                refine lv_iconst (v := nI 0) hx hb dX1_parse_85 (by decide) ?_
                have e1 := (t_ret h).1
                have e2 := (t_ret h).2
                exact e_z hx hb hr hlk (Or.inl rfl) hw hS e1 (by rw [e2]) dX1_parse_86
          · replace h := t_pos h q22
            refine lv_iconst (v := nI 0) hx hb dX1_parse_59 (by decide) ?_
            have e1 := (t_ret h).1
            have e2 := (t_ret h).2
            exact e_z hx hb hr hlk (Or.inl rfl) hw hS e1 (by rw [e2]) dX1_parse_60
      · replace h := t_pos h q12
        refine lv_iconst (v := nI 0) hx hb dX1_parse_33 (by decide) ?_
        have e1 := (t_ret h).1
        have e2 := (t_ret h).2
        exact e_z hx hb hr hlk (Or.inl rfl) hw hS e1 (by rw [e2]) dX1_parse_34
  exact main _ _ hw hS ls hl

theorem cf_X5_isFromTo : cfS RX5 yX5_isFromTo cX5_isFromTo 3 (some .boolean) 3 := ⟨⟨k_229, k_1, k_230⟩, by decide +kernel⟩
def f_X5_isFromTo (p0 : Int32) (p1 : Int32) (p2 : Int32) : Option (Int32) :=
  (if p0 < p1 then some (nI 0) else (if p2 < p0 then some (nI 0) else some (nI 1)))
set_option maxHeartbeats 4000000 in
set_option maxRecDepth 100000 in
theorem c_X5_isFromTo {l : Launch} {D : va_G} {cy : Nat → ClassId} {ad : Nat → Nat → Nat} (hcv : CV ad) {M0 : MM} {p0 p1 p2 : Int32} {r : Int32} (h : f_X5_isFromTo p0 p1 p2 = some r) : Met l yX5_isFromTo (.code yX5_isFromTo cX5_isFromTo 3 (some .boolean) :: TB) ({ frames := 0, cells := 0, slots := 0, locals := 0 } : Room) (PW D cy ad M0 [.int p0, .int p1, .int p2]) (QI D cy ad r M0) 0 0 (AD ad) := by
  refine m_in (by decide +kernel) (Nat.le_of_ble_eq_true rfl) ?_
  intro p e s md args below meth c hC hw hS ls hl
  obtain ⟨hx, hb, hr, hml, hown, hts, hK, hlk⟩ := hC
  have hl : lv_has ls 3 [(0, .int p0), (1, .int p1), (2, .int p2)] := hl
  unfold f_X5_isFromTo at h
  have main : JL p l e ({ frames := 0, cells := 0, slots := 0, locals := 0 } : Room) s md args below meth c D cy ad (MQ below (QI D cy ad r M0) args s 0 0 (AD ad)) (M0) 3 [(0, .int p0), (1, .int p1), (2, .int p2)] 0 [] := by
    intro H locs hw hS ls hl
    refine lv_iload_n hx hb dX5_isFromTo_0 rfl (lv_at hl 0 rfl) ?_
    refine lv_iload_n hx hb dX5_isFromTo_1 rfl (lv_at hl 1 rfl) ?_
    refine lv_icmp_lt (tgt := 14) hx hb dX5_isFromTo_2 (by decide) (fun q1 => ?_) (fun q1 => ?_)
    · replace h := t_pos h q1
      refine lv_iconst (v := nI 0) hx hb dX5_isFromTo_14 (by decide) ?_
      have e1 := Option.some.inj h
      exact e_z hx hb hr hlk (Or.inl rfl) hw hS e1 rfl dX5_isFromTo_15
    · replace h := t_neg h q1
      refine lv_iload_n hx hb dX5_isFromTo_5 rfl (lv_at hl 0 rfl) ?_
      refine lv_iload_n hx hb dX5_isFromTo_6 rfl (lv_at hl 2 rfl) ?_
      refine lv_icmp_gt (tgt := 14) hx hb dX5_isFromTo_7 (by decide) (fun q2 => ?_) (fun q2 => ?_)
      · replace h := t_pos h q2
        refine lv_iconst (v := nI 0) hx hb dX5_isFromTo_14 (by decide) ?_
        have e1 := Option.some.inj h
        exact e_z hx hb hr hlk (Or.inl rfl) hw hS e1 rfl dX5_isFromTo_15
      · replace h := t_neg h q2
        refine lv_iconst (v := nI 1) hx hb dX5_isFromTo_10 (by decide) ?_
        refine lv_goto (tgt := 15) hx hb dX5_isFromTo_11 (by decide) ?_
        have e1 := Option.some.inj h
        exact e_z hx hb hr hlk (Or.inr rfl) hw hS e1 rfl dX5_isFromTo_15
  exact main _ _ hw hS ls hl

theorem cf_X1_isInRange : cfV RX1 yX1_isInRange cX1_isInRange 2 (some .boolean) 0 := ⟨⟨k_461, k_462, k_2, k_463⟩, by decide +kernel⟩
def f_X1_isInRange_L15 (m : SM) : Nat → Int32 → Option (Int32)
  | 0, _ => none
  | n + 1, x1 => (if (m 0 7) ≤ x1 then some (nI 1) else gd x1 16 (b1 (f_X5_isFromTo (m 2 x1.toNatClampNeg) (m 0 5) (m 0 6)) fun r4 => (if r4 = (nI 0) then some (nI 0) else f_X1_isInRange_L15 m n (x1 + (nI 1)))))
def f_X1_isInRange (m : SM) : Option (Int32) :=
  (if (m 0 5) ≤ (m 0 6) then f_X1_isInRange_L15 m FU (nI 0) else some (nI 0))
set_option maxHeartbeats 4000000 in
set_option maxRecDepth 100000 in
theorem c_X1_isInRange {l : Launch} {D : va_G} {cy : Nat → ClassId} {ad : Nat → Nat → Nat} (hcv : CV ad) {M0 : MM} {m : SM} (hm : M0 7 = m) {r : Int32} (h : f_X1_isInRange m = some r) : Met l yX1_isInRange (.code yX1_isInRange cX1_isInRange 2 (some .boolean) :: TB) ({ frames := 1, cells := 0, slots := 0, locals := 22 } : Room) (PW D cy ad M0 [.ref (ad 7 0)]) (QI D cy ad r M0) 0 0 (AD ad) := by
  refine m_in (by decide +kernel) (Nat.le_of_ble_eq_true rfl) ?_
  intro p e s md args below meth c hC hw hS ls hl
  obtain ⟨hx, hb, hr, hml, hown, hts, hK, hlk⟩ := hC
  have hl : lv_has ls 2 [(0, .ref (ad 7 0))] := hl
  rw [← gs_same hm] at hw
  have L15 : ∀ (n : Nat), ∀ (x1 : Int32), f_X1_isInRange_L15 m n x1 = some r → JL p l e ({ frames := 1, cells := 0, slots := 0, locals := 22 } : Room) s md args below meth c D cy ad (MQ below (QI D cy ad r M0) args s 0 0 (AD ad)) (gs M0 7 m) 2 [(0, .ref (ad 7 0)), (1, .int x1)] 15 [] := by
    intro n
    induction n with
    | zero =>
      intro x1 h
      cases h
    | succ n ih =>
      intro x1 h H locs hw hS ls hl
      rw [f_X1_isInRange_L15.eq_2] at h
      refine lv_iload_n hx hb dX1_isInRange_15 rfl (lv_at hl 1 rfl) ?_
      refine lv_aload_n hx hb dX1_isInRange_16 rfl (lv_at hl 0 rfl) ?_
      refine r_get hx hb hts hown hK hw (v_tx (by decide)) gs_atc E_tx inX1 rfl 7 (by decide) k_37 rfl rfl dX1_isInRange_17 ?_
      refine lv_icmp_ge (tgt := 51) hx hb dX1_isInRange_20 (by decide) (fun q1 => ?_) (fun q1 => ?_)
      · replace h := t_pos h q1
        refine lv_iconst (v := nI 1) hx hb dX1_isInRange_51 (by decide) ?_
        have e1 := Option.some.inj h
        exact e_z hx hb hr hlk (Or.inr rfl) hw hS e1 (gs_same hm) dX1_isInRange_52
      · replace h := t_neg h q1
        refine lv_aload_n hx hb dX1_isInRange_23 rfl (lv_at hl 0 rfl) ?_
        refine r_get hx hb hts hown hK hw (v_tx (by decide)) gs_atc E_tx inX1 rfl 1 (by decide) k_24 rfl rfl dX1_isInRange_24 ?_
        refine lv_iload_n hx hb dX1_isInRange_27 rfl (lv_at hl 1 rfl) ?_
        obtain ⟨q2, h⟩ := t_gd h
        refine r_iald hx hb hK hw (v_tx (by decide)) gs_atc E_tv q2 dX1_isInRange_28 ?_
        refine lv_aload_n hx hb dX1_isInRange_29 rfl (lv_at hl 0 rfl) ?_
        refine r_get hx hb hts hown hK hw (v_tx (by decide)) gs_atc E_tx inX1 rfl 5 (by decide) k_33 rfl rfl dX1_isInRange_30 ?_
        refine lv_aload_n hx hb dX1_isInRange_33 rfl (lv_at hl 0 rfl) ?_
        refine r_get hx hb hts hown hK hw (v_tx (by decide)) gs_atc E_tx inX1 rfl 6 (by decide) k_35 rfl rfl dX1_isInRange_34 ?_
        obtain ⟨r4, y3, h⟩ := t_b1 h
        refine c_sn hx hb hml hown hts hK hw hS (fun _ h => h) (As := [.int (m 2 x1.toNatClampNeg), .int (m 0 5), .int (m 0 6)]) (rest := []) (c_X5_isFromTo hcv (M0 := gs M0 7 m) y3) cf_X5_isFromTo k_464n rfl rfl ⟨Nat.le_of_ble_eq_true rfl, Nat.le_of_ble_eq_true rfl⟩ rfl hl.1 rfl (Nat.le_of_ble_eq_true rfl) ⟨Nat.le_refl _, Nat.le_refl _⟩ dX1_isInRange_37 (fun H locs hw hS => ?_)
        refine lv_if_ne (tgt := 45) hx hb dX1_isInRange_40 (by decide) (fun q5 => ?_) (fun q5 => ?_)
        · replace h := t_neg h q5
          refine lv_iinc (v := (x1 + (nI 1))) (lv' := [(1, .int (x1 + (nI 1))), (0, .ref (ad 7 0))]) hx hb dX1_isInRange_45 hl (k := 1) rfl rfl (by decide) rfl (fun ls hl => ?_)
          refine lv_goto (tgt := 15) hx hb dX1_isInRange_48 (by decide) ?_
          exact ih (x1 + (nI 1)) h H locs hw hS ls (lv_sub hl [1, 0] rfl)
        · replace h := t_pos h q5
          refine lv_iconst (v := nI 0) hx hb dX1_isInRange_43 (by decide) ?_
          have e1 := Option.some.inj h
          exact e_z hx hb hr hlk (Or.inl rfl) hw hS e1 (gs_same hm) dX1_isInRange_44
  unfold f_X1_isInRange at h
  have main : JL p l e ({ frames := 1, cells := 0, slots := 0, locals := 22 } : Room) s md args below meth c D cy ad (MQ below (QI D cy ad r M0) args s 0 0 (AD ad)) (gs M0 7 m) 2 [(0, .ref (ad 7 0))] 0 [] := by
    intro H locs hw hS ls hl
    refine lv_aload_n hx hb dX1_isInRange_0 rfl (lv_at hl 0 rfl) ?_
    refine r_get hx hb hts hown hK hw (v_tx (by decide)) gs_atc E_tx inX1 rfl 5 (by decide) k_33 rfl rfl dX1_isInRange_1 ?_
    refine lv_aload_n hx hb dX1_isInRange_4 rfl (lv_at hl 0 rfl) ?_
    refine r_get hx hb hts hown hK hw (v_tx (by decide)) gs_atc E_tx inX1 rfl 6 (by decide) k_35 rfl rfl dX1_isInRange_5 ?_
    refine lv_icmp_le (tgt := 13) hx hb dX1_isInRange_8 (by decide) (fun q1 => ?_) (fun q1 => ?_)
    · replace h := t_pos h q1
      refine lv_iconst (v := nI 0) hx hb dX1_isInRange_13 (by decide) ?_
      refine lv_istore_n (lv' := [(1, .int (nI 0)), (0, .ref (ad 7 0))]) hx hb dX1_isInRange_14 rfl hl (by decide) rfl (fun ls hl => ?_)
      exact L15 FU (nI 0) h H locs hw hS ls (lv_sub hl [1, 0] rfl)
    · replace h := t_neg h q1
      refine lv_iconst (v := nI 0) hx hb dX1_isInRange_11 (by decide) ?_
      have e1 := Option.some.inj h
      exact e_z hx hb hr hlk (Or.inl rfl) hw hS e1 (gs_same hm) dX1_isInRange_12
  exact main _ _ hw hS ls hl

def f_X3_copyFromS (m : SM) (i : Nat) (i2 : Nat) : Option (Int32 × SM) :=
  lt1 (up m (19 + i) 0 (m (19 + i2) 0)) fun m2 => lt1 (up m2 (19 + i) 1 (m2 (19 + i2) 1)) fun m4 => lt1 (up m4 (19 + i) 2 (m4 (19 + i2) 2)) fun m6 => lt1 (up m6 (19 + i) 3 (m6 (19 + i2) 3)) fun m8 => gz (m8 (19 + i2) 4) (lt1 (up m8 (19 + i) 4 (m8 (19 + i2) 4)) fun m11 => lt1 (up m11 (19 + i) 5 (m11 (19 + i2) 5)) fun m13 => lt1 (up m13 (19 + i) 6 (m13 (19 + i2) 6)) fun m15 => lt1 (up m15 (19 + i) 7 (m15 (19 + i2) 7)) fun m17 => some (0, m17))
set_option maxHeartbeats 4000000 in
set_option maxRecDepth 100000 in
theorem c_X3_copyFromS {l : Launch} {D : va_G} {cy : Nat → ClassId} {ad : Nat → Nat → Nat} (hcv : CV ad) {g : Nat} (hg : g < 7) {i : Nat} (hi : i < 6) {i2 : Nat} (hi2 : i2 < 6) {M0 : MM} {m : SM} (hm : M0 g = m) {r : Int32} {x : SM} (h : f_X3_copyFromS m i i2 = some (r, x)) : Met l yX3_copyFrom (.code yX3_copyFrom cX3_copyFrom 2 none :: TB) ({ frames := 0, cells := 0, slots := 0, locals := 0 } : Room) (PW D cy ad M0 [.ref (ad g (19 + i)), .ref (ad g (19 + i2))]) (QV D cy ad (gs M0 g x)) 0 0 (AD ad) := by
  refine m_in (by decide +kernel) (Nat.le_of_ble_eq_true rfl) ?_
  intro p e s md args below meth c hC hw hS ls hl
  obtain ⟨hx, hb, hr, hml, hown, hts, hK, hlk⟩ := hC
  have hl : lv_has ls 2 [(0, .ref (ad g (19 + i))), (1, .ref (ad g (19 + i2)))] := hl
  rw [← gs_same hm] at hw
  unfold f_X3_copyFromS at h
  have main : JL p l e ({ frames := 0, cells := 0, slots := 0, locals := 0 } : Room) s md args below meth c D cy ad (MQ below (QV D cy ad (gs M0 g x)) args s 0 0 (AD ad)) (gs M0 g m) 2 [(0, .ref (ad g (19 + i))), (1, .ref (ad g (19 + i2)))] 0 [] := by
    intro H locs hw hS ls hl
    refine lv_aload_n hx hb dX3_copyFrom_0 rfl (lv_at hl 0 rfl) ?_
    refine lv_aload_n hx hb dX3_copyFrom_1 rfl (lv_at hl 1 rfl) ?_
    refine r_get hx hb hts hown hK hw (v_qu hg hi2) gs_atc (E_qu hg) inX3 rfl 0 (by decide) k_120 rfl rfl dX3_copyFrom_2 ?_
    obtain ⟨m2, e1, h⟩ := t_lt h
    refine r_put hx hb hts hown hK hcv hw hS (v_qu hg hi) gs_atc (E_qu hg) inX3 rfl tyX3 tyX3_ok nmX3 0 (by decide) k_120 rfl rfl rfl rfl (Nat.le_of_ble_eq_true rfl) (E_qu hg) (gs_up e1) dX3_copyFrom_5 (fun H locs hw hS => ?_)
    refine lv_aload_n hx hb dX3_copyFrom_8 rfl (lv_at hl 0 rfl) ?_
    refine lv_aload_n hx hb dX3_copyFrom_9 rfl (lv_at hl 1 rfl) ?_
    refine r_get hx hb hts hown hK hw (v_qu hg hi2) gs_atc (E_qu hg) inX3 rfl 1 (by decide) k_123 rfl rfl dX3_copyFrom_10 ?_
    obtain ⟨m4, e3, h⟩ := t_lt h
    refine r_put hx hb hts hown hK hcv hw hS (v_qu hg hi) gs_atc (E_qu hg) inX3 rfl tyX3 tyX3_ok nmX3 1 (by decide) k_123 rfl rfl rfl rfl (Nat.le_of_ble_eq_true rfl) (E_qu hg) (gs_up e3) dX3_copyFrom_13 (fun H locs hw hS => ?_)
    refine lv_aload_n hx hb dX3_copyFrom_16 rfl (lv_at hl 0 rfl) ?_
    refine lv_aload_n hx hb dX3_copyFrom_17 rfl (lv_at hl 1 rfl) ?_
    refine r_get hx hb hts hown hK hw (v_qu hg hi2) gs_atc (E_qu hg) inX3 rfl 2 (by decide) k_126 rfl rfl dX3_copyFrom_18 ?_
    obtain ⟨m6, e5, h⟩ := t_lt h
    refine r_put hx hb hts hown hK hcv hw hS (v_qu hg hi) gs_atc (E_qu hg) inX3 rfl tyX3 tyX3_ok nmX3 2 (by decide) k_126 rfl rfl rfl rfl (Nat.le_of_ble_eq_true rfl) (E_qu hg) (gs_up e5) dX3_copyFrom_21 (fun H locs hw hS => ?_)
    refine lv_aload_n hx hb dX3_copyFrom_24 rfl (lv_at hl 0 rfl) ?_
    refine lv_aload_n hx hb dX3_copyFrom_25 rfl (lv_at hl 1 rfl) ?_
    refine r_get hx hb hts hown hK hw (v_qu hg hi2) gs_atc (E_qu hg) inX3 rfl 3 (by decide) k_129 rfl rfl dX3_copyFrom_26 ?_
    obtain ⟨m8, e7, h⟩ := t_lt h
    refine r_put hx hb hts hown hK hcv hw hS (v_qu hg hi) gs_atc (E_qu hg) inX3 rfl tyX3 tyX3_ok nmX3 3 (by decide) k_129 rfl rfl rfl rfl (Nat.le_of_ble_eq_true rfl) (E_qu hg) (gs_up e7) dX3_copyFrom_29 (fun H locs hw hS => ?_)
    refine lv_aload_n hx hb dX3_copyFrom_32 rfl (lv_at hl 0 rfl) ?_
    refine lv_aload_n hx hb dX3_copyFrom_33 rfl (lv_at hl 1 rfl) ?_
    refine r_get hx hb hts hown hK hw (v_qu hg hi2) gs_atc (E_qu hg) inX3 rfl 4 (by decide) k_132 rfl rfl dX3_copyFrom_34 ?_
    obtain ⟨q9, h⟩ := t_gz h
    obtain ⟨m11, e10, h⟩ := t_lt h
    refine r_put hx hb hts hown hK hcv hw hS (v_qu hg hi) gs_atc (E_qu hg) inX3 rfl tyX3 tyX3_ok nmX3 4 (by decide) k_132 rfl rfl (nar_z q9) (fit_z q9) (Nat.le_of_ble_eq_true rfl) (E_qu hg) (gs_up e10) dX3_copyFrom_37 (fun H locs hw hS => ?_)
    refine lv_aload_n hx hb dX3_copyFrom_40 rfl (lv_at hl 0 rfl) ?_
    refine lv_aload_n hx hb dX3_copyFrom_41 rfl (lv_at hl 1 rfl) ?_
    refine r_get hx hb hts hown hK hw (v_qu hg hi2) gs_atc (E_qu hg) inX3 rfl 5 (by decide) k_135 rfl rfl dX3_copyFrom_42 ?_
    obtain ⟨m13, e12, h⟩ := t_lt h
    refine r_put hx hb hts hown hK hcv hw hS (v_qu hg hi) gs_atc (E_qu hg) inX3 rfl tyX3 tyX3_ok nmX3 5 (by decide) k_135 rfl rfl rfl rfl (Nat.le_of_ble_eq_true rfl) (E_qu hg) (gs_up e12) dX3_copyFrom_45 (fun H locs hw hS => ?_)
    refine lv_aload_n hx hb dX3_copyFrom_48 rfl (lv_at hl 0 rfl) ?_
    refine lv_aload_n hx hb dX3_copyFrom_49 rfl (lv_at hl 1 rfl) ?_
    refine r_get hx hb hts hown hK hw (v_qu hg hi2) gs_atc (E_qu hg) inX3 rfl 6 (by decide) k_138 rfl rfl dX3_copyFrom_50 ?_
    obtain ⟨m15, e14, h⟩ := t_lt h
    refine r_put hx hb hts hown hK hcv hw hS (v_qu hg hi) gs_atc (E_qu hg) inX3 rfl tyX3 tyX3_ok nmX3 6 (by decide) k_138 rfl rfl rfl rfl (Nat.le_of_ble_eq_true rfl) (E_qu hg) (gs_up e14) dX3_copyFrom_53 (fun H locs hw hS => ?_)
    refine lv_aload_n hx hb dX3_copyFrom_56 rfl (lv_at hl 0 rfl) ?_
    refine lv_aload_n hx hb dX3_copyFrom_57 rfl (lv_at hl 1 rfl) ?_
    refine r_get hx hb hts hown hK hw (v_qu hg hi2) gs_atc (E_qu hg) inX3 rfl 7 (by decide) k_141 rfl rfl dX3_copyFrom_58 ?_
    obtain ⟨m17, e16, h⟩ := t_lt h
    refine r_put hx hb hts hown hK hcv hw hS (v_qu hg hi) gs_atc (E_qu hg) inX3 rfl tyX3 tyX3_ok nmX3 7 (by decide) k_141 rfl rfl rfl rfl (Nat.le_of_ble_eq_true rfl) (E_qu hg) (gs_up e16) dX3_copyFrom_61 (fun H locs hw hS => ?_)
    have e1 := (t_ret h).1
    have e2 := (t_ret h).2
    exact e_v hx hb hr hlk hw hS (by rw [e2]) dX3_copyFrom_64
  exact main _ _ hw hS ls hl

theorem cf_X3_copyFrom : cfV RX3 yX3_copyFrom cX3_copyFrom 2 none 1 := ⟨⟨k_247, k_248, k_5, k_249⟩, by decide +kernel⟩
def f_X3_copyFrom (m : SM) (mz : SM) (i : Nat) (i2 : Nat) : Option (Int32 × SM) :=
  lt1 (up m (19 + i) 0 (mz (19 + i2) 0)) fun m2 => lt1 (up m2 (19 + i) 1 (mz (19 + i2) 1)) fun m4 => lt1 (up m4 (19 + i) 2 (mz (19 + i2) 2)) fun m6 => lt1 (up m6 (19 + i) 3 (mz (19 + i2) 3)) fun m8 => gz (mz (19 + i2) 4) (lt1 (up m8 (19 + i) 4 (mz (19 + i2) 4)) fun m11 => lt1 (up m11 (19 + i) 5 (mz (19 + i2) 5)) fun m13 => lt1 (up m13 (19 + i) 6 (mz (19 + i2) 6)) fun m15 => lt1 (up m15 (19 + i) 7 (mz (19 + i2) 7)) fun m17 => some (0, m17))
set_option maxHeartbeats 4000000 in
set_option maxRecDepth 100000 in
theorem c_X3_copyFrom {l : Launch} {D : va_G} {cy : Nat → ClassId} {ad : Nat → Nat → Nat} (hcv : CV ad) {g : Nat} (hg : g < 7) {g2 : Nat} (hg2 : g2 < 7) {i : Nat} (hi : i < 6) {i2 : Nat} (hi2 : i2 < 6) {M0 : MM} {m : SM} (hm : M0 g = m) (hne : g2 ≠ g) {mz : SM} (hm2 : M0 g2 = mz) {r : Int32} {x : SM} (h : f_X3_copyFrom m mz i i2 = some (r, x)) : Met l yX3_copyFrom (.code yX3_copyFrom cX3_copyFrom 2 none :: TB) ({ frames := 0, cells := 0, slots := 0, locals := 0 } : Room) (PW D cy ad M0 [.ref (ad g (19 + i)), .ref (ad g2 (19 + i2))]) (QV D cy ad (gs M0 g x)) 0 0 (AD ad) := by
  refine m_in (by decide +kernel) (Nat.le_of_ble_eq_true rfl) ?_
  intro p e s md args below meth c hC hw hS ls hl
  obtain ⟨hx, hb, hr, hml, hown, hts, hK, hlk⟩ := hC
  have hl : lv_has ls 2 [(0, .ref (ad g (19 + i))), (1, .ref (ad g2 (19 + i2)))] := hl
  rw [← gs_same hm] at hw
  unfold f_X3_copyFrom at h
  have main : JL p l e ({ frames := 0, cells := 0, slots := 0, locals := 0 } : Room) s md args below meth c D cy ad (MQ below (QV D cy ad (gs M0 g x)) args s 0 0 (AD ad)) (gs M0 g m) 2 [(0, .ref (ad g (19 + i))), (1, .ref (ad g2 (19 + i2)))] 0 [] := by
    intro H locs hw hS ls hl
    refine lv_aload_n hx hb dX3_copyFrom_0 rfl (lv_at hl 0 rfl) ?_
    refine lv_aload_n hx hb dX3_copyFrom_1 rfl (lv_at hl 1 rfl) ?_
    refine r_get hx hb hts hown hK hw (v_qu hg2 hi2) (gs_nec hne hm2) (E_qu hg2) inX3 rfl 0 (by decide) k_120 rfl rfl dX3_copyFrom_2 ?_
    obtain ⟨m2, e1, h⟩ := t_lt h
    refine r_put hx hb hts hown hK hcv hw hS (v_qu hg hi) gs_atc (E_qu hg) inX3 rfl tyX3 tyX3_ok nmX3 0 (by decide) k_120 rfl rfl rfl rfl (Nat.le_of_ble_eq_true rfl) (E_qu hg) (gs_up e1) dX3_copyFrom_5 (fun H locs hw hS => ?_)
    refine lv_aload_n hx hb dX3_copyFrom_8 rfl (lv_at hl 0 rfl) ?_
    refine lv_aload_n hx hb dX3_copyFrom_9 rfl (lv_at hl 1 rfl) ?_
    refine r_get hx hb hts hown hK hw (v_qu hg2 hi2) (gs_nec hne hm2) (E_qu hg2) inX3 rfl 1 (by decide) k_123 rfl rfl dX3_copyFrom_10 ?_
    obtain ⟨m4, e3, h⟩ := t_lt h
    refine r_put hx hb hts hown hK hcv hw hS (v_qu hg hi) gs_atc (E_qu hg) inX3 rfl tyX3 tyX3_ok nmX3 1 (by decide) k_123 rfl rfl rfl rfl (Nat.le_of_ble_eq_true rfl) (E_qu hg) (gs_up e3) dX3_copyFrom_13 (fun H locs hw hS => ?_)
    refine lv_aload_n hx hb dX3_copyFrom_16 rfl (lv_at hl 0 rfl) ?_
    refine lv_aload_n hx hb dX3_copyFrom_17 rfl (lv_at hl 1 rfl) ?_
    refine r_get hx hb hts hown hK hw (v_qu hg2 hi2) (gs_nec hne hm2) (E_qu hg2) inX3 rfl 2 (by decide) k_126 rfl rfl dX3_copyFrom_18 ?_
    obtain ⟨m6, e5, h⟩ := t_lt h
    refine r_put hx hb hts hown hK hcv hw hS (v_qu hg hi) gs_atc (E_qu hg) inX3 rfl tyX3 tyX3_ok nmX3 2 (by decide) k_126 rfl rfl rfl rfl (Nat.le_of_ble_eq_true rfl) (E_qu hg) (gs_up e5) dX3_copyFrom_21 (fun H locs hw hS => ?_)
    refine lv_aload_n hx hb dX3_copyFrom_24 rfl (lv_at hl 0 rfl) ?_
    refine lv_aload_n hx hb dX3_copyFrom_25 rfl (lv_at hl 1 rfl) ?_
    refine r_get hx hb hts hown hK hw (v_qu hg2 hi2) (gs_nec hne hm2) (E_qu hg2) inX3 rfl 3 (by decide) k_129 rfl rfl dX3_copyFrom_26 ?_
    obtain ⟨m8, e7, h⟩ := t_lt h
    refine r_put hx hb hts hown hK hcv hw hS (v_qu hg hi) gs_atc (E_qu hg) inX3 rfl tyX3 tyX3_ok nmX3 3 (by decide) k_129 rfl rfl rfl rfl (Nat.le_of_ble_eq_true rfl) (E_qu hg) (gs_up e7) dX3_copyFrom_29 (fun H locs hw hS => ?_)
    refine lv_aload_n hx hb dX3_copyFrom_32 rfl (lv_at hl 0 rfl) ?_
    refine lv_aload_n hx hb dX3_copyFrom_33 rfl (lv_at hl 1 rfl) ?_
    refine r_get hx hb hts hown hK hw (v_qu hg2 hi2) (gs_nec hne hm2) (E_qu hg2) inX3 rfl 4 (by decide) k_132 rfl rfl dX3_copyFrom_34 ?_
    obtain ⟨q9, h⟩ := t_gz h
    obtain ⟨m11, e10, h⟩ := t_lt h
    refine r_put hx hb hts hown hK hcv hw hS (v_qu hg hi) gs_atc (E_qu hg) inX3 rfl tyX3 tyX3_ok nmX3 4 (by decide) k_132 rfl rfl (nar_z q9) (fit_z q9) (Nat.le_of_ble_eq_true rfl) (E_qu hg) (gs_up e10) dX3_copyFrom_37 (fun H locs hw hS => ?_)
    refine lv_aload_n hx hb dX3_copyFrom_40 rfl (lv_at hl 0 rfl) ?_
    refine lv_aload_n hx hb dX3_copyFrom_41 rfl (lv_at hl 1 rfl) ?_
    refine r_get hx hb hts hown hK hw (v_qu hg2 hi2) (gs_nec hne hm2) (E_qu hg2) inX3 rfl 5 (by decide) k_135 rfl rfl dX3_copyFrom_42 ?_
    obtain ⟨m13, e12, h⟩ := t_lt h
    refine r_put hx hb hts hown hK hcv hw hS (v_qu hg hi) gs_atc (E_qu hg) inX3 rfl tyX3 tyX3_ok nmX3 5 (by decide) k_135 rfl rfl rfl rfl (Nat.le_of_ble_eq_true rfl) (E_qu hg) (gs_up e12) dX3_copyFrom_45 (fun H locs hw hS => ?_)
    refine lv_aload_n hx hb dX3_copyFrom_48 rfl (lv_at hl 0 rfl) ?_
    refine lv_aload_n hx hb dX3_copyFrom_49 rfl (lv_at hl 1 rfl) ?_
    refine r_get hx hb hts hown hK hw (v_qu hg2 hi2) (gs_nec hne hm2) (E_qu hg2) inX3 rfl 6 (by decide) k_138 rfl rfl dX3_copyFrom_50 ?_
    obtain ⟨m15, e14, h⟩ := t_lt h
    refine r_put hx hb hts hown hK hcv hw hS (v_qu hg hi) gs_atc (E_qu hg) inX3 rfl tyX3 tyX3_ok nmX3 6 (by decide) k_138 rfl rfl rfl rfl (Nat.le_of_ble_eq_true rfl) (E_qu hg) (gs_up e14) dX3_copyFrom_53 (fun H locs hw hS => ?_)
    refine lv_aload_n hx hb dX3_copyFrom_56 rfl (lv_at hl 0 rfl) ?_
    refine lv_aload_n hx hb dX3_copyFrom_57 rfl (lv_at hl 1 rfl) ?_
    refine r_get hx hb hts hown hK hw (v_qu hg2 hi2) (gs_nec hne hm2) (E_qu hg2) inX3 rfl 7 (by decide) k_141 rfl rfl dX3_copyFrom_58 ?_
    obtain ⟨m17, e16, h⟩ := t_lt h
    refine r_put hx hb hts hown hK hcv hw hS (v_qu hg hi) gs_atc (E_qu hg) inX3 rfl tyX3 tyX3_ok nmX3 7 (by decide) k_141 rfl rfl rfl rfl (Nat.le_of_ble_eq_true rfl) (E_qu hg) (gs_up e16) dX3_copyFrom_61 (fun H locs hw hS => ?_)
    have e1 := (t_ret h).1
    have e2 := (t_ret h).2
    exact e_v hx hb hr hlk hw hS (by rw [e2]) dX3_copyFrom_64
  exact main _ _ hw hS ls hl

theorem cf_X4_copyFrom : cfV RX4 yX4_copyFrom cX4_copyFrom 3 none 1 := ⟨⟨k_236, k_237, k_3, k_238⟩, by decide +kernel⟩
def f_X4_copyFrom_L62 (mz : SM) (m : SM) : Option (Int32 × SM) :=
  lt1 (up m 0 2 (mz 0 2)) fun m2 => lt1 (up m2 0 3 (mz 0 3)) fun m4 => lt1 (up m4 0 4 (mz 0 4)) fun m6 => lt1 (up m6 0 5 (mz 0 5)) fun m8 => some (0, m8)
def f_X4_copyFrom_L33 (mz : SM) : Nat → SM → Int32 → Option (Int32 × SM)
  | 0, _, _ => none
  | n + 1, m, x2 => (if (mz 0 3) ≤ x2 then f_X4_copyFrom_L62 mz m else gd x2 6 (gd x2 6 (bd (f_X3_copyFrom m mz x2.toNatClampNeg x2.toNatClampNeg) fun r5 m6 => f_X4_copyFrom_L33 mz n m6 (x2 + (nI 1)))))
def f_X4_copyFrom_L31 (mz : SM) (m : SM) : Option (Int32 × SM) :=
  f_X4_copyFrom_L33 mz FU m (nI 0)
def f_X4_copyFrom_L2 (mz : SM) : Nat → SM → Int32 → Option (Int32 × SM)
  | 0, _, _ => none
  | n + 1, m, x2 => (if (mz 0 2) ≤ x2 then f_X4_copyFrom_L31 mz m else gd x2 8 (gd x2 8 (bd (f_X0_copyFrom m mz x2.toNatClampNeg x2.toNatClampNeg) fun r5 m6 => f_X4_copyFrom_L2 mz n m6 (x2 + (nI 1)))))
def f_X4_copyFrom (m : SM) (mz : SM) : Option (Int32 × SM) :=
  f_X4_copyFrom_L2 mz FU m (nI 0)
set_option maxHeartbeats 4000000 in
set_option maxRecDepth 100000 in
theorem c_X4_copyFrom {l : Launch} {D : va_G} {cy : Nat → ClassId} {ad : Nat → Nat → Nat} (hcv : CV ad) {g : Nat} (hg : g < 7) {g2 : Nat} (hg2 : g2 < 7) {M0 : MM} {m : SM} (hm : M0 g = m) (hne : g2 ≠ g) {mz : SM} (hm2 : M0 g2 = mz) {r : Int32} {x : SM} (h : f_X4_copyFrom m mz = some (r, x)) : Met l yX4_copyFrom (.code yX4_copyFrom cX4_copyFrom 3 none :: TB) ({ frames := 2, cells := 0, slots := 0, locals := 81 } : Room) (PW D cy ad M0 [.ref (ad g 0), .ref (ad g2 0)]) (QV D cy ad (gs M0 g x)) 0 0 (AD ad) := by
  refine m_in (by decide +kernel) (Nat.le_of_ble_eq_true rfl) ?_
  intro p e s md args below meth c hC hw hS ls hl
  obtain ⟨hx, hb, hr, hml, hown, hts, hK, hlk⟩ := hC
  have hl : lv_has ls 3 [(0, .ref (ad g 0)), (1, .ref (ad g2 0))] := hl
  rw [← gs_same hm] at hw
  have L62 : ∀ (m : SM), f_X4_copyFrom_L62 mz m = some (r, x) → JL p l e ({ frames := 2, cells := 0, slots := 0, locals := 81 } : Room) s md args below meth c D cy ad (MQ below (QV D cy ad (gs M0 g x)) args s 0 0 (AD ad)) (gs M0 g m) 3 [(0, .ref (ad g 0)), (1, .ref (ad g2 0))] 62 [] := by
    intro m h H locs hw hS ls hl
    unfold f_X4_copyFrom_L62 at h
    refine lv_aload_n hx hb dX4_copyFrom_62 rfl (lv_at hl 0 rfl) ?_
    refine lv_aload_n hx hb dX4_copyFrom_63 rfl (lv_at hl 1 rfl) ?_
    refine r_get hx hb hts hown hK hw (v_st hg2 (by decide)) (gs_nec hne hm2) (E_st hg2) inX4 rfl 2 (by decide) k_164 rfl rfl dX4_copyFrom_64 ?_
    obtain ⟨m2, e1, h⟩ := t_lt h
    refine r_put hx hb hts hown hK hcv hw hS (v_st hg (by decide)) gs_atc (E_st hg) inX4 rfl tyX4 tyX4_ok nmX4 2 (by decide) k_164 rfl rfl rfl rfl (Nat.le_of_ble_eq_true rfl) (E_st hg) (gs_up e1) dX4_copyFrom_67 (fun H locs hw hS => ?_)
    refine lv_aload_n hx hb dX4_copyFrom_70 rfl (lv_at hl 0 rfl) ?_
    refine lv_aload_n hx hb dX4_copyFrom_71 rfl (lv_at hl 1 rfl) ?_
    refine r_get hx hb hts hown hK hw (v_st hg2 (by decide)) (gs_nec hne hm2) (E_st hg2) inX4 rfl 3 (by decide) k_166 rfl rfl dX4_copyFrom_72 ?_
    obtain ⟨m4, e3, h⟩ := t_lt h
    refine r_put hx hb hts hown hK hcv hw hS (v_st hg (by decide)) gs_atc (E_st hg) inX4 rfl tyX4 tyX4_ok nmX4 3 (by decide) k_166 rfl rfl rfl rfl (Nat.le_of_ble_eq_true rfl) (E_st hg) (gs_up e3) dX4_copyFrom_75 (fun H locs hw hS => ?_)
    refine lv_aload_n hx hb dX4_copyFrom_78 rfl (lv_at hl 0 rfl) ?_
    refine lv_aload_n hx hb dX4_copyFrom_79 rfl (lv_at hl 1 rfl) ?_
    refine r_get hx hb hts hown hK hw (v_st hg2 (by decide)) (gs_nec hne hm2) (E_st hg2) inX4 rfl 4 (by decide) k_168 rfl rfl dX4_copyFrom_80 ?_
    obtain ⟨m6, e5, h⟩ := t_lt h
    refine r_put hx hb hts hown hK hcv hw hS (v_st hg (by decide)) gs_atc (E_st hg) inX4 rfl tyX4 tyX4_ok nmX4 4 (by decide) k_168 rfl rfl rfl rfl (Nat.le_of_ble_eq_true rfl) (E_st hg) (gs_up e5) dX4_copyFrom_83 (fun H locs hw hS => ?_)
    refine lv_aload_n hx hb dX4_copyFrom_86 rfl (lv_at hl 0 rfl) ?_
    refine lv_aload_n hx hb dX4_copyFrom_87 rfl (lv_at hl 1 rfl) ?_
    refine r_get hx hb hts hown hK hw (v_st hg2 (by decide)) (gs_nec hne hm2) (E_st hg2) inX4 rfl 5 (by decide) k_170 rfl rfl dX4_copyFrom_88 ?_
    obtain ⟨m8, e7, h⟩ := t_lt h
    refine r_put hx hb hts hown hK hcv hw hS (v_st hg (by decide)) gs_atc (E_st hg) inX4 rfl tyX4 tyX4_ok nmX4 5 (by decide) k_170 rfl rfl rfl rfl (Nat.le_of_ble_eq_true rfl) (E_st hg) (gs_up e7) dX4_copyFrom_91 (fun H locs hw hS => ?_)
    have e1 := (t_ret h).1
    have e2 := (t_ret h).2
    exact e_v hx hb hr hlk hw hS (by rw [e2]) dX4_copyFrom_94
  have L33 : ∀ (n : Nat), ∀ (m : SM) (x2 : Int32), f_X4_copyFrom_L33 mz n m x2 = some (r, x) → JL p l e ({ frames := 2, cells := 0, slots := 0, locals := 81 } : Room) s md args below meth c D cy ad (MQ below (QV D cy ad (gs M0 g x)) args s 0 0 (AD ad)) (gs M0 g m) 3 [(0, .ref (ad g 0)), (1, .ref (ad g2 0)), (2, .int x2)] 33 [] := by
    intro n
    induction n with
    | zero =>
      intro m x2 h
      cases h
    | succ n ih =>
      intro m x2 h H locs hw hS ls hl
      rw [f_X4_copyFrom_L33.eq_2] at h
      refine lv_iload_n hx hb dX4_copyFrom_33 rfl (lv_at hl 2 rfl) ?_
      refine lv_aload_n hx hb dX4_copyFrom_34 rfl (lv_at hl 1 rfl) ?_
      refine r_get hx hb hts hown hK hw (v_st hg2 (by decide)) (gs_nec hne hm2) (E_st hg2) inX4 rfl 3 (by decide) k_166 rfl rfl dX4_copyFrom_35 ?_
      refine lv_icmp_ge (tgt := 62) hx hb dX4_copyFrom_38 (by decide) (fun q1 => ?_) (fun q1 => ?_)
      · replace h := t_pos h q1
        exact L62 m h H locs hw hS ls (lv_sub hl [0, 1] rfl)
      · replace h := t_neg h q1
        refine lv_aload_n hx hb dX4_copyFrom_41 rfl (lv_at hl 0 rfl) ?_
        refine r_get hx hb hts hown hK hw (v_st hg (by decide)) gs_atc (E_st hg) inX4 rfl 1 (by decide) k_162 rfl rfl dX4_copyFrom_42 ?_
        refine lv_iload_n hx hb dX4_copyFrom_45 rfl (lv_at hl 2 rfl) ?_
        obtain ⟨q2, h⟩ := t_gd h
        refine r_aald hx hb hK hw (v_st hg (by decide)) (t0 := 3) rfl (E_qa hg) (v := .ref (ad g (19 + x2.toNatClampNeg))) rfl q2 dX4_copyFrom_46 ?_
        refine lv_aload_n hx hb dX4_copyFrom_47 rfl (lv_at hl 1 rfl) ?_
        refine r_get hx hb hts hown hK hw (v_st hg2 (by decide)) (gs_nec hne hm2) (E_st hg2) inX4 rfl 1 (by decide) k_162 rfl rfl dX4_copyFrom_48 ?_
        refine lv_iload_n hx hb dX4_copyFrom_51 rfl (lv_at hl 2 rfl) ?_
        obtain ⟨q3, h⟩ := t_gd h
        refine r_aald hx hb hK hw (v_st hg2 (by decide)) (t0 := 3) rfl (E_qa hg2) (v := .ref (ad g2 (19 + x2.toNatClampNeg))) rfl q3 dX4_copyFrom_52 ?_
        obtain ⟨r5, m6, y4, h⟩ := t_bd h
        refine c_vv hx hb hml hown hts hK hw hS (fun _ h => h) (As := [.ref (ad g2 (19 + x2.toNatClampNeg))]) (rest := []) (c_X3_copyFrom hcv (g := g) (hg := hg) (i := x2.toNatClampNeg) (hi := (vin q2)) (g2 := g2) (hg2 := hg2) (i2 := x2.toNatClampNeg) (hi2 := (vin q3)) (M0 := gs M0 g m) (m := m) (hm := gs_at) (mz := mz) (hne := hne) (hm2 := gs_nem hne hm2) y4) cf_X3_copyFrom k_246 rfl rfl ⟨Nat.le_of_ble_eq_true rfl, Nat.le_of_ble_eq_true rfl⟩ (r_recv hK hw (v_qu hg (vin q2)) (E_qu hg) rfl) rfl hl.1 rfl (Nat.le_of_ble_eq_true rfl) ⟨Nat.le_refl _, Nat.le_refl _⟩ dX4_copyFrom_53 (fun H locs hw hS => ?_)
        rw [gs_gs] at hw
        refine lv_iinc (v := (x2 + (nI 1))) (lv' := [(2, .int (x2 + (nI 1))), (0, .ref (ad g 0)), (1, .ref (ad g2 0))]) hx hb dX4_copyFrom_56 hl (k := 2) rfl rfl (by decide) rfl (fun ls hl => ?_)
        refine lv_goto (tgt := 33) hx hb dX4_copyFrom_59 (by decide) ?_
        exact ih m6 (x2 + (nI 1)) h H locs hw hS ls (lv_sub hl [1, 2, 0] rfl)
  have L31 : ∀ (m : SM), f_X4_copyFrom_L31 mz m = some (r, x) → JL p l e ({ frames := 2, cells := 0, slots := 0, locals := 81 } : Room) s md args below meth c D cy ad (MQ below (QV D cy ad (gs M0 g x)) args s 0 0 (AD ad)) (gs M0 g m) 3 [(0, .ref (ad g 0)), (1, .ref (ad g2 0))] 31 [] := by
    intro m h H locs hw hS ls hl
    unfold f_X4_copyFrom_L31 at h
    refine lv_iconst (v := nI 0) hx hb dX4_copyFrom_31 (by decide) ?_
    refine lv_istore_n (lv' := [(2, .int (nI 0)), (0, .ref (ad g 0)), (1, .ref (ad g2 0))]) hx hb dX4_copyFrom_32 rfl hl (by decide) rfl (fun ls hl => ?_)
    exact L33 FU m (nI 0) h H locs hw hS ls (lv_sub hl [1, 2, 0] rfl)
  have L2 : ∀ (n : Nat), ∀ (m : SM) (x2 : Int32), f_X4_copyFrom_L2 mz n m x2 = some (r, x) → JL p l e ({ frames := 2, cells := 0, slots := 0, locals := 81 } : Room) s md args below meth c D cy ad (MQ below (QV D cy ad (gs M0 g x)) args s 0 0 (AD ad)) (gs M0 g m) 3 [(0, .ref (ad g 0)), (1, .ref (ad g2 0)), (2, .int x2)] 2 [] := by
    intro n
    induction n with
    | zero =>
      intro m x2 h
      cases h
    | succ n ih =>
      intro m x2 h H locs hw hS ls hl
      rw [f_X4_copyFrom_L2.eq_2] at h
      refine lv_iload_n hx hb dX4_copyFrom_2 rfl (lv_at hl 2 rfl) ?_
      refine lv_aload_n hx hb dX4_copyFrom_3 rfl (lv_at hl 1 rfl) ?_
      refine r_get hx hb hts hown hK hw (v_st hg2 (by decide)) (gs_nec hne hm2) (E_st hg2) inX4 rfl 2 (by decide) k_164 rfl rfl dX4_copyFrom_4 ?_
      refine lv_icmp_ge (tgt := 31) hx hb dX4_copyFrom_7 (by decide) (fun q1 => ?_) (fun q1 => ?_)
      · replace h := t_pos h q1
        exact L31 m h H locs hw hS ls (lv_sub hl [0, 1] rfl)
      · replace h := t_neg h q1
        refine lv_aload_n hx hb dX4_copyFrom_10 rfl (lv_at hl 0 rfl) ?_
        refine r_get hx hb hts hown hK hw (v_st hg (by decide)) gs_atc (E_st hg) inX4 rfl 0 (by decide) k_160 rfl rfl dX4_copyFrom_11 ?_
        refine lv_iload_n hx hb dX4_copyFrom_14 rfl (lv_at hl 2 rfl) ?_
        obtain ⟨q2, h⟩ := t_gd h
        refine r_aald hx hb hK hw (v_st hg (by decide)) (t0 := 2) rfl (E_ba hg) (v := .ref (ad g (3 + x2.toNatClampNeg))) rfl q2 dX4_copyFrom_15 ?_
        refine lv_aload_n hx hb dX4_copyFrom_16 rfl (lv_at hl 1 rfl) ?_
        refine r_get hx hb hts hown hK hw (v_st hg2 (by decide)) (gs_nec hne hm2) (E_st hg2) inX4 rfl 0 (by decide) k_160 rfl rfl dX4_copyFrom_17 ?_
        refine lv_iload_n hx hb dX4_copyFrom_20 rfl (lv_at hl 2 rfl) ?_
        obtain ⟨q3, h⟩ := t_gd h
        refine r_aald hx hb hK hw (v_st hg2 (by decide)) (t0 := 2) rfl (E_ba hg2) (v := .ref (ad g2 (3 + x2.toNatClampNeg))) rfl q3 dX4_copyFrom_21 ?_
        obtain ⟨r5, m6, y4, h⟩ := t_bd h
        refine c_vv hx hb hml hown hts hK hw hS (fun _ h => h) (As := [.ref (ad g2 (3 + x2.toNatClampNeg))]) (rest := []) (c_X0_copyFrom hcv (g := g) (hg := hg) (i := x2.toNatClampNeg) (hi := (vin q2)) (g2 := g2) (hg2 := hg2) (i2 := x2.toNatClampNeg) (hi2 := (vin q3)) (M0 := gs M0 g m) (m := m) (hm := gs_at) (mz := mz) (hne := hne) (hm2 := gs_nem hne hm2) y4) cf_X0_copyFrom k_239 rfl rfl ⟨Nat.le_of_ble_eq_true rfl, Nat.le_of_ble_eq_true rfl⟩ (r_recv hK hw (v_bk hg (vin q2)) (E_bk hg (vin q2)) rfl) rfl hl.1 rfl (Nat.le_of_ble_eq_true rfl) ⟨Nat.le_refl _, Nat.le_refl _⟩ dX4_copyFrom_22 (fun H locs hw hS => ?_)
        rw [gs_gs] at hw
        refine lv_iinc (v := (x2 + (nI 1))) (lv' := [(2, .int (x2 + (nI 1))), (0, .ref (ad g 0)), (1, .ref (ad g2 0))]) hx hb dX4_copyFrom_25 hl (k := 2) rfl rfl (by decide) rfl (fun ls hl => ?_)
        refine lv_goto (tgt := 2) hx hb dX4_copyFrom_28 (by decide) ?_
        exact ih m6 (x2 + (nI 1)) h H locs hw hS ls (lv_sub hl [1, 2, 0] rfl)
  unfold f_X4_copyFrom at h
  have main : JL p l e ({ frames := 2, cells := 0, slots := 0, locals := 81 } : Room) s md args below meth c D cy ad (MQ below (QV D cy ad (gs M0 g x)) args s 0 0 (AD ad)) (gs M0 g m) 3 [(0, .ref (ad g 0)), (1, .ref (ad g2 0))] 0 [] := by
    intro H locs hw hS ls hl
    refine lv_iconst (v := nI 0) hx hb dX4_copyFrom_0 (by decide) ?_
    refine lv_istore_n (lv' := [(2, .int (nI 0)), (0, .ref (ad g 0)), (1, .ref (ad g2 0))]) hx hb dX4_copyFrom_1 rfl hl (by decide) rfl (fun ls hl => ?_)
    exact L2 FU m (nI 0) h H locs hw hS ls (lv_sub hl [1, 2, 0] rfl)
  exact main _ _ hw hS ls hl

theorem cf_X2_record : cfV RX2 yX2_record cX2_record 2 none 1 := ⟨⟨k_232, k_233, k_6, k_234⟩, by decide +kernel⟩
def f_X2_record (M : MM) : Option (Int32 × MM) :=
  gn (nI 4) (gd (((M 8 1 1) + (M 8 1 2)) - ((M 8 1 1) + (M 8 1 2)) / (nI 4) * (nI 4)) 4 (bd (f_X4_copyFrom (M (3 + (((M 8 1 1) + (M 8 1 2)) - ((M 8 1 1) + (M 8 1 2)) / (nI 4) * (nI 4)).toNatClampNeg)) (M 0)) fun r5 m6 => lt1 (gs M (3 + (((M 8 1 1) + (M 8 1 2)) - ((M 8 1 1) + (M 8 1 2)) / (nI 4) * (nI 4)).toNatClampNeg) m6) fun M7 => (if (nI 4) ≤ (M7 8 1 2) then gn (nI 4) (lt1 (gs M7 8 (up (M7 8) 1 1 (((M7 8 1 1) + (nI 1)) - ((M7 8 1 1) + (nI 1)) / (nI 4) * (nI 4)))) fun M12 => some (0, M12)) else lt1 (gs M7 8 (up (M7 8) 1 2 ((M7 8 1 2) + (nI 1)))) fun M14 => some (0, M14))))
set_option maxHeartbeats 4000000 in
set_option maxRecDepth 100000 in
theorem c_X2_record {l : Launch} {D : va_G} {cy : Nat → ClassId} {ad : Nat → Nat → Nat} (hcv : CV ad) {M : MM} {r : Int32} {x : MM} (h : f_X2_record M = some (r, x)) : Met l yX2_record (.code yX2_record cX2_record 2 none :: TB) ({ frames := 3, cells := 0, slots := 0, locals := 103 } : Room) (PW D cy ad M [.ref (ad 8 1), .ref (ad 0 0)]) (QV D cy ad x) 0 0 (AD ad) := by
  refine m_in (by decide +kernel) (Nat.le_of_ble_eq_true rfl) ?_
  intro p e s md args below meth c hC hw hS ls hl
  obtain ⟨hx, hb, hr, hml, hown, hts, hK, hlk⟩ := hC
  have hl : lv_has ls 2 [(0, .ref (ad 8 1)), (1, .ref (ad 0 0))] := hl
  unfold f_X2_record at h
  have main : JL p l e ({ frames := 3, cells := 0, slots := 0, locals := 103 } : Room) s md args below meth c D cy ad (MQ below (QV D cy ad x) args s 0 0 (AD ad)) (M) 2 [(0, .ref (ad 8 1)), (1, .ref (ad 0 0))] 0 [] := by
    intro H locs hw hS ls hl
    refine lv_aload_n hx hb dX2_record_0 rfl (lv_at hl 0 rfl) ?_
    refine r_get hx hb hts hown hK hw (v_mn (by decide)) rfl E_hi inX2 rfl 0 (by decide) k_194 rfl rfl dX2_record_1 ?_
    refine lv_aload_n hx hb dX2_record_4 rfl (lv_at hl 0 rfl) ?_
    refine r_get hx hb hts hown hK hw (v_mn (by decide)) rfl E_hi inX2 rfl 1 (by decide) k_195 rfl rfl dX2_record_5 ?_
    refine lv_aload_n hx hb dX2_record_8 rfl (lv_at hl 0 rfl) ?_
    refine r_get hx hb hts hown hK hw (v_mn (by decide)) rfl E_hi inX2 rfl 2 (by decide) k_196 rfl rfl dX2_record_9 ?_
    refine lv_iadd hx hb dX2_record_12 ?_
    refine lv_iconst (v := nI 4) hx hb dX2_record_13 (by decide) ?_
    obtain ⟨q1, h⟩ := t_gn h
    refine lv_irem hx hb dX2_record_14 q1 ?_
    obtain ⟨q2, h⟩ := t_gd h
    have q3 : 3 + (((M 8 1 1) + (M 8 1 2)) - ((M 8 1 1) + (M 8 1 2)) / (nI 4) * (nI 4)).toNatClampNeg < 7 := by have := vin q2; omega
    refine r_aald hx hb hK hw (v_mn (by decide)) (t0 := 4) rfl E_sa (v := .ref (ad (3 + (((M 8 1 1) + (M 8 1 2)) - ((M 8 1 1) + (M 8 1 2)) / (nI 4) * (nI 4)).toNatClampNeg) 0)) rfl q2 dX2_record_15 ?_
    refine lv_aload_n hx hb dX2_record_16 rfl (lv_at hl 1 rfl) ?_
    obtain ⟨r5, m6, y4, h⟩ := t_bd h
    obtain ⟨M7, e8, h⟩ := t_lt h
    refine c_vv hx hb hml hown hts hK hw hS (fun _ h => h) (As := [.ref (ad 0 0)]) (rest := []) (c_X4_copyFrom hcv (g := (3 + (((M 8 1 1) + (M 8 1 2)) - ((M 8 1 1) + (M 8 1 2)) / (nI 4) * (nI 4)).toNatClampNeg)) (hg := q3) (g2 := 0) (hg2 := (by decide)) (M0 := M) (m := M (3 + (((M 8 1 1) + (M 8 1 2)) - ((M 8 1 1) + (M 8 1 2)) / (nI 4) * (nI 4)).toNatClampNeg)) (hm := rfl) (mz := M 0) (hne := by omega) (hm2 := rfl) y4) cf_X4_copyFrom k_235 rfl rfl ⟨Nat.le_of_ble_eq_true rfl, Nat.le_of_ble_eq_true rfl⟩ (r_recv hK hw (v_st q3 (by decide)) (E_st q3) rfl) rfl hl.1 rfl (Nat.le_of_ble_eq_true rfl) ⟨Nat.le_refl _, Nat.le_refl _⟩ dX2_record_17 (fun H locs hw hS => ?_)
    rw [← e8] at hw
    refine lv_aload_n hx hb dX2_record_20 rfl (lv_at hl 0 rfl) ?_
    refine r_get hx hb hts hown hK hw (v_mn (by decide)) rfl E_hi inX2 rfl 2 (by decide) k_196 rfl rfl dX2_record_21 ?_
    refine lv_iconst (v := nI 4) hx hb dX2_record_24 (by decide) ?_
    refine lv_icmp_ge (tgt := 41) hx hb dX2_record_25 (by decide) (fun q9 => ?_) (fun q9 => ?_)
    · replace h := t_pos h q9
      refine lv_aload_n hx hb dX2_record_41 rfl (lv_at hl 0 rfl) ?_
      refine lv_aload_n hx hb dX2_record_42 rfl (lv_at hl 0 rfl) ?_
      refine r_get hx hb hts hown hK hw (v_mn (by decide)) rfl E_hi inX2 rfl 1 (by decide) k_195 rfl rfl dX2_record_43 ?_
      refine lv_iconst (v := nI 1) hx hb dX2_record_46 (by decide) ?_
      refine lv_iadd hx hb dX2_record_47 ?_
      refine lv_iconst (v := nI 4) hx hb dX2_record_48 (by decide) ?_
      obtain ⟨q10, h⟩ := t_gn h
      refine lv_irem hx hb dX2_record_49 q10 ?_
      obtain ⟨M12, e11, h⟩ := t_lt h
      refine r_put hx hb hts hown hK hcv hw hS (v_mn (by decide)) rfl E_hi inX2 rfl tyX2 tyX2_ok nmX2 1 (by decide) k_195 rfl rfl rfl rfl (Nat.le_of_ble_eq_true rfl) E_hi e11.symm dX2_record_50 (fun H locs hw hS => ?_)
      have e1 := (t_ret h).1
      have e2 := (t_ret h).2
      exact e_v hx hb hr hlk hw hS e2 dX2_record_53
    · replace h := t_neg h q9
      refine lv_aload_n hx hb dX2_record_28 rfl (lv_at hl 0 rfl) ?_
      refine lv_dup hx hb dX2_record_29 rfl ?_
      refine r_get hx hb hts hown hK hw (v_mn (by decide)) rfl E_hi inX2 rfl 2 (by decide) k_196 rfl rfl dX2_record_30 ?_
      refine lv_iconst (v := nI 1) hx hb dX2_record_33 (by decide) ?_
      refine lv_iadd hx hb dX2_record_34 ?_
      obtain ⟨M14, e13, h⟩ := t_lt h
      refine r_put hx hb hts hown hK hcv hw hS (v_mn (by decide)) rfl E_hi inX2 rfl tyX2 tyX2_ok nmX2 2 (by decide) k_196 rfl rfl rfl rfl (Nat.le_of_ble_eq_true rfl) E_hi e13.symm dX2_record_35 (fun H locs hw hS => ?_)
      refine lv_goto (tgt := 53) hx hb dX2_record_38 (by decide) ?_
      have e1 := (t_ret h).1
      have e2 := (t_ret h).2
      exact e_v hx hb hr hlk hw hS e2 dX2_record_53
  exact main _ _ hw hS ls hl

theorem cf_X3_finish : cfV RX3 yX3_finish cX3_finish 2 none 1 := ⟨⟨k_290, k_291, k_5, k_292⟩, by decide +kernel⟩
def f_X3_finish (m : SM) (i : Nat) (p0 : Int32) : Option (Int32 × SM) :=
  lt1 (up m (19 + i) 7 p0) fun m2 => lt1 (up m2 (19 + i) 4 (nI 1)) fun m4 => some (0, m4)
set_option maxHeartbeats 4000000 in
set_option maxRecDepth 100000 in
theorem c_X3_finish {l : Launch} {D : va_G} {cy : Nat → ClassId} {ad : Nat → Nat → Nat} (hcv : CV ad) {g : Nat} (hg : g < 7) {i : Nat} (hi : i < 6) {M0 : MM} {m : SM} (hm : M0 g = m) {p0 : Int32} {r : Int32} {x : SM} (h : f_X3_finish m i p0 = some (r, x)) : Met l yX3_finish (.code yX3_finish cX3_finish 2 none :: TB) ({ frames := 0, cells := 0, slots := 0, locals := 0 } : Room) (PW D cy ad M0 [.ref (ad g (19 + i)), .int p0]) (QV D cy ad (gs M0 g x)) 0 0 (AD ad) := by
  refine m_in (by decide +kernel) (Nat.le_of_ble_eq_true rfl) ?_
  intro p e s md args below meth c hC hw hS ls hl
  obtain ⟨hx, hb, hr, hml, hown, hts, hK, hlk⟩ := hC
  have hl : lv_has ls 2 [(0, .ref (ad g (19 + i))), (1, .int p0)] := hl
  rw [← gs_same hm] at hw
  unfold f_X3_finish at h
  have main : JL p l e ({ frames := 0, cells := 0, slots := 0, locals := 0 } : Room) s md args below meth c D cy ad (MQ below (QV D cy ad (gs M0 g x)) args s 0 0 (AD ad)) (gs M0 g m) 2 [(0, .ref (ad g (19 + i))), (1, .int p0)] 0 [] := by
    intro H locs hw hS ls hl
    refine lv_aload_n hx hb dX3_finish_0 rfl (lv_at hl 0 rfl) ?_
    refine lv_iload_n hx hb dX3_finish_1 rfl (lv_at hl 1 rfl) ?_
    obtain ⟨m2, e1, h⟩ := t_lt h
    refine r_put hx hb hts hown hK hcv hw hS (v_qu hg hi) gs_atc (E_qu hg) inX3 rfl tyX3 tyX3_ok nmX3 7 (by decide) k_141 rfl rfl rfl rfl (Nat.le_of_ble_eq_true rfl) (E_qu hg) (gs_up e1) dX3_finish_2 (fun H locs hw hS => ?_)
    refine lv_aload_n hx hb dX3_finish_5 rfl (lv_at hl 0 rfl) ?_
    refine lv_iconst (v := nI 1) hx hb dX3_finish_6 (by decide) ?_
    obtain ⟨m4, e3, h⟩ := t_lt h
    refine r_put hx hb hts hown hK hcv hw hS (v_qu hg hi) gs_atc (E_qu hg) inX3 rfl tyX3 tyX3_ok nmX3 4 (by decide) k_132 rfl rfl rfl rfl (Nat.le_of_ble_eq_true rfl) (E_qu hg) (gs_up e3) dX3_finish_7 (fun H locs hw hS => ?_)
    have e1 := (t_ret h).1
    have e2 := (t_ret h).2
    exact e_v hx hb hr hlk hw hS (by rw [e2]) dX3_finish_10
  exact main _ _ hw hS ls hl

theorem cf_X3_urgency : cfV RX3 yX3_urgency cX3_urgency 2 (some .int) 1 := ⟨⟨k_315, k_316, k_5, k_317⟩, by decide +kernel⟩
def f_X3_urgency (m : SM) (i : Nat) (i2 : Nat) : Option (Int32) :=
  (if (m (19 + i) 0) = (nI 1) then (if (m (19 + i) 2) ≤ (m (3 + i2) 2) then some (nI 0) else (if (m (3 + i2) 3) < (m (19 + i) 2) then some (nI 0) else some (nI 100))) else (if (m (19 + i) 0) = (nI 2) then (if (m (19 + i) 6) ≤ (m (3 + i2) 2) then some (nI 0) else some (nI 100)) else (if (m (19 + i) 0) = (nI 3) then (if (m (3 + i2) 3) ≤ (m (19 + i) 5) then some (nI 0) else some (nI 100)) else (some ((m (3 + i2) 3) - (m (3 + i2) 2))))))
set_option maxHeartbeats 4000000 in
set_option maxRecDepth 100000 in
theorem c_X3_urgency {l : Launch} {D : va_G} {cy : Nat → ClassId} {ad : Nat → Nat → Nat} (hcv : CV ad) {g : Nat} (hg : g < 7) {i : Nat} (hi : i < 6) {i2 : Nat} (hi2 : i2 < 8) {M0 : MM} {m : SM} (hm : M0 g = m) {r : Int32} (h : f_X3_urgency m i i2 = some r) : Met l yX3_urgency (.code yX3_urgency cX3_urgency 2 (some .int) :: TB) ({ frames := 0, cells := 0, slots := 0, locals := 0 } : Room) (PW D cy ad M0 [.ref (ad g (19 + i)), .ref (ad g (3 + i2))]) (QI D cy ad r M0) 0 0 (AD ad) := by
  refine m_in (by decide +kernel) (Nat.le_of_ble_eq_true rfl) ?_
  intro p e s md args below meth c hC hw hS ls hl
  obtain ⟨hx, hb, hr, hml, hown, hts, hK, hlk⟩ := hC
  have hl : lv_has ls 2 [(0, .ref (ad g (19 + i))), (1, .ref (ad g (3 + i2)))] := hl
  rw [← gs_same hm] at hw
  unfold f_X3_urgency at h
  have main : JL p l e ({ frames := 0, cells := 0, slots := 0, locals := 0 } : Room) s md args below meth c D cy ad (MQ below (QI D cy ad r M0) args s 0 0 (AD ad)) (gs M0 g m) 2 [(0, .ref (ad g (19 + i))), (1, .ref (ad g (3 + i2)))] 0 [] := by
    intro H locs hw hS ls hl
    refine lv_aload_n hx hb dX3_urgency_0 rfl (lv_at hl 0 rfl) ?_
    refine r_get hx hb hts hown hK hw (v_qu hg hi) gs_atc (E_qu hg) inX3 rfl 0 (by decide) k_120 rfl rfl dX3_urgency_1 ?_
    by_cases q1 : (m (19 + i) 0) = (nI 1)
    · replace h := t_pos h q1
      refine lv_tableIn (off := 28) (tgt := 32) hx hb dX3_urgency_4 (by rw [q1]; decide) (by rw [q1]; decide) (by rw [q1]; rfl) (by decide) ?_
      refine lv_aload_n hx hb dX3_urgency_32 rfl (lv_at hl 1 rfl) ?_
      refine r_get hx hb hts hown hK hw (v_bk hg hi2) gs_atc (E_bk hg hi2) inX0 rfl 2 (by decide) k_78 rfl rfl dX3_urgency_33 ?_
      refine lv_aload_n hx hb dX3_urgency_36 rfl (lv_at hl 0 rfl) ?_
      refine r_get hx hb hts hown hK hw (v_qu hg hi) gs_atc (E_qu hg) inX3 rfl 2 (by decide) k_126 rfl rfl dX3_urgency_37 ?_
      refine lv_icmp_ge (tgt := 59) hx hb dX3_urgency_40 (by decide) (fun q6 => ?_) (fun q6 => ?_)
      · replace h := t_pos h q6
        refine lv_iconst (v := nI 0) hx hb dX3_urgency_59 (by decide) ?_
        have e1 := Option.some.inj h
        exact e_i hx hb hr hlk hw hS e1 (gs_same hm) dX3_urgency_60
      · replace h := t_neg h q6
        refine lv_aload_n hx hb dX3_urgency_43 rfl (lv_at hl 1 rfl) ?_
        refine r_get hx hb hts hown hK hw (v_bk hg hi2) gs_atc (E_bk hg hi2) inX0 rfl 3 (by decide) k_82 rfl rfl dX3_urgency_44 ?_
        refine lv_aload_n hx hb dX3_urgency_47 rfl (lv_at hl 0 rfl) ?_
        refine r_get hx hb hts hown hK hw (v_qu hg hi) gs_atc (E_qu hg) inX3 rfl 2 (by decide) k_126 rfl rfl dX3_urgency_48 ?_
        refine lv_icmp_lt (tgt := 59) hx hb dX3_urgency_51 (by decide) (fun q7 => ?_) (fun q7 => ?_)
        · replace h := t_pos h q7
          refine lv_iconst (v := nI 0) hx hb dX3_urgency_59 (by decide) ?_
          have e1 := Option.some.inj h
          exact e_i hx hb hr hlk hw hS e1 (gs_same hm) dX3_urgency_60
        · replace h := t_neg h q7
          refine lv_bipush (v := nI 100) hx hb dX3_urgency_54 (by decide) ?_
          refine lv_goto (tgt := 60) hx hb dX3_urgency_56 (by decide) ?_
          have e1 := Option.some.inj h
          exact e_i hx hb hr hlk hw hS e1 (gs_same hm) dX3_urgency_60
    · replace h := t_neg h q1
      by_cases q2 : (m (19 + i) 0) = (nI 2)
      · replace h := t_pos h q2
        refine lv_tableIn (off := 57) (tgt := 61) hx hb dX3_urgency_4 (by rw [q2]; decide) (by rw [q2]; decide) (by rw [q2]; rfl) (by decide) ?_
        refine lv_aload_n hx hb dX3_urgency_61 rfl (lv_at hl 1 rfl) ?_
        refine r_get hx hb hts hown hK hw (v_bk hg hi2) gs_atc (E_bk hg hi2) inX0 rfl 2 (by decide) k_78 rfl rfl dX3_urgency_62 ?_
        refine lv_aload_n hx hb dX3_urgency_65 rfl (lv_at hl 0 rfl) ?_
        refine r_get hx hb hts hown hK hw (v_qu hg hi) gs_atc (E_qu hg) inX3 rfl 6 (by decide) k_138 rfl rfl dX3_urgency_66 ?_
        refine lv_icmp_ge (tgt := 77) hx hb dX3_urgency_69 (by decide) (fun q5 => ?_) (fun q5 => ?_)
        · replace h := t_pos h q5
          refine lv_iconst (v := nI 0) hx hb dX3_urgency_77 (by decide) ?_
          have e1 := Option.some.inj h
          exact e_i hx hb hr hlk hw hS e1 (gs_same hm) dX3_urgency_78
        · replace h := t_neg h q5
          refine lv_bipush (v := nI 100) hx hb dX3_urgency_72 (by decide) ?_
          refine lv_goto (tgt := 78) hx hb dX3_urgency_74 (by decide) ?_
          have e1 := Option.some.inj h
          exact e_i hx hb hr hlk hw hS e1 (gs_same hm) dX3_urgency_78
      · replace h := t_neg h q2
        by_cases q3 : (m (19 + i) 0) = (nI 3)
        · replace h := t_pos h q3
          refine lv_tableIn (off := 75) (tgt := 79) hx hb dX3_urgency_4 (by rw [q3]; decide) (by rw [q3]; decide) (by rw [q3]; rfl) (by decide) ?_
          refine lv_aload_n hx hb dX3_urgency_79 rfl (lv_at hl 1 rfl) ?_
          refine r_get hx hb hts hown hK hw (v_bk hg hi2) gs_atc (E_bk hg hi2) inX0 rfl 3 (by decide) k_82 rfl rfl dX3_urgency_80 ?_
          refine lv_aload_n hx hb dX3_urgency_83 rfl (lv_at hl 0 rfl) ?_
          refine r_get hx hb hts hown hK hw (v_qu hg hi) gs_atc (E_qu hg) inX3 rfl 5 (by decide) k_135 rfl rfl dX3_urgency_84 ?_
          refine lv_icmp_le (tgt := 95) hx hb dX3_urgency_87 (by decide) (fun q4 => ?_) (fun q4 => ?_)
          · replace h := t_pos h q4
            refine lv_iconst (v := nI 0) hx hb dX3_urgency_95 (by decide) ?_
            have e1 := Option.some.inj h
            exact e_i hx hb hr hlk hw hS e1 (gs_same hm) dX3_urgency_96
          · replace h := t_neg h q4
            refine lv_bipush (v := nI 100) hx hb dX3_urgency_90 (by decide) ?_
            refine lv_goto (tgt := 96) hx hb dX3_urgency_92 (by decide) ?_
            have e1 := Option.some.inj h
            exact e_i hx hb hr hlk hw hS e1 (gs_same hm) dX3_urgency_96
        · replace h := t_neg h q3
          refine lv_tableOut (tgt := 97) hx hb dX3_urgency_4 (tab_out (lo := 1) (n := 3) (by decide) (lt_s (lt_s (lt_s lt_0 q1) q2) q3)) (by decide) ?_
          refine lv_aload_n hx hb dX3_urgency_97 rfl (lv_at hl 1 rfl) ?_
          refine r_get hx hb hts hown hK hw (v_bk hg hi2) gs_atc (E_bk hg hi2) inX0 rfl 3 (by decide) k_82 rfl rfl dX3_urgency_98 ?_
          refine lv_aload_n hx hb dX3_urgency_101 rfl (lv_at hl 1 rfl) ?_
          refine r_get hx hb hts hown hK hw (v_bk hg hi2) gs_atc (E_bk hg hi2) inX0 rfl 2 (by decide) k_78 rfl rfl dX3_urgency_102 ?_
          refine lv_isub hx hb dX3_urgency_105 ?_
          have e1 := Option.some.inj h
          exact e_i hx hb hr hlk hw hS e1 (gs_same hm) dX3_urgency_106
  exact main _ _ hw hS ls hl

theorem cf_X4_hasBlock : cfV RX4 yX4_hasBlock cX4_hasBlock 2 (some .boolean) 1 := ⟨⟨k_324, k_325, k_3, k_326⟩, by decide +kernel⟩
def f_X4_hasBlock (m : SM) (p0 : Int32) : Option (Int32) :=
  b1 (f_X5_isFromTo p0 (nI 0) ((m 0 2) - (nI 1))) fun r2 => gz r2 (some r2)
set_option maxHeartbeats 4000000 in
set_option maxRecDepth 100000 in
theorem c_X4_hasBlock {l : Launch} {D : va_G} {cy : Nat → ClassId} {ad : Nat → Nat → Nat} (hcv : CV ad) {g : Nat} (hg : g < 7) {M0 : MM} {m : SM} (hm : M0 g = m) {p0 : Int32} {r : Int32} (h : f_X4_hasBlock m p0 = some r) : Met l yX4_hasBlock (.code yX4_hasBlock cX4_hasBlock 2 (some .boolean) :: TB) ({ frames := 1, cells := 0, slots := 0, locals := 22 } : Room) (PW D cy ad M0 [.ref (ad g 0), .int p0]) (QI D cy ad r M0) 0 0 (AD ad) := by
  refine m_in (by decide +kernel) (Nat.le_of_ble_eq_true rfl) ?_
  intro p e s md args below meth c hC hw hS ls hl
  obtain ⟨hx, hb, hr, hml, hown, hts, hK, hlk⟩ := hC
  have hl : lv_has ls 2 [(0, .ref (ad g 0)), (1, .int p0)] := hl
  rw [← gs_same hm] at hw
  unfold f_X4_hasBlock at h
  have main : JL p l e ({ frames := 1, cells := 0, slots := 0, locals := 22 } : Room) s md args below meth c D cy ad (MQ below (QI D cy ad r M0) args s 0 0 (AD ad)) (gs M0 g m) 2 [(0, .ref (ad g 0)), (1, .int p0)] 0 [] := by
    intro H locs hw hS ls hl
    refine lv_iload_n hx hb dX4_hasBlock_0 rfl (lv_at hl 1 rfl) ?_
    refine lv_iconst (v := nI 0) hx hb dX4_hasBlock_1 (by decide) ?_
    refine lv_aload_n hx hb dX4_hasBlock_2 rfl (lv_at hl 0 rfl) ?_
    refine r_get hx hb hts hown hK hw (v_st hg (by decide)) gs_atc (E_st hg) inX4 rfl 2 (by decide) k_164 rfl rfl dX4_hasBlock_3 ?_
    refine lv_iconst (v := nI 1) hx hb dX4_hasBlock_6 (by decide) ?_
    refine lv_isub hx hb dX4_hasBlock_7 ?_
    obtain ⟨r2, y1, h⟩ := t_b1 h
    refine c_sn hx hb hml hown hts hK hw hS (fun _ h => h) (As := [.int p0, .int (nI 0), .int ((m 0 2) - (nI 1))]) (rest := []) (c_X5_isFromTo hcv (M0 := gs M0 g m) y1) cf_X5_isFromTo k_327n rfl rfl ⟨Nat.le_of_ble_eq_true rfl, Nat.le_of_ble_eq_true rfl⟩ rfl hl.1 rfl (Nat.le_of_ble_eq_true rfl) ⟨Nat.le_refl _, Nat.le_refl _⟩ dX4_hasBlock_8 (fun H locs hw hS => ?_)
    obtain ⟨q3, h⟩ := t_gz h
    have e1 := Option.some.inj h
    exact e_z hx hb hr hlk q3 hw hS e1 (gs_same hm) dX4_hasBlock_11
  exact main _ _ hw hS ls hl

theorem cf_X4_hasRow : cfV RX4 yX4_hasRow cX4_hasRow 3 (some .boolean) 2 := ⟨⟨k_358, k_359, k_3, k_360⟩, by decide +kernel⟩
def f_X4_hasRow (m : SM) (p0 : Int32) (p1 : Int32) : Option (Int32) :=
  b1 (f_X4_hasBlock m p0) fun r2 => (if r2 = (nI 0) then some (nI 0) else gd p0 8 (b1 (f_X5_isFromTo p1 (nI 0) ((m (3 + p0.toNatClampNeg) 4) - (nI 1))) fun r6 => (if r6 = (nI 0) then some (nI 0) else some (nI 1))))
set_option maxHeartbeats 4000000 in
set_option maxRecDepth 100000 in
theorem c_X4_hasRow {l : Launch} {D : va_G} {cy : Nat → ClassId} {ad : Nat → Nat → Nat} (hcv : CV ad) {g : Nat} (hg : g < 7) {M0 : MM} {m : SM} (hm : M0 g = m) {p0 p1 : Int32} {r : Int32} (h : f_X4_hasRow m p0 p1 = some r) : Met l yX4_hasRow (.code yX4_hasRow cX4_hasRow 3 (some .boolean) :: TB) ({ frames := 2, cells := 0, slots := 0, locals := 43 } : Room) (PW D cy ad M0 [.ref (ad g 0), .int p0, .int p1]) (QI D cy ad r M0) 0 0 (AD ad) := by
  refine m_in (by decide +kernel) (Nat.le_of_ble_eq_true rfl) ?_
  intro p e s md args below meth c hC hw hS ls hl
  obtain ⟨hx, hb, hr, hml, hown, hts, hK, hlk⟩ := hC
  have hl : lv_has ls 3 [(0, .ref (ad g 0)), (1, .int p0), (2, .int p1)] := hl
  rw [← gs_same hm] at hw
  unfold f_X4_hasRow at h
  have main : JL p l e ({ frames := 2, cells := 0, slots := 0, locals := 43 } : Room) s md args below meth c D cy ad (MQ below (QI D cy ad r M0) args s 0 0 (AD ad)) (gs M0 g m) 3 [(0, .ref (ad g 0)), (1, .int p0), (2, .int p1)] 0 [] := by
    intro H locs hw hS ls hl
    refine lv_aload_n hx hb dX4_hasRow_0 rfl (lv_at hl 0 rfl) ?_
    refine lv_iload_n hx hb dX4_hasRow_1 rfl (lv_at hl 1 rfl) ?_
    obtain ⟨r2, y1, h⟩ := t_b1 h
    refine c_vi hx hb hml hown hts hK hw hS (fun _ h => h) (As := [.int p0]) (rest := []) (c_X4_hasBlock hcv (g := g) (hg := hg) (M0 := gs M0 g m) (m := m) (hm := gs_at) y1) cf_X4_hasBlock k_323 rfl rfl ⟨Nat.le_of_ble_eq_true rfl, Nat.le_of_ble_eq_true rfl⟩ (r_recv hK hw (v_st hg (by decide)) (E_st hg) rfl) rfl hl.1 rfl (Nat.le_of_ble_eq_true rfl) ⟨Nat.le_refl _, Nat.le_refl _⟩ dX4_hasRow_2 (fun H locs hw hS => ?_)
    refine lv_if_eq (tgt := 31) hx hb dX4_hasRow_5 (by decide) (fun q3 => ?_) (fun q3 => ?_)
    · replace h := t_pos h q3
      refine lv_iconst (v := nI 0) hx hb dX4_hasRow_31 (by decide) ?_
      have e1 := Option.some.inj h
      exact e_z hx hb hr hlk (Or.inl rfl) hw hS e1 (gs_same hm) dX4_hasRow_32
    · replace h := t_neg h q3
      refine lv_iload_n hx hb dX4_hasRow_8 rfl (lv_at hl 2 rfl) ?_
      refine lv_iconst (v := nI 0) hx hb dX4_hasRow_9 (by decide) ?_
      refine lv_aload_n hx hb dX4_hasRow_10 rfl (lv_at hl 0 rfl) ?_
      refine r_get hx hb hts hown hK hw (v_st hg (by decide)) gs_atc (E_st hg) inX4 rfl 0 (by decide) k_160 rfl rfl dX4_hasRow_11 ?_
      refine lv_iload_n hx hb dX4_hasRow_14 rfl (lv_at hl 1 rfl) ?_
      obtain ⟨q4, h⟩ := t_gd h
      refine r_aald hx hb hK hw (v_st hg (by decide)) (t0 := 2) rfl (E_ba hg) (v := .ref (ad g (3 + p0.toNatClampNeg))) rfl q4 dX4_hasRow_15 ?_
      refine r_get hx hb hts hown hK hw (v_bk hg (vin q4)) gs_atc (E_bk hg (vin q4)) inX0 rfl 4 (by decide) k_86 rfl rfl dX4_hasRow_16 ?_
      refine lv_iconst (v := nI 1) hx hb dX4_hasRow_19 (by decide) ?_
      refine lv_isub hx hb dX4_hasRow_20 ?_
      obtain ⟨r6, y5, h⟩ := t_b1 h
      refine c_sn hx hb hml hown hts hK hw hS (fun _ h => h) (As := [.int p1, .int (nI 0), .int ((m (3 + p0.toNatClampNeg) 4) - (nI 1))]) (rest := []) (c_X5_isFromTo hcv (M0 := gs M0 g m) y5) cf_X5_isFromTo k_327n rfl rfl ⟨Nat.le_of_ble_eq_true rfl, Nat.le_of_ble_eq_true rfl⟩ rfl hl.1 rfl (Nat.le_of_ble_eq_true rfl) ⟨Nat.le_refl _, Nat.le_refl _⟩ dX4_hasRow_21 (fun H locs hw hS => ?_)
      refine lv_if_eq (tgt := 31) hx hb dX4_hasRow_24 (by decide) (fun q7 => ?_) (fun q7 => ?_)
      · replace h := t_pos h q7
        refine lv_iconst (v := nI 0) hx hb dX4_hasRow_31 (by decide) ?_
        have e1 := Option.some.inj h
        exact e_z hx hb hr hlk (Or.inl rfl) hw hS e1 (gs_same hm) dX4_hasRow_32
      · replace h := t_neg h q7
        refine lv_iconst (v := nI 1) hx hb dX4_hasRow_27 (by decide) ?_
        refine lv_goto (tgt := 32) hx hb dX4_hasRow_28 (by decide) ?_
        have e1 := Option.some.inj h
        exact e_z hx hb hr hlk (Or.inr rfl) hw hS e1 (gs_same hm) dX4_hasRow_32
  exact main _ _ hw hS ls hl

theorem cf_X4_hasQuestion : cfV RX4 yX4_hasQuestion cX4_hasQuestion 2 (some .boolean) 1 := ⟨⟨k_366, k_367, k_3, k_368⟩, by decide +kernel⟩
def f_X4_hasQuestion (m : SM) (p0 : Int32) : Option (Int32) :=
  b1 (f_X5_isFromTo p0 (nI 0) ((m 0 3) - (nI 1))) fun r2 => gz r2 (some r2)
set_option maxHeartbeats 4000000 in
set_option maxRecDepth 100000 in
theorem c_X4_hasQuestion {l : Launch} {D : va_G} {cy : Nat → ClassId} {ad : Nat → Nat → Nat} (hcv : CV ad) {g : Nat} (hg : g < 7) {M0 : MM} {m : SM} (hm : M0 g = m) {p0 : Int32} {r : Int32} (h : f_X4_hasQuestion m p0 = some r) : Met l yX4_hasQuestion (.code yX4_hasQuestion cX4_hasQuestion 2 (some .boolean) :: TB) ({ frames := 1, cells := 0, slots := 0, locals := 22 } : Room) (PW D cy ad M0 [.ref (ad g 0), .int p0]) (QI D cy ad r M0) 0 0 (AD ad) := by
  refine m_in (by decide +kernel) (Nat.le_of_ble_eq_true rfl) ?_
  intro p e s md args below meth c hC hw hS ls hl
  obtain ⟨hx, hb, hr, hml, hown, hts, hK, hlk⟩ := hC
  have hl : lv_has ls 2 [(0, .ref (ad g 0)), (1, .int p0)] := hl
  rw [← gs_same hm] at hw
  unfold f_X4_hasQuestion at h
  have main : JL p l e ({ frames := 1, cells := 0, slots := 0, locals := 22 } : Room) s md args below meth c D cy ad (MQ below (QI D cy ad r M0) args s 0 0 (AD ad)) (gs M0 g m) 2 [(0, .ref (ad g 0)), (1, .int p0)] 0 [] := by
    intro H locs hw hS ls hl
    refine lv_iload_n hx hb dX4_hasQuestion_0 rfl (lv_at hl 1 rfl) ?_
    refine lv_iconst (v := nI 0) hx hb dX4_hasQuestion_1 (by decide) ?_
    refine lv_aload_n hx hb dX4_hasQuestion_2 rfl (lv_at hl 0 rfl) ?_
    refine r_get hx hb hts hown hK hw (v_st hg (by decide)) gs_atc (E_st hg) inX4 rfl 3 (by decide) k_166 rfl rfl dX4_hasQuestion_3 ?_
    refine lv_iconst (v := nI 1) hx hb dX4_hasQuestion_6 (by decide) ?_
    refine lv_isub hx hb dX4_hasQuestion_7 ?_
    obtain ⟨r2, y1, h⟩ := t_b1 h
    refine c_sn hx hb hml hown hts hK hw hS (fun _ h => h) (As := [.int p0, .int (nI 0), .int ((m 0 3) - (nI 1))]) (rest := []) (c_X5_isFromTo hcv (M0 := gs M0 g m) y1) cf_X5_isFromTo k_327n rfl rfl ⟨Nat.le_of_ble_eq_true rfl, Nat.le_of_ble_eq_true rfl⟩ rfl hl.1 rfl (Nat.le_of_ble_eq_true rfl) ⟨Nat.le_refl _, Nat.le_refl _⟩ dX4_hasQuestion_8 (fun H locs hw hS => ?_)
    obtain ⟨q3, h⟩ := t_gz h
    have e1 := Option.some.inj h
    exact e_z hx hb hr hlk q3 hw hS e1 (gs_same hm) dX4_hasQuestion_11
  exact main _ _ hw hS ls hl

theorem cf_X4_appendBlock : cfV RX4 yX4_appendBlock cX4_appendBlock 2 (some .int) 1 := ⟨⟨k_466, k_467, k_3, k_468⟩, by decide +kernel⟩
def f_X4_appendBlock (m : SM) (mz : SM) : Option (Int32 × SM) :=
  (if (m 0 2) < (nI 8) then gd (m 0 2) 8 (bd (f_X0_copyFromText m mz ((m 0 2).toNatClampNeg)) fun r4 m5 => lt1 (up m5 0 2 ((m5 0 2) + (nI 1))) fun m7 => some (((m7 0 2) - (nI 1)), m7)) else some ((-3 : Int32), m))
set_option maxHeartbeats 4000000 in
set_option maxRecDepth 100000 in
theorem c_X4_appendBlock {l : Launch} {D : va_G} {cy : Nat → ClassId} {ad : Nat → Nat → Nat} (hcv : CV ad) {g : Nat} (hg : g < 7) {M0 : MM} {m : SM} (hm : M0 g = m) (hne : 7 ≠ g) {mz : SM} (hm2 : M0 7 = mz) {r : Int32} {x : SM} (h : f_X4_appendBlock m mz = some (r, x)) : Met l yX4_appendBlock (.code yX4_appendBlock cX4_appendBlock 2 (some .int) :: TB) ({ frames := 4, cells := 0, slots := 0, locals := 85 } : Room) (PW D cy ad M0 [.ref (ad g 0), .ref (ad 7 0)]) (QI D cy ad r (gs M0 g x)) 0 0 (AD ad) := by
  refine m_in (by decide +kernel) (Nat.le_of_ble_eq_true rfl) ?_
  intro p e s md args below meth c hC hw hS ls hl
  obtain ⟨hx, hb, hr, hml, hown, hts, hK, hlk⟩ := hC
  have hl : lv_has ls 2 [(0, .ref (ad g 0)), (1, .ref (ad 7 0))] := hl
  rw [← gs_same hm] at hw
  unfold f_X4_appendBlock at h
  have main : JL p l e ({ frames := 4, cells := 0, slots := 0, locals := 85 } : Room) s md args below meth c D cy ad (MQ below (QI D cy ad r (gs M0 g x)) args s 0 0 (AD ad)) (gs M0 g m) 2 [(0, .ref (ad g 0)), (1, .ref (ad 7 0))] 0 [] := by
    intro H locs hw hS ls hl
    refine lv_aload_n hx hb dX4_appendBlock_0 rfl (lv_at hl 0 rfl) ?_
    refine r_get hx hb hts hown hK hw (v_st hg (by decide)) gs_atc (E_st hg) inX4 rfl 2 (by decide) k_164 rfl rfl dX4_appendBlock_1 ?_
    refine lv_bipush (v := nI 8) hx hb dX4_appendBlock_4 (by decide) ?_
    refine lv_icmp_lt (tgt := 12) hx hb dX4_appendBlock_6 (by decide) (fun q1 => ?_) (fun q1 => ?_)
    · replace h := t_pos h q1
      refine lv_aload_n hx hb dX4_appendBlock_12 rfl (lv_at hl 0 rfl) ?_
      refine r_get hx hb hts hown hK hw (v_st hg (by decide)) gs_atc (E_st hg) inX4 rfl 0 (by decide) k_160 rfl rfl dX4_appendBlock_13 ?_
      refine lv_aload_n hx hb dX4_appendBlock_16 rfl (lv_at hl 0 rfl) ?_
      refine r_get hx hb hts hown hK hw (v_st hg (by decide)) gs_atc (E_st hg) inX4 rfl 2 (by decide) k_164 rfl rfl dX4_appendBlock_17 ?_
      obtain ⟨q2, h⟩ := t_gd h
      refine r_aald hx hb hK hw (v_st hg (by decide)) (t0 := 2) rfl (E_ba hg) (v := .ref (ad g (3 + (m 0 2).toNatClampNeg))) rfl q2 dX4_appendBlock_20 ?_
      refine lv_aload_n hx hb dX4_appendBlock_21 rfl (lv_at hl 1 rfl) ?_
      obtain ⟨r4, m5, y3, h⟩ := t_bd h
      refine c_vv hx hb hml hown hts hK hw hS (fun _ h => h) (As := [.ref (ad 7 0)]) (rest := []) (c_X0_copyFromText hcv (g := g) (hg := hg) (i := (m 0 2).toNatClampNeg) (hi := (vin q2)) (M0 := gs M0 g m) (m := m) (hm := gs_at) (mz := mz) (hne := hne) (hm2 := gs_nem hne hm2) y3) cf_X0_copyFromText k_469 rfl rfl ⟨Nat.le_of_ble_eq_true rfl, Nat.le_of_ble_eq_true rfl⟩ (r_recv hK hw (v_bk hg (vin q2)) (E_bk hg (vin q2)) rfl) rfl hl.1 rfl (Nat.le_of_ble_eq_true rfl) ⟨Nat.le_refl _, Nat.le_refl _⟩ dX4_appendBlock_22 (fun H locs hw hS => ?_)
      rw [gs_gs] at hw
      refine lv_aload_n hx hb dX4_appendBlock_25 rfl (lv_at hl 0 rfl) ?_
      refine lv_dup hx hb dX4_appendBlock_26 rfl ?_
      refine r_get hx hb hts hown hK hw (v_st hg (by decide)) gs_atc (E_st hg) inX4 rfl 2 (by decide) k_164 rfl rfl dX4_appendBlock_27 ?_
      refine lv_iconst (v := nI 1) hx hb dX4_appendBlock_30 (by decide) ?_
      refine lv_iadd hx hb dX4_appendBlock_31 ?_
      obtain ⟨m7, e6, h⟩ := t_lt h
      refine r_put hx hb hts hown hK hcv hw hS (v_st hg (by decide)) gs_atc (E_st hg) inX4 rfl tyX4 tyX4_ok nmX4 2 (by decide) k_164 rfl rfl rfl rfl (Nat.le_of_ble_eq_true rfl) (E_st hg) (gs_up e6) dX4_appendBlock_32 (fun H locs hw hS => ?_)
      refine lv_aload_n hx hb dX4_appendBlock_35 rfl (lv_at hl 0 rfl) ?_
      refine r_get hx hb hts hown hK hw (v_st hg (by decide)) gs_atc (E_st hg) inX4 rfl 2 (by decide) k_164 rfl rfl dX4_appendBlock_36 ?_
      refine lv_iconst (v := nI 1) hx hb dX4_appendBlock_39 (by decide) ?_
      refine lv_isub hx hb dX4_appendBlock_40 ?_
      have e1 := (t_ret h).1
      have e2 := (t_ret h).2
      exact e_i hx hb hr hlk hw hS e1 (by rw [e2]) dX4_appendBlock_41
    · replace h := t_neg h q1
      refine lv_bipush (v := -3) hx hb dX4_appendBlock_9 (by decide) ?_
      have e1 := (t_ret h).1
      have e2 := (t_ret h).2
      exact e_i hx hb hr hlk hw hS e1 (by rw [e2]) dX4_appendBlock_11
  exact main _ _ hw hS ls hl

theorem cf_X4_appendQuestion : cfV RX4 yX4_appendQuestion cX4_appendQuestion 6 (some .int) 4 := ⟨⟨k_488, k_489, k_3, k_490⟩, by decide +kernel⟩
def f_X4_appendQuestion (m : SM) (p0 : Int32) (p1 : Int32) (p2 : Int32) (p3 : Int32) : Option (Int32 × SM) :=
  (if (m 0 3) < (nI 6) then gd (m 0 3) 6 (lt1 (up m (19 + (m 0 3).toNatClampNeg) 0 p0) fun m4 => lt1 (up m4 (19 + (m 0 3).toNatClampNeg) 1 p1) fun m6 => lt1 (up m6 (19 + (m 0 3).toNatClampNeg) 2 p2) fun m8 => lt1 (up m8 (19 + (m 0 3).toNatClampNeg) 3 p3) fun m10 => lt1 (up m10 (19 + (m 0 3).toNatClampNeg) 4 (nI 0)) fun m12 => lt1 (up m12 0 3 ((m12 0 3) + (nI 1))) fun m14 => some (((m14 0 3) - (nI 1)), m14)) else some ((-3 : Int32), m))
set_option maxHeartbeats 4000000 in
set_option maxRecDepth 100000 in
theorem c_X4_appendQuestion {l : Launch} {D : va_G} {cy : Nat → ClassId} {ad : Nat → Nat → Nat} (hcv : CV ad) {g : Nat} (hg : g < 7) {M0 : MM} {m : SM} (hm : M0 g = m) {p0 p1 p2 p3 : Int32} {r : Int32} {x : SM} (h : f_X4_appendQuestion m p0 p1 p2 p3 = some (r, x)) : Met l yX4_appendQuestion (.code yX4_appendQuestion cX4_appendQuestion 6 (some .int) :: TB) ({ frames := 0, cells := 0, slots := 0, locals := 0 } : Room) (PW D cy ad M0 [.ref (ad g 0), .int p0, .int p1, .int p2, .int p3]) (QI D cy ad r (gs M0 g x)) 0 0 (AD ad) := by
  refine m_in (by decide +kernel) (Nat.le_of_ble_eq_true rfl) ?_
  intro p e s md args below meth c hC hw hS ls hl
  obtain ⟨hx, hb, hr, hml, hown, hts, hK, hlk⟩ := hC
  have hl : lv_has ls 6 [(0, .ref (ad g 0)), (1, .int p0), (2, .int p1), (3, .int p2), (4, .int p3)] := hl
  rw [← gs_same hm] at hw
  unfold f_X4_appendQuestion at h
  have main : JL p l e ({ frames := 0, cells := 0, slots := 0, locals := 0 } : Room) s md args below meth c D cy ad (MQ below (QI D cy ad r (gs M0 g x)) args s 0 0 (AD ad)) (gs M0 g m) 6 [(0, .ref (ad g 0)), (1, .int p0), (2, .int p1), (3, .int p2), (4, .int p3)] 0 [] := by
    intro H locs hw hS ls hl
    refine lv_aload_n hx hb dX4_appendQuestion_0 rfl (lv_at hl 0 rfl) ?_
    refine r_get hx hb hts hown hK hw (v_st hg (by decide)) gs_atc (E_st hg) inX4 rfl 3 (by decide) k_166 rfl rfl dX4_appendQuestion_1 ?_
    refine lv_bipush (v := nI 6) hx hb dX4_appendQuestion_4 (by decide) ?_
    refine lv_icmp_lt (tgt := 12) hx hb dX4_appendQuestion_6 (by decide) (fun q1 => ?_) (fun q1 => ?_)
    · replace h := t_pos h q1
      refine lv_aload_n hx hb dX4_appendQuestion_12 rfl (lv_at hl 0 rfl) ?_
      refine r_get hx hb hts hown hK hw (v_st hg (by decide)) gs_atc (E_st hg) inX4 rfl 1 (by decide) k_162 rfl rfl dX4_appendQuestion_13 ?_
      refine lv_aload_n hx hb dX4_appendQuestion_16 rfl (lv_at hl 0 rfl) ?_
      refine r_get hx hb hts hown hK hw (v_st hg (by decide)) gs_atc (E_st hg) inX4 rfl 3 (by decide) k_166 rfl rfl dX4_appendQuestion_17 ?_
      obtain ⟨q2, h⟩ := t_gd h
      refine r_aald hx hb hK hw (v_st hg (by decide)) (t0 := 3) rfl (E_qa hg) (v := .ref (ad g (19 + (m 0 3).toNatClampNeg))) rfl q2 dX4_appendQuestion_20 ?_
      refine lv_astore (lv' := [(5, .ref (ad g (19 + (m 0 3).toNatClampNeg))), (0, .ref (ad g 0)), (1, .int p0), (2, .int p1), (3, .int p2), (4, .int p3)]) hx hb dX4_appendQuestion_21 hl (by decide) rfl (fun ls hl => ?_)
      refine lv_aload hx hb dX4_appendQuestion_23 (lv_at hl 0 rfl) ?_
      refine lv_iload_n hx hb dX4_appendQuestion_25 rfl (lv_at hl 2 rfl) ?_
      obtain ⟨m4, e3, h⟩ := t_lt h
      refine r_put hx hb hts hown hK hcv hw hS (v_qu hg (vin q2)) gs_atc (E_qu hg) inX3 rfl tyX3 tyX3_ok nmX3 0 (by decide) k_121 rfl rfl rfl rfl (Nat.le_of_ble_eq_true rfl) (E_qu hg) (gs_up e3) dX4_appendQuestion_26 (fun H locs hw hS => ?_)
      refine lv_aload hx hb dX4_appendQuestion_29 (lv_at hl 0 rfl) ?_
      refine lv_iload_n hx hb dX4_appendQuestion_31 rfl (lv_at hl 3 rfl) ?_
      obtain ⟨m6, e5, h⟩ := t_lt h
      refine r_put hx hb hts hown hK hcv hw hS (v_qu hg (vin q2)) gs_atc (E_qu hg) inX3 rfl tyX3 tyX3_ok nmX3 1 (by decide) k_124 rfl rfl rfl rfl (Nat.le_of_ble_eq_true rfl) (E_qu hg) (gs_up e5) dX4_appendQuestion_32 (fun H locs hw hS => ?_)
      refine lv_aload hx hb dX4_appendQuestion_35 (lv_at hl 0 rfl) ?_
      refine lv_iload_n hx hb dX4_appendQuestion_37 rfl (lv_at hl 4 rfl) ?_
      obtain ⟨m8, e7, h⟩ := t_lt h
      refine r_put hx hb hts hown hK hcv hw hS (v_qu hg (vin q2)) gs_atc (E_qu hg) inX3 rfl tyX3 tyX3_ok nmX3 2 (by decide) k_127 rfl rfl rfl rfl (Nat.le_of_ble_eq_true rfl) (E_qu hg) (gs_up e7) dX4_appendQuestion_38 (fun H locs hw hS => ?_)
      refine lv_aload hx hb dX4_appendQuestion_41 (lv_at hl 0 rfl) ?_
      refine lv_iload hx hb dX4_appendQuestion_43 (lv_at hl 5 rfl) ?_
      obtain ⟨m10, e9, h⟩ := t_lt h
      refine r_put hx hb hts hown hK hcv hw hS (v_qu hg (vin q2)) gs_atc (E_qu hg) inX3 rfl tyX3 tyX3_ok nmX3 3 (by decide) k_130 rfl rfl rfl rfl (Nat.le_of_ble_eq_true rfl) (E_qu hg) (gs_up e9) dX4_appendQuestion_45 (fun H locs hw hS => ?_)
      refine lv_aload hx hb dX4_appendQuestion_48 (lv_at hl 0 rfl) ?_
      refine lv_iconst (v := nI 0) hx hb dX4_appendQuestion_50 (by decide) ?_
      obtain ⟨m12, e11, h⟩ := t_lt h
      refine r_put hx hb hts hown hK hcv hw hS (v_qu hg (vin q2)) gs_atc (E_qu hg) inX3 rfl tyX3 tyX3_ok nmX3 4 (by decide) k_133 rfl rfl rfl rfl (Nat.le_of_ble_eq_true rfl) (E_qu hg) (gs_up e11) dX4_appendQuestion_51 (fun H locs hw hS => ?_)
      refine lv_aload_n hx hb dX4_appendQuestion_54 rfl (lv_at hl 1 rfl) ?_
      refine lv_dup hx hb dX4_appendQuestion_55 rfl ?_
      refine r_get hx hb hts hown hK hw (v_st hg (by decide)) gs_atc (E_st hg) inX4 rfl 3 (by decide) k_166 rfl rfl dX4_appendQuestion_56 ?_
      refine lv_iconst (v := nI 1) hx hb dX4_appendQuestion_59 (by decide) ?_
      refine lv_iadd hx hb dX4_appendQuestion_60 ?_
      obtain ⟨m14, e13, h⟩ := t_lt h
      refine r_put hx hb hts hown hK hcv hw hS (v_st hg (by decide)) gs_atc (E_st hg) inX4 rfl tyX4 tyX4_ok nmX4 3 (by decide) k_166 rfl rfl rfl rfl (Nat.le_of_ble_eq_true rfl) (E_st hg) (gs_up e13) dX4_appendQuestion_61 (fun H locs hw hS => ?_)
      refine lv_aload_n hx hb dX4_appendQuestion_64 rfl (lv_at hl 1 rfl) ?_
      refine r_get hx hb hts hown hK hw (v_st hg (by decide)) gs_atc (E_st hg) inX4 rfl 3 (by decide) k_166 rfl rfl dX4_appendQuestion_65 ?_
      refine lv_iconst (v := nI 1) hx hb dX4_appendQuestion_68 (by decide) ?_
      refine lv_isub hx hb dX4_appendQuestion_69 ?_
      have e1 := (t_ret h).1
      have e2 := (t_ret h).2
      exact e_i hx hb hr hlk hw hS e1 (by rw [e2]) dX4_appendQuestion_70
    · replace h := t_neg h q1
      refine lv_bipush (v := -3) hx hb dX4_appendQuestion_9 (by decide) ?_
      have e1 := (t_ret h).1
      have e2 := (t_ret h).2
      exact e_i hx hb hr hlk hw hS e1 (by rw [e2]) dX4_appendQuestion_11
  exact main _ _ hw hS ls hl

theorem cf_X5_covers : cfS RX5 yX5_covers cX5_covers 2 (some .boolean) 2 := ⟨⟨k_259, k_1, k_260⟩, by decide +kernel⟩
def f_X5_covers (p0 : Int32) (p1 : Int32) : Option (Int32) :=
  (if ((p0 >>> (p1 &&& 31)) &&& (nI 1)) = (nI 0) then some (nI 0) else some (nI 1))
set_option maxHeartbeats 4000000 in
set_option maxRecDepth 100000 in
theorem c_X5_covers {l : Launch} {D : va_G} {cy : Nat → ClassId} {ad : Nat → Nat → Nat} (hcv : CV ad) {M0 : MM} {p0 p1 : Int32} {r : Int32} (h : f_X5_covers p0 p1 = some r) : Met l yX5_covers (.code yX5_covers cX5_covers 2 (some .boolean) :: TB) ({ frames := 0, cells := 0, slots := 0, locals := 0 } : Room) (PW D cy ad M0 [.int p0, .int p1]) (QI D cy ad r M0) 0 0 (AD ad) := by
  refine m_in (by decide +kernel) (Nat.le_of_ble_eq_true rfl) ?_
  intro p e s md args below meth c hC hw hS ls hl
  obtain ⟨hx, hb, hr, hml, hown, hts, hK, hlk⟩ := hC
  have hl : lv_has ls 2 [(0, .int p0), (1, .int p1)] := hl
  unfold f_X5_covers at h
  have main : JL p l e ({ frames := 0, cells := 0, slots := 0, locals := 0 } : Room) s md args below meth c D cy ad (MQ below (QI D cy ad r M0) args s 0 0 (AD ad)) (M0) 2 [(0, .int p0), (1, .int p1)] 0 [] := by
    intro H locs hw hS ls hl
    refine lv_iload_n hx hb dX5_covers_0 rfl (lv_at hl 0 rfl) ?_
    refine lv_iload_n hx hb dX5_covers_1 rfl (lv_at hl 1 rfl) ?_
    refine lv_ishr hx hb dX5_covers_2 ?_
    refine lv_iconst (v := nI 1) hx hb dX5_covers_3 (by decide) ?_
    refine lv_iand hx hb dX5_covers_4 ?_
    refine lv_if_eq (tgt := 12) hx hb dX5_covers_5 (by decide) (fun q1 => ?_) (fun q1 => ?_)
    · replace h := t_pos h q1
      refine lv_iconst (v := nI 0) hx hb dX5_covers_12 (by decide) ?_
      have e1 := Option.some.inj h
      exact e_z hx hb hr hlk (Or.inl rfl) hw hS e1 rfl dX5_covers_13
    · replace h := t_neg h q1
      refine lv_iconst (v := nI 1) hx hb dX5_covers_8 (by decide) ?_
      refine lv_goto (tgt := 13) hx hb dX5_covers_9 (by decide) ?_
      have e1 := Option.some.inj h
      exact e_z hx hb hr hlk (Or.inr rfl) hw hS e1 rfl dX5_covers_13
  exact main _ _ hw hS ls hl

theorem cf_X4_rows : cfV RX4 yX4_rows cX4_rows 4 (some .int) 1 := ⟨⟨k_255, k_256, k_3, k_257⟩, by decide +kernel⟩
def f_X4_rows_L4 (m : SM) (p0 : Int32) : Nat → Int32 → Int32 → Option (Int32)
  | 0, _, _ => none
  | n + 1, x2, x3 => (if (m 0 2) ≤ x3 then some x2 else gd x3 8 (b1 (f_X5_covers p0 (m (3 + x3.toNatClampNeg) 1)) fun r4 => (if r4 = (nI 0) then f_X4_rows_L4 m p0 n x2 (x3 + (nI 1)) else gd x3 8 (f_X4_rows_L4 m p0 n (x2 + (m (3 + x3.toNatClampNeg) 4)) (x3 + (nI 1))))))
def f_X4_rows (m : SM) (p0 : Int32) : Option (Int32) :=
  f_X4_rows_L4 m p0 FU (nI 0) (nI 0)
set_option maxHeartbeats 4000000 in
set_option maxRecDepth 100000 in
theorem c_X4_rows {l : Launch} {D : va_G} {cy : Nat → ClassId} {ad : Nat → Nat → Nat} (hcv : CV ad) {g : Nat} (hg : g < 7) {M0 : MM} {m : SM} (hm : M0 g = m) {p0 : Int32} {r : Int32} (h : f_X4_rows m p0 = some r) : Met l yX4_rows (.code yX4_rows cX4_rows 4 (some .int) :: TB) ({ frames := 1, cells := 0, slots := 0, locals := 21 } : Room) (PW D cy ad M0 [.ref (ad g 0), .int p0]) (QI D cy ad r M0) 0 0 (AD ad) := by
  refine m_in (by decide +kernel) (Nat.le_of_ble_eq_true rfl) ?_
  intro p e s md args below meth c hC hw hS ls hl
  obtain ⟨hx, hb, hr, hml, hown, hts, hK, hlk⟩ := hC
  have hl : lv_has ls 4 [(0, .ref (ad g 0)), (1, .int p0)] := hl
  rw [← gs_same hm] at hw
  have L4 : ∀ (n : Nat), ∀ (x2 : Int32) (x3 : Int32), f_X4_rows_L4 m p0 n x2 x3 = some r → JL p l e ({ frames := 1, cells := 0, slots := 0, locals := 21 } : Room) s md args below meth c D cy ad (MQ below (QI D cy ad r M0) args s 0 0 (AD ad)) (gs M0 g m) 4 [(0, .ref (ad g 0)), (1, .int p0), (2, .int x2), (3, .int x3)] 4 [] := by
    intro n
    induction n with
    | zero =>
      intro x2 x3 h
      cases h
    | succ n ih =>
      intro x2 x3 h H locs hw hS ls hl
      rw [f_X4_rows_L4.eq_2] at h
      refine lv_iload_n hx hb dX4_rows_4 rfl (lv_at hl 3 rfl) ?_
      refine lv_aload_n hx hb dX4_rows_5 rfl (lv_at hl 0 rfl) ?_
      refine r_get hx hb hts hown hK hw (v_st hg (by decide)) gs_atc (E_st hg) inX4 rfl 2 (by decide) k_164 rfl rfl dX4_rows_6 ?_
      refine lv_icmp_ge (tgt := 46) hx hb dX4_rows_9 (by decide) (fun q1 => ?_) (fun q1 => ?_)
      · replace h := t_pos h q1
        refine lv_iload_n hx hb dX4_rows_46 rfl (lv_at hl 2 rfl) ?_
        have e1 := Option.some.inj h
        exact e_i hx hb hr hlk hw hS e1 (gs_same hm) dX4_rows_47
      · replace h := t_neg h q1
        refine lv_iload_n hx hb dX4_rows_12 rfl (lv_at hl 1 rfl) ?_
        refine lv_aload_n hx hb dX4_rows_13 rfl (lv_at hl 0 rfl) ?_
        refine r_get hx hb hts hown hK hw (v_st hg (by decide)) gs_atc (E_st hg) inX4 rfl 0 (by decide) k_160 rfl rfl dX4_rows_14 ?_
        refine lv_iload_n hx hb dX4_rows_17 rfl (lv_at hl 3 rfl) ?_
        obtain ⟨q2, h⟩ := t_gd h
        refine r_aald hx hb hK hw (v_st hg (by decide)) (t0 := 2) rfl (E_ba hg) (v := .ref (ad g (3 + x3.toNatClampNeg))) rfl q2 dX4_rows_18 ?_
        refine r_get hx hb hts hown hK hw (v_bk hg (vin q2)) gs_atc (E_bk hg (vin q2)) inX0 rfl 1 (by decide) k_75 rfl rfl dX4_rows_19 ?_
        obtain ⟨r4, y3, h⟩ := t_b1 h
        refine c_sn hx hb hml hown hts hK hw hS (fun _ h => h) (As := [.int p0, .int (m (3 + x3.toNatClampNeg) 1)]) (rest := []) (c_X5_covers hcv (M0 := gs M0 g m) y3) cf_X5_covers k_258n rfl rfl ⟨Nat.le_of_ble_eq_true rfl, Nat.le_of_ble_eq_true rfl⟩ rfl hl.1 rfl (Nat.le_of_ble_eq_true rfl) ⟨Nat.le_refl _, Nat.le_refl _⟩ dX4_rows_22 (fun H locs hw hS => ?_)
        refine lv_if_eq (tgt := 40) hx hb dX4_rows_25 (by decide) (fun q5 => ?_) (fun q5 => ?_)
        · replace h := t_pos h q5
          refine lv_iinc (v := (x3 + (nI 1))) (lv' := [(3, .int (x3 + (nI 1))), (0, .ref (ad g 0)), (1, .int p0), (2, .int x2)]) hx hb dX4_rows_40 hl (k := 3) rfl rfl (by decide) rfl (fun ls hl => ?_)
          refine lv_goto (tgt := 4) hx hb dX4_rows_43 (by decide) ?_
          exact ih x2 (x3 + (nI 1)) h H locs hw hS ls (lv_sub hl [1, 2, 3, 0] rfl)
        · replace h := t_neg h q5
          refine lv_iload_n hx hb dX4_rows_28 rfl (lv_at hl 2 rfl) ?_
          refine lv_aload_n hx hb dX4_rows_29 rfl (lv_at hl 0 rfl) ?_
          refine r_get hx hb hts hown hK hw (v_st hg (by decide)) gs_atc (E_st hg) inX4 rfl 0 (by decide) k_160 rfl rfl dX4_rows_30 ?_
          refine lv_iload_n hx hb dX4_rows_33 rfl (lv_at hl 3 rfl) ?_
          obtain ⟨q6, h⟩ := t_gd h
          refine r_aald hx hb hK hw (v_st hg (by decide)) (t0 := 2) rfl (E_ba hg) (v := .ref (ad g (3 + x3.toNatClampNeg))) rfl q6 dX4_rows_34 ?_
          refine r_get hx hb hts hown hK hw (v_bk hg (vin q6)) gs_atc (E_bk hg (vin q6)) inX0 rfl 4 (by decide) k_86 rfl rfl dX4_rows_35 ?_
          refine lv_iadd hx hb dX4_rows_38 ?_
          refine lv_istore_n (lv' := [(2, .int (x2 + (m (3 + x3.toNatClampNeg) 4))), (0, .ref (ad g 0)), (1, .int p0), (3, .int x3)]) hx hb dX4_rows_39 rfl hl (by decide) rfl (fun ls hl => ?_)
          refine lv_iinc (v := (x3 + (nI 1))) (lv' := [(3, .int (x3 + (nI 1))), (2, .int (x2 + (m (3 + x3.toNatClampNeg) 4))), (0, .ref (ad g 0)), (1, .int p0)]) hx hb dX4_rows_40 hl (k := 3) rfl rfl (by decide) rfl (fun ls hl => ?_)
          refine lv_goto (tgt := 4) hx hb dX4_rows_43 (by decide) ?_
          exact ih (x2 + (m (3 + x3.toNatClampNeg) 4)) (x3 + (nI 1)) h H locs hw hS ls (lv_sub hl [2, 3, 1, 0] rfl)
  unfold f_X4_rows at h
  have main : JL p l e ({ frames := 1, cells := 0, slots := 0, locals := 21 } : Room) s md args below meth c D cy ad (MQ below (QI D cy ad r M0) args s 0 0 (AD ad)) (gs M0 g m) 4 [(0, .ref (ad g 0)), (1, .int p0)] 0 [] := by
    intro H locs hw hS ls hl
    refine lv_iconst (v := nI 0) hx hb dX4_rows_0 (by decide) ?_
    refine lv_istore_n (lv' := [(2, .int (nI 0)), (0, .ref (ad g 0)), (1, .int p0)]) hx hb dX4_rows_1 rfl hl (by decide) rfl (fun ls hl => ?_)
    refine lv_iconst (v := nI 0) hx hb dX4_rows_2 (by decide) ?_
    refine lv_istore_n (lv' := [(3, .int (nI 0)), (2, .int (nI 0)), (0, .ref (ad g 0)), (1, .int p0)]) hx hb dX4_rows_3 rfl hl (by decide) rfl (fun ls hl => ?_)
    exact L4 FU (nI 0) (nI 0) h H locs hw hS ls (lv_sub hl [2, 3, 1, 0] rfl)
  exact main _ _ hw hS ls hl

theorem cf_X4_readRows : cfV RX4 yX4_readRows cX4_readRows 4 (some .int) 1 := ⟨⟨k_372, k_373, k_3, k_374⟩, by decide +kernel⟩
def f_X4_readRows_L4 (m : SM) (p0 : Int32) : Nat → Int32 → Int32 → Option (Int32)
  | 0, _, _ => none
  | n + 1, x2, x3 => (if (m 0 2) ≤ x3 then some x2 else gd x3 8 (b1 (f_X5_covers p0 (m (3 + x3.toNatClampNeg) 1)) fun r4 => (if r4 = (nI 0) then f_X4_readRows_L4 m p0 n x2 (x3 + (nI 1)) else gd x3 8 (f_X4_readRows_L4 m p0 n (x2 + (m (3 + x3.toNatClampNeg) 5)) (x3 + (nI 1))))))
def f_X4_readRows (m : SM) (p0 : Int32) : Option (Int32) :=
  f_X4_readRows_L4 m p0 FU (nI 0) (nI 0)
set_option maxHeartbeats 4000000 in
set_option maxRecDepth 100000 in
theorem c_X4_readRows {l : Launch} {D : va_G} {cy : Nat → ClassId} {ad : Nat → Nat → Nat} (hcv : CV ad) {g : Nat} (hg : g < 7) {M0 : MM} {m : SM} (hm : M0 g = m) {p0 : Int32} {r : Int32} (h : f_X4_readRows m p0 = some r) : Met l yX4_readRows (.code yX4_readRows cX4_readRows 4 (some .int) :: TB) ({ frames := 1, cells := 0, slots := 0, locals := 21 } : Room) (PW D cy ad M0 [.ref (ad g 0), .int p0]) (QI D cy ad r M0) 0 0 (AD ad) := by
  refine m_in (by decide +kernel) (Nat.le_of_ble_eq_true rfl) ?_
  intro p e s md args below meth c hC hw hS ls hl
  obtain ⟨hx, hb, hr, hml, hown, hts, hK, hlk⟩ := hC
  have hl : lv_has ls 4 [(0, .ref (ad g 0)), (1, .int p0)] := hl
  rw [← gs_same hm] at hw
  have L4 : ∀ (n : Nat), ∀ (x2 : Int32) (x3 : Int32), f_X4_readRows_L4 m p0 n x2 x3 = some r → JL p l e ({ frames := 1, cells := 0, slots := 0, locals := 21 } : Room) s md args below meth c D cy ad (MQ below (QI D cy ad r M0) args s 0 0 (AD ad)) (gs M0 g m) 4 [(0, .ref (ad g 0)), (1, .int p0), (2, .int x2), (3, .int x3)] 4 [] := by
    intro n
    induction n with
    | zero =>
      intro x2 x3 h
      cases h
    | succ n ih =>
      intro x2 x3 h H locs hw hS ls hl
      rw [f_X4_readRows_L4.eq_2] at h
      refine lv_iload_n hx hb dX4_readRows_4 rfl (lv_at hl 3 rfl) ?_
      refine lv_aload_n hx hb dX4_readRows_5 rfl (lv_at hl 0 rfl) ?_
      refine r_get hx hb hts hown hK hw (v_st hg (by decide)) gs_atc (E_st hg) inX4 rfl 2 (by decide) k_164 rfl rfl dX4_readRows_6 ?_
      refine lv_icmp_ge (tgt := 46) hx hb dX4_readRows_9 (by decide) (fun q1 => ?_) (fun q1 => ?_)
      · replace h := t_pos h q1
        refine lv_iload_n hx hb dX4_readRows_46 rfl (lv_at hl 2 rfl) ?_
        have e1 := Option.some.inj h
        exact e_i hx hb hr hlk hw hS e1 (gs_same hm) dX4_readRows_47
      · replace h := t_neg h q1
        refine lv_iload_n hx hb dX4_readRows_12 rfl (lv_at hl 1 rfl) ?_
        refine lv_aload_n hx hb dX4_readRows_13 rfl (lv_at hl 0 rfl) ?_
        refine r_get hx hb hts hown hK hw (v_st hg (by decide)) gs_atc (E_st hg) inX4 rfl 0 (by decide) k_160 rfl rfl dX4_readRows_14 ?_
        refine lv_iload_n hx hb dX4_readRows_17 rfl (lv_at hl 3 rfl) ?_
        obtain ⟨q2, h⟩ := t_gd h
        refine r_aald hx hb hK hw (v_st hg (by decide)) (t0 := 2) rfl (E_ba hg) (v := .ref (ad g (3 + x3.toNatClampNeg))) rfl q2 dX4_readRows_18 ?_
        refine r_get hx hb hts hown hK hw (v_bk hg (vin q2)) gs_atc (E_bk hg (vin q2)) inX0 rfl 1 (by decide) k_75 rfl rfl dX4_readRows_19 ?_
        obtain ⟨r4, y3, h⟩ := t_b1 h
        refine c_sn hx hb hml hown hts hK hw hS (fun _ h => h) (As := [.int p0, .int (m (3 + x3.toNatClampNeg) 1)]) (rest := []) (c_X5_covers hcv (M0 := gs M0 g m) y3) cf_X5_covers k_258n rfl rfl ⟨Nat.le_of_ble_eq_true rfl, Nat.le_of_ble_eq_true rfl⟩ rfl hl.1 rfl (Nat.le_of_ble_eq_true rfl) ⟨Nat.le_refl _, Nat.le_refl _⟩ dX4_readRows_22 (fun H locs hw hS => ?_)
        refine lv_if_eq (tgt := 40) hx hb dX4_readRows_25 (by decide) (fun q5 => ?_) (fun q5 => ?_)
        · replace h := t_pos h q5
          refine lv_iinc (v := (x3 + (nI 1))) (lv' := [(3, .int (x3 + (nI 1))), (0, .ref (ad g 0)), (1, .int p0), (2, .int x2)]) hx hb dX4_readRows_40 hl (k := 3) rfl rfl (by decide) rfl (fun ls hl => ?_)
          refine lv_goto (tgt := 4) hx hb dX4_readRows_43 (by decide) ?_
          exact ih x2 (x3 + (nI 1)) h H locs hw hS ls (lv_sub hl [1, 2, 3, 0] rfl)
        · replace h := t_neg h q5
          refine lv_iload_n hx hb dX4_readRows_28 rfl (lv_at hl 2 rfl) ?_
          refine lv_aload_n hx hb dX4_readRows_29 rfl (lv_at hl 0 rfl) ?_
          refine r_get hx hb hts hown hK hw (v_st hg (by decide)) gs_atc (E_st hg) inX4 rfl 0 (by decide) k_160 rfl rfl dX4_readRows_30 ?_
          refine lv_iload_n hx hb dX4_readRows_33 rfl (lv_at hl 3 rfl) ?_
          obtain ⟨q6, h⟩ := t_gd h
          refine r_aald hx hb hK hw (v_st hg (by decide)) (t0 := 2) rfl (E_ba hg) (v := .ref (ad g (3 + x3.toNatClampNeg))) rfl q6 dX4_readRows_34 ?_
          refine r_get hx hb hts hown hK hw (v_bk hg (vin q6)) gs_atc (E_bk hg (vin q6)) inX0 rfl 5 (by decide) k_89 rfl rfl dX4_readRows_35 ?_
          refine lv_iadd hx hb dX4_readRows_38 ?_
          refine lv_istore_n (lv' := [(2, .int (x2 + (m (3 + x3.toNatClampNeg) 5))), (0, .ref (ad g 0)), (1, .int p0), (3, .int x3)]) hx hb dX4_readRows_39 rfl hl (by decide) rfl (fun ls hl => ?_)
          refine lv_iinc (v := (x3 + (nI 1))) (lv' := [(3, .int (x3 + (nI 1))), (2, .int (x2 + (m (3 + x3.toNatClampNeg) 5))), (0, .ref (ad g 0)), (1, .int p0)]) hx hb dX4_readRows_40 hl (k := 3) rfl rfl (by decide) rfl (fun ls hl => ?_)
          refine lv_goto (tgt := 4) hx hb dX4_readRows_43 (by decide) ?_
          exact ih (x2 + (m (3 + x3.toNatClampNeg) 5)) (x3 + (nI 1)) h H locs hw hS ls (lv_sub hl [2, 3, 1, 0] rfl)
  unfold f_X4_readRows at h
  have main : JL p l e ({ frames := 1, cells := 0, slots := 0, locals := 21 } : Room) s md args below meth c D cy ad (MQ below (QI D cy ad r M0) args s 0 0 (AD ad)) (gs M0 g m) 4 [(0, .ref (ad g 0)), (1, .int p0)] 0 [] := by
    intro H locs hw hS ls hl
    refine lv_iconst (v := nI 0) hx hb dX4_readRows_0 (by decide) ?_
    refine lv_istore_n (lv' := [(2, .int (nI 0)), (0, .ref (ad g 0)), (1, .int p0)]) hx hb dX4_readRows_1 rfl hl (by decide) rfl (fun ls hl => ?_)
    refine lv_iconst (v := nI 0) hx hb dX4_readRows_2 (by decide) ?_
    refine lv_istore_n (lv' := [(3, .int (nI 0)), (2, .int (nI 0)), (0, .ref (ad g 0)), (1, .int p0)]) hx hb dX4_readRows_3 rfl hl (by decide) rfl (fun ls hl => ?_)
    exact L4 FU (nI 0) (nI 0) h H locs hw hS ls (lv_sub hl [2, 3, 1, 0] rfl)
  exact main _ _ hw hS ls hl

theorem cf_X4_openQuestions : cfV RX4 yX4_openQuestions cX4_openQuestions 3 (some .int) 0 := ⟨⟨k_338, k_339, k_3, k_340⟩, by decide +kernel⟩
def f_X4_openQuestions_L4 (m : SM) : Nat → Int32 → Int32 → Option (Int32)
  | 0, _, _ => none
  | n + 1, x1, x2 => (if (m 0 3) ≤ x2 then some x1 else gd x2 6 ((if (m (19 + x2.toNatClampNeg) 4) = (nI 0) then f_X4_openQuestions_L4 m n (x1 + (nI 1)) (x2 + (nI 1)) else f_X4_openQuestions_L4 m n x1 (x2 + (nI 1)))))
def f_X4_openQuestions (m : SM) : Option (Int32) :=
  f_X4_openQuestions_L4 m FU (nI 0) (nI 0)
set_option maxHeartbeats 4000000 in
set_option maxRecDepth 100000 in
theorem c_X4_openQuestions {l : Launch} {D : va_G} {cy : Nat → ClassId} {ad : Nat → Nat → Nat} (hcv : CV ad) {g : Nat} (hg : g < 7) {M0 : MM} {m : SM} (hm : M0 g = m) {r : Int32} (h : f_X4_openQuestions m = some r) : Met l yX4_openQuestions (.code yX4_openQuestions cX4_openQuestions 3 (some .int) :: TB) ({ frames := 0, cells := 0, slots := 0, locals := 0 } : Room) (PW D cy ad M0 [.ref (ad g 0)]) (QI D cy ad r M0) 0 0 (AD ad) := by
  refine m_in (by decide +kernel) (Nat.le_of_ble_eq_true rfl) ?_
  intro p e s md args below meth c hC hw hS ls hl
  obtain ⟨hx, hb, hr, hml, hown, hts, hK, hlk⟩ := hC
  have hl : lv_has ls 3 [(0, .ref (ad g 0))] := hl
  rw [← gs_same hm] at hw
  have L4 : ∀ (n : Nat), ∀ (x1 : Int32) (x2 : Int32), f_X4_openQuestions_L4 m n x1 x2 = some r → JL p l e ({ frames := 0, cells := 0, slots := 0, locals := 0 } : Room) s md args below meth c D cy ad (MQ below (QI D cy ad r M0) args s 0 0 (AD ad)) (gs M0 g m) 3 [(0, .ref (ad g 0)), (1, .int x1), (2, .int x2)] 4 [] := by
    intro n
    induction n with
    | zero =>
      intro x1 x2 h
      cases h
    | succ n ih =>
      intro x1 x2 h H locs hw hS ls hl
      rw [f_X4_openQuestions_L4.eq_2] at h
      refine lv_iload_n hx hb dX4_openQuestions_4 rfl (lv_at hl 2 rfl) ?_
      refine lv_aload_n hx hb dX4_openQuestions_5 rfl (lv_at hl 0 rfl) ?_
      refine r_get hx hb hts hown hK hw (v_st hg (by decide)) gs_atc (E_st hg) inX4 rfl 3 (by decide) k_166 rfl rfl dX4_openQuestions_6 ?_
      refine lv_icmp_ge (tgt := 33) hx hb dX4_openQuestions_9 (by decide) (fun q1 => ?_) (fun q1 => ?_)
      · replace h := t_pos h q1
        refine lv_iload_n hx hb dX4_openQuestions_33 rfl (lv_at hl 1 rfl) ?_
        have e1 := Option.some.inj h
        exact e_i hx hb hr hlk hw hS e1 (gs_same hm) dX4_openQuestions_34
      · replace h := t_neg h q1
        refine lv_aload_n hx hb dX4_openQuestions_12 rfl (lv_at hl 0 rfl) ?_
        refine r_get hx hb hts hown hK hw (v_st hg (by decide)) gs_atc (E_st hg) inX4 rfl 1 (by decide) k_162 rfl rfl dX4_openQuestions_13 ?_
        refine lv_iload_n hx hb dX4_openQuestions_16 rfl (lv_at hl 2 rfl) ?_
        obtain ⟨q2, h⟩ := t_gd h
        refine r_aald hx hb hK hw (v_st hg (by decide)) (t0 := 3) rfl (E_qa hg) (v := .ref (ad g (19 + x2.toNatClampNeg))) rfl q2 dX4_openQuestions_17 ?_
        refine r_get hx hb hts hown hK hw (v_qu hg (vin q2)) gs_atc (E_qu hg) inX3 rfl 4 (by decide) k_133 rfl rfl dX4_openQuestions_18 ?_
        refine lv_if_ne (tgt := 27) hx hb dX4_openQuestions_21 (by decide) (fun q3 => ?_) (fun q3 => ?_)
        · replace h := t_neg h q3
          refine lv_iinc (v := (x2 + (nI 1))) (lv' := [(2, .int (x2 + (nI 1))), (0, .ref (ad g 0)), (1, .int x1)]) hx hb dX4_openQuestions_27 hl (k := 2) rfl rfl (by decide) rfl (fun ls hl => ?_)
          refine lv_goto (tgt := 4) hx hb dX4_openQuestions_30 (by decide) ?_
          exact ih x1 (x2 + (nI 1)) h H locs hw hS ls (lv_sub hl [1, 2, 0] rfl)
        · replace h := t_pos h q3
          refine lv_iinc (v := (x1 + (nI 1))) (lv' := [(1, .int (x1 + (nI 1))), (0, .ref (ad g 0)), (2, .int x2)]) hx hb dX4_openQuestions_24 hl (k := 1) rfl rfl (by decide) rfl (fun ls hl => ?_)
          refine lv_iinc (v := (x2 + (nI 1))) (lv' := [(2, .int (x2 + (nI 1))), (1, .int (x1 + (nI 1))), (0, .ref (ad g 0))]) hx hb dX4_openQuestions_27 hl (k := 2) rfl rfl (by decide) rfl (fun ls hl => ?_)
          refine lv_goto (tgt := 4) hx hb dX4_openQuestions_30 (by decide) ?_
          exact ih (x1 + (nI 1)) (x2 + (nI 1)) h H locs hw hS ls (lv_sub hl [2, 1, 0] rfl)
  unfold f_X4_openQuestions at h
  have main : JL p l e ({ frames := 0, cells := 0, slots := 0, locals := 0 } : Room) s md args below meth c D cy ad (MQ below (QI D cy ad r M0) args s 0 0 (AD ad)) (gs M0 g m) 3 [(0, .ref (ad g 0))] 0 [] := by
    intro H locs hw hS ls hl
    refine lv_iconst (v := nI 0) hx hb dX4_openQuestions_0 (by decide) ?_
    refine lv_istore_n (lv' := [(1, .int (nI 0)), (0, .ref (ad g 0))]) hx hb dX4_openQuestions_1 rfl hl (by decide) rfl (fun ls hl => ?_)
    refine lv_iconst (v := nI 0) hx hb dX4_openQuestions_2 (by decide) ?_
    refine lv_istore_n (lv' := [(2, .int (nI 0)), (1, .int (nI 0)), (0, .ref (ad g 0))]) hx hb dX4_openQuestions_3 rfl hl (by decide) rfl (fun ls hl => ?_)
    exact L4 FU (nI 0) (nI 0) h H locs hw hS ls (lv_sub hl [2, 1, 0] rfl)
  exact main _ _ hw hS ls hl

theorem cf_X4_assumed : cfV RX4 yX4_assumed cX4_assumed 6 (some .int) 2 := ⟨⟨k_266, k_267, k_3, k_268⟩, by decide +kernel⟩
def f_X4_assumed_L87 (m : SM) (i : Nat) (p0 : Int32) (x3 : Int32) (x4 : Int32) : Option (Int32) :=
  (if x3 = (nI 0) then gn (nI 2) (some (((m (3 + i) 2) + (m (3 + i) 3)) / (nI 2))) else gn x3 (some (mx (m (3 + i) 2) (mn (m (3 + i) 3) (x4 / x3)))))
def f_X4_assumed_L27 (m : SM) (i : Nat) (p0 : Int32) : Nat → Int32 → Int32 → Int32 → Option (Int32)
  | 0, _, _, _ => none
  | n + 1, x3, x4, x5 => (if (m 0 2) ≤ x5 then f_X4_assumed_L87 m i p0 x3 x4 else gd x5 8 ((if (m (3 + x5.toNatClampNeg) 1) = (m (3 + i) 1) then gd x5 8 (gd x5 8 (f_X4_assumed_L27 m i p0 n (x3 + (m (3 + x5.toNatClampNeg) 5)) (x4 + (m (3 + x5.toNatClampNeg) 6)) (x5 + (nI 1)))) else f_X4_assumed_L27 m i p0 n x3 x4 (x5 + (nI 1)))))
def f_X4_assumed (m : SM) (i : Nat) (p0 : Int32) : Option (Int32) :=
  (if p0 = (nI 0) then some (m (3 + i) 2) else (if p0 = (nI 1) then some (m (3 + i) 3) else f_X4_assumed_L27 m i p0 FU (nI 0) (nI 0) (nI 0)))
set_option maxHeartbeats 4000000 in
set_option maxRecDepth 100000 in
theorem c_X4_assumed {l : Launch} {D : va_G} {cy : Nat → ClassId} {ad : Nat → Nat → Nat} (hcv : CV ad) {g : Nat} (hg : g < 7) {i : Nat} (hi : i < 8) {M0 : MM} {m : SM} (hm : M0 g = m) {p0 : Int32} {r : Int32} (h : f_X4_assumed m i p0 = some r) : Met l yX4_assumed (.code yX4_assumed cX4_assumed 6 (some .int) :: TB) ({ frames := 1, cells := 0, slots := 0, locals := 21 } : Room) (PW D cy ad M0 [.ref (ad g 0), .ref (ad g (3 + i)), .int p0]) (QI D cy ad r M0) 0 0 (AD ad) := by
  refine m_in (by decide +kernel) (Nat.le_of_ble_eq_true rfl) ?_
  intro p e s md args below meth c hC hw hS ls hl
  obtain ⟨hx, hb, hr, hml, hown, hts, hK, hlk⟩ := hC
  have hl : lv_has ls 6 [(0, .ref (ad g 0)), (1, .ref (ad g (3 + i))), (2, .int p0)] := hl
  rw [← gs_same hm] at hw
  have L87 : ∀ (x3 : Int32) (x4 : Int32), f_X4_assumed_L87 m i p0 x3 x4 = some r → JL p l e ({ frames := 1, cells := 0, slots := 0, locals := 21 } : Room) s md args below meth c D cy ad (MQ below (QI D cy ad r M0) args s 0 0 (AD ad)) (gs M0 g m) 6 [(1, .ref (ad g (3 + i))), (3, .int x3), (4, .int x4)] 87 [] := by
    intro x3 x4 h H locs hw hS ls hl
    unfold f_X4_assumed_L87 at h
    refine lv_iload_n hx hb dX4_assumed_87 rfl (lv_at hl 1 rfl) ?_
    refine lv_if_ne (tgt := 103) hx hb dX4_assumed_88 (by decide) (fun q1 => ?_) (fun q1 => ?_)
    · replace h := t_neg h q1
      refine lv_aload_n hx hb dX4_assumed_103 rfl (lv_at hl 0 rfl) ?_
      refine r_get hx hb hts hown hK hw (v_bk hg hi) gs_atc (E_bk hg hi) inX0 rfl 2 (by decide) k_79 rfl rfl dX4_assumed_104 ?_
      refine lv_aload_n hx hb dX4_assumed_107 rfl (lv_at hl 0 rfl) ?_
      refine r_get hx hb hts hown hK hw (v_bk hg hi) gs_atc (E_bk hg hi) inX0 rfl 3 (by decide) k_83 rfl rfl dX4_assumed_108 ?_
      refine lv_iload hx hb dX4_assumed_111 (lv_at hl 2 rfl) ?_
      refine lv_iload_n hx hb dX4_assumed_113 rfl (lv_at hl 1 rfl) ?_
      obtain ⟨q2, h⟩ := t_gn h
      refine lv_idiv hx hb dX4_assumed_114 q2 ?_
      refine r_min hx hb hts (hml.trans hl.1.symm) hown k_269 k_270 k_8 k_271 (Nat.le_of_ble_eq_true rfl) (Nat.le_of_ble_eq_true rfl) (Nat.le_of_ble_eq_true rfl) (Nat.le_of_ble_eq_true rfl) dX4_assumed_115 ?_
      refine r_max hx hb hts (hml.trans hl.1.symm) hown k_272 k_273 k_8 k_274 (Nat.le_of_ble_eq_true rfl) (Nat.le_of_ble_eq_true rfl) (Nat.le_of_ble_eq_true rfl) (Nat.le_of_ble_eq_true rfl) dX4_assumed_118 ?_
      have e1 := Option.some.inj h
      exact e_i hx hb hr hlk hw hS e1 (gs_same hm) dX4_assumed_121
    · replace h := t_pos h q1
      refine lv_aload_n hx hb dX4_assumed_91 rfl (lv_at hl 0 rfl) ?_
      refine r_get hx hb hts hown hK hw (v_bk hg hi) gs_atc (E_bk hg hi) inX0 rfl 2 (by decide) k_79 rfl rfl dX4_assumed_92 ?_
      refine lv_aload_n hx hb dX4_assumed_95 rfl (lv_at hl 0 rfl) ?_
      refine r_get hx hb hts hown hK hw (v_bk hg hi) gs_atc (E_bk hg hi) inX0 rfl 3 (by decide) k_83 rfl rfl dX4_assumed_96 ?_
      refine lv_iadd hx hb dX4_assumed_99 ?_
      refine lv_iconst (v := nI 2) hx hb dX4_assumed_100 (by decide) ?_
      obtain ⟨q3, h⟩ := t_gn h
      refine lv_idiv hx hb dX4_assumed_101 q3 ?_
      have e1 := Option.some.inj h
      exact e_i hx hb hr hlk hw hS e1 (gs_same hm) dX4_assumed_102
  have L27 : ∀ (n : Nat), ∀ (x3 : Int32) (x4 : Int32) (x5 : Int32), f_X4_assumed_L27 m i p0 n x3 x4 x5 = some r → JL p l e ({ frames := 1, cells := 0, slots := 0, locals := 21 } : Room) s md args below meth c D cy ad (MQ below (QI D cy ad r M0) args s 0 0 (AD ad)) (gs M0 g m) 6 [(0, .ref (ad g 0)), (1, .ref (ad g (3 + i))), (3, .int x3), (4, .int x4), (5, .int x5)] 27 [] := by
    intro n
    induction n with
    | zero =>
      intro x3 x4 x5 h
      cases h
    | succ n ih =>
      intro x3 x4 x5 h H locs hw hS ls hl
      rw [f_X4_assumed_L27.eq_2] at h
      refine lv_iload hx hb dX4_assumed_27 (lv_at hl 4 rfl) ?_
      refine lv_aload_n hx hb dX4_assumed_29 rfl (lv_at hl 0 rfl) ?_
      refine r_get hx hb hts hown hK hw (v_st hg (by decide)) gs_atc (E_st hg) inX4 rfl 2 (by decide) k_164 rfl rfl dX4_assumed_30 ?_
      refine lv_icmp_ge (tgt := 87) hx hb dX4_assumed_33 (by decide) (fun q1 => ?_) (fun q1 => ?_)
      · replace h := t_pos h q1
        exact L87 x3 x4 h H locs hw hS ls (lv_sub hl [1, 2, 3] rfl)
      · replace h := t_neg h q1
        refine lv_aload_n hx hb dX4_assumed_36 rfl (lv_at hl 0 rfl) ?_
        refine r_get hx hb hts hown hK hw (v_st hg (by decide)) gs_atc (E_st hg) inX4 rfl 0 (by decide) k_160 rfl rfl dX4_assumed_37 ?_
        refine lv_iload hx hb dX4_assumed_40 (lv_at hl 4 rfl) ?_
        obtain ⟨q2, h⟩ := t_gd h
        refine r_aald hx hb hK hw (v_st hg (by decide)) (t0 := 2) rfl (E_ba hg) (v := .ref (ad g (3 + x5.toNatClampNeg))) rfl q2 dX4_assumed_42 ?_
        refine r_get hx hb hts hown hK hw (v_bk hg (vin q2)) gs_atc (E_bk hg (vin q2)) inX0 rfl 1 (by decide) k_75 rfl rfl dX4_assumed_43 ?_
        refine lv_aload_n hx hb dX4_assumed_46 rfl (lv_at hl 1 rfl) ?_
        refine r_get hx hb hts hown hK hw (v_bk hg hi) gs_atc (E_bk hg hi) inX0 rfl 1 (by decide) k_75 rfl rfl dX4_assumed_47 ?_
        refine lv_icmp_ne (tgt := 81) hx hb dX4_assumed_50 (by decide) (fun q3 => ?_) (fun q3 => ?_)
        · replace h := t_neg h q3
          refine lv_iinc (v := (x5 + (nI 1))) (lv' := [(5, .int (x5 + (nI 1))), (0, .ref (ad g 0)), (1, .ref (ad g (3 + i))), (3, .int x3), (4, .int x4)]) hx hb dX4_assumed_81 hl (k := 4) rfl rfl (by decide) rfl (fun ls hl => ?_)
          refine lv_goto (tgt := 27) hx hb dX4_assumed_84 (by decide) ?_
          exact ih x3 x4 (x5 + (nI 1)) h H locs hw hS ls (lv_sub hl [1, 2, 3, 4, 0] rfl)
        · replace h := t_pos h q3
          refine lv_iload_n hx hb dX4_assumed_53 rfl (lv_at hl 2 rfl) ?_
          refine lv_aload_n hx hb dX4_assumed_54 rfl (lv_at hl 0 rfl) ?_
          refine r_get hx hb hts hown hK hw (v_st hg (by decide)) gs_atc (E_st hg) inX4 rfl 0 (by decide) k_160 rfl rfl dX4_assumed_55 ?_
          refine lv_iload hx hb dX4_assumed_58 (lv_at hl 4 rfl) ?_
          obtain ⟨q4, h⟩ := t_gd h
          refine r_aald hx hb hK hw (v_st hg (by decide)) (t0 := 2) rfl (E_ba hg) (v := .ref (ad g (3 + x5.toNatClampNeg))) rfl q4 dX4_assumed_60 ?_
          refine r_get hx hb hts hown hK hw (v_bk hg (vin q4)) gs_atc (E_bk hg (vin q4)) inX0 rfl 5 (by decide) k_89 rfl rfl dX4_assumed_61 ?_
          refine lv_iadd hx hb dX4_assumed_64 ?_
          refine lv_istore_n (lv' := [(3, .int (x3 + (m (3 + x5.toNatClampNeg) 5))), (0, .ref (ad g 0)), (1, .ref (ad g (3 + i))), (4, .int x4), (5, .int x5)]) hx hb dX4_assumed_65 rfl hl (by decide) rfl (fun ls hl => ?_)
          refine lv_iload hx hb dX4_assumed_66 (lv_at hl 3 rfl) ?_
          refine lv_aload_n hx hb dX4_assumed_68 rfl (lv_at hl 1 rfl) ?_
          refine r_get hx hb hts hown hK hw (v_st hg (by decide)) gs_atc (E_st hg) inX4 rfl 0 (by decide) k_160 rfl rfl dX4_assumed_69 ?_
          refine lv_iload hx hb dX4_assumed_72 (lv_at hl 4 rfl) ?_
          obtain ⟨q5, h⟩ := t_gd h
          refine r_aald hx hb hK hw (v_st hg (by decide)) (t0 := 2) rfl (E_ba hg) (v := .ref (ad g (3 + x5.toNatClampNeg))) rfl q5 dX4_assumed_74 ?_
          refine r_get hx hb hts hown hK hw (v_bk hg (vin q5)) gs_atc (E_bk hg (vin q5)) inX0 rfl 6 (by decide) k_92 rfl rfl dX4_assumed_75 ?_
          refine lv_iadd hx hb dX4_assumed_78 ?_
          refine lv_istore (lv' := [(4, .int (x4 + (m (3 + x5.toNatClampNeg) 6))), (3, .int (x3 + (m (3 + x5.toNatClampNeg) 5))), (0, .ref (ad g 0)), (1, .ref (ad g (3 + i))), (5, .int x5)]) hx hb dX4_assumed_79 hl (by decide) rfl (fun ls hl => ?_)
          refine lv_iinc (v := (x5 + (nI 1))) (lv' := [(5, .int (x5 + (nI 1))), (4, .int (x4 + (m (3 + x5.toNatClampNeg) 6))), (3, .int (x3 + (m (3 + x5.toNatClampNeg) 5))), (0, .ref (ad g 0)), (1, .ref (ad g (3 + i)))]) hx hb dX4_assumed_81 hl (k := 4) rfl rfl (by decide) rfl (fun ls hl => ?_)
          refine lv_goto (tgt := 27) hx hb dX4_assumed_84 (by decide) ?_
          exact ih (x3 + (m (3 + x5.toNatClampNeg) 5)) (x4 + (m (3 + x5.toNatClampNeg) 6)) (x5 + (nI 1)) h H locs hw hS ls (lv_sub hl [3, 4, 2, 1, 0] rfl)
  unfold f_X4_assumed at h
  have main : JL p l e ({ frames := 1, cells := 0, slots := 0, locals := 21 } : Room) s md args below meth c D cy ad (MQ below (QI D cy ad r M0) args s 0 0 (AD ad)) (gs M0 g m) 6 [(0, .ref (ad g 0)), (1, .ref (ad g (3 + i))), (2, .int p0)] 0 [] := by
    intro H locs hw hS ls hl
    refine lv_iload_n hx hb dX4_assumed_0 rfl (lv_at hl 2 rfl) ?_
    refine lv_if_ne (tgt := 9) hx hb dX4_assumed_1 (by decide) (fun q1 => ?_) (fun q1 => ?_)
    · replace h := t_neg h q1
      refine lv_iload_n hx hb dX4_assumed_9 rfl (lv_at hl 2 rfl) ?_
      refine lv_iconst (v := nI 1) hx hb dX4_assumed_10 (by decide) ?_
      refine lv_icmp_ne (tgt := 19) hx hb dX4_assumed_11 (by decide) (fun q2 => ?_) (fun q2 => ?_)
      · replace h := t_neg h q2
        refine lv_iconst (v := nI 0) hx hb dX4_assumed_19 (by decide) ?_
        refine lv_istore_n (lv' := [(3, .int (nI 0)), (0, .ref (ad g 0)), (1, .ref (ad g (3 + i))), (2, .int p0)]) hx hb dX4_assumed_20 rfl hl (by decide) rfl (fun ls hl => ?_)
        refine lv_iconst (v := nI 0) hx hb dX4_assumed_21 (by decide) ?_
        refine lv_istore (lv' := [(4, .int (nI 0)), (3, .int (nI 0)), (0, .ref (ad g 0)), (1, .ref (ad g (3 + i))), (2, .int p0)]) hx hb dX4_assumed_22 hl (by decide) rfl (fun ls hl => ?_)
        refine lv_iconst (v := nI 0) hx hb dX4_assumed_24 (by decide) ?_
        refine lv_istore (lv' := [(5, .int (nI 0)), (4, .int (nI 0)), (3, .int (nI 0)), (0, .ref (ad g 0)), (1, .ref (ad g (3 + i))), (2, .int p0)]) hx hb dX4_assumed_25 hl (by decide) rfl (fun ls hl => ?_)
        exact L27 FU (nI 0) (nI 0) (nI 0) h H locs hw hS ls (lv_sub hl [3, 4, 2, 1, 0] rfl)
      · replace h := t_pos h q2
        refine lv_aload_n hx hb dX4_assumed_14 rfl (lv_at hl 1 rfl) ?_
        refine r_get hx hb hts hown hK hw (v_bk hg hi) gs_atc (E_bk hg hi) inX0 rfl 3 (by decide) k_83 rfl rfl dX4_assumed_15 ?_
        have e1 := Option.some.inj h
        exact e_i hx hb hr hlk hw hS e1 (gs_same hm) dX4_assumed_18
    · replace h := t_pos h q1
      refine lv_aload_n hx hb dX4_assumed_4 rfl (lv_at hl 1 rfl) ?_
      refine r_get hx hb hts hown hK hw (v_bk hg hi) gs_atc (E_bk hg hi) inX0 rfl 2 (by decide) k_79 rfl rfl dX4_assumed_5 ?_
      have e1 := Option.some.inj h
      exact e_i hx hb hr hlk hw hS e1 (gs_same hm) dX4_assumed_8
  exact main _ _ hw hS ls hl

theorem cf_X4_answer : cfV RX4 yX4_answer cX4_answer 10 (some .int) 2 := ⟨⟨k_262, k_263, k_3, k_264⟩, by decide +kernel⟩
def f_X4_answer_L110 (m : SM) (i : Nat) (p0 : Int32) (x3 : Int32) (x4 : Int32) (x5 : Int32) (x6 : Int32) : Option (Int32) :=
  (if x3 = (nI 0) then some (-5 : Int32) else (if (m (19 + i) 0) = (nI 2) then some x5 else (if (m (19 + i) 0) = (nI 3) then some x6 else (if (m (19 + i) 0) = (nI 4) then gn x3 (some (((nI 100) * x4) / x3)) else (some x4)))))
def f_X4_answer_L16 (m : SM) (i : Nat) (p0 : Int32) : Nat → Int32 → Int32 → Int32 → Int32 → Int32 → Option (Int32)
  | 0, _, _, _, _, _ => none
  | n + 1, x3, x4, x5, x6, x7 => (if (m 0 2) ≤ x7 then f_X4_answer_L110 m i p0 x3 x4 x5 x6 else gd x7 8 (b1 (f_X5_covers (m (19 + i) 1) (m (3 + x7.toNatClampNeg) 1)) fun r4 => (if r4 = (nI 0) then f_X4_answer_L16 m i p0 n x3 x4 x5 x6 (x7 + (nI 1)) else b1 (f_X4_assumed m x7.toNatClampNeg p0) fun r7 => b1 (f_X0_share m x7.toNatClampNeg (m (19 + i) 0) (m (19 + i) 2) r7) fun r9 => f_X4_answer_L16 m i p0 n (x3 + (m (3 + x7.toNatClampNeg) 4)) (x4 + r9) (mn x5 r9) (mx x6 r9) (x7 + (nI 1)))))
def f_X4_answer (m : SM) (i : Nat) (p0 : Int32) : Option (Int32) :=
  f_X4_answer_L16 m i p0 FU (nI 0) (nI 0) (nI 999) (nI 0) (nI 0)
set_option maxHeartbeats 4000000 in
set_option maxRecDepth 100000 in
theorem c_X4_answer {l : Launch} {D : va_G} {cy : Nat → ClassId} {ad : Nat → Nat → Nat} (hcv : CV ad) {g : Nat} (hg : g < 7) {i : Nat} (hi : i < 6) {M0 : MM} {m : SM} (hm : M0 g = m) {p0 : Int32} {r : Int32} (h : f_X4_answer m i p0 = some r) : Met l yX4_answer (.code yX4_answer cX4_answer 10 (some .int) :: TB) ({ frames := 2, cells := 0, slots := 0, locals := 47 } : Room) (PW D cy ad M0 [.ref (ad g 0), .ref (ad g (19 + i)), .int p0]) (QI D cy ad r M0) 0 0 (AD ad) := by
  refine m_in (by decide +kernel) (Nat.le_of_ble_eq_true rfl) ?_
  intro p e s md args below meth c hC hw hS ls hl
  obtain ⟨hx, hb, hr, hml, hown, hts, hK, hlk⟩ := hC
  have hl : lv_has ls 10 [(0, .ref (ad g 0)), (1, .ref (ad g (19 + i))), (2, .int p0)] := hl
  rw [← gs_same hm] at hw
  have L110 : ∀ (x3 : Int32) (x4 : Int32) (x5 : Int32) (x6 : Int32), f_X4_answer_L110 m i p0 x3 x4 x5 x6 = some r → JL p l e ({ frames := 2, cells := 0, slots := 0, locals := 47 } : Room) s md args below meth c D cy ad (MQ below (QI D cy ad r M0) args s 0 0 (AD ad)) (gs M0 g m) 10 [(1, .ref (ad g (19 + i))), (3, .int x3), (4, .int x4), (5, .int x5), (6, .int x6)] 110 [] := by
    intro x3 x4 x5 x6 h H locs hw hS ls hl
    unfold f_X4_answer_L110 at h
    refine lv_iload_n hx hb dX4_answer_110 rfl (lv_at hl 1 rfl) ?_
    refine lv_if_ne (tgt := 117) hx hb dX4_answer_111 (by decide) (fun q1 => ?_) (fun q1 => ?_)
    · replace h := t_neg h q1
      refine lv_aload_n hx hb dX4_answer_117 rfl (lv_at hl 0 rfl) ?_
      refine r_get hx hb hts hown hK hw (v_qu hg hi) gs_atc (E_qu hg) inX3 rfl 0 (by decide) k_121 rfl rfl dX4_answer_118 ?_
      by_cases q2 : (m (19 + i) 0) = (nI 2)
      · replace h := t_pos h q2
        refine lv_tableIn (off := 27) (tgt := 148) hx hb dX4_answer_121 (by rw [q2]; decide) (by rw [q2]; decide) (by rw [q2]; rfl) (by decide) ?_
        refine lv_iload hx hb dX4_answer_148 (lv_at hl 3 rfl) ?_
        have e1 := Option.some.inj h
        exact e_i hx hb hr hlk hw hS e1 (gs_same hm) dX4_answer_150
      · replace h := t_neg h q2
        by_cases q3 : (m (19 + i) 0) = (nI 3)
        · replace h := t_pos h q3
          refine lv_tableIn (off := 30) (tgt := 151) hx hb dX4_answer_121 (by rw [q3]; decide) (by rw [q3]; decide) (by rw [q3]; rfl) (by decide) ?_
          refine lv_iload hx hb dX4_answer_151 (lv_at hl 4 rfl) ?_
          have e1 := Option.some.inj h
          exact e_i hx hb hr hlk hw hS e1 (gs_same hm) dX4_answer_153
        · replace h := t_neg h q3
          by_cases q4 : (m (19 + i) 0) = (nI 4)
          · replace h := t_pos h q4
            refine lv_tableIn (off := 33) (tgt := 154) hx hb dX4_answer_121 (by rw [q4]; decide) (by rw [q4]; decide) (by rw [q4]; rfl) (by decide) ?_
            refine lv_bipush (v := nI 100) hx hb dX4_answer_154 (by decide) ?_
            refine lv_iload hx hb dX4_answer_156 (lv_at hl 2 rfl) ?_
            refine lv_imul hx hb dX4_answer_158 ?_
            refine lv_iload_n hx hb dX4_answer_159 rfl (lv_at hl 1 rfl) ?_
            obtain ⟨q5, h⟩ := t_gn h
            refine lv_idiv hx hb dX4_answer_160 q5 ?_
            have e1 := Option.some.inj h
            exact e_i hx hb hr hlk hw hS e1 (gs_same hm) dX4_answer_161
          · replace h := t_neg h q4
            refine lv_tableOut (tgt := 162) hx hb dX4_answer_121 (tab_out (lo := 2) (n := 3) (by decide) (lt_s (lt_s (lt_s lt_0 q2) q3) q4)) (by decide) ?_
            refine lv_iload hx hb dX4_answer_162 (lv_at hl 2 rfl) ?_
            have e1 := Option.some.inj h
            exact e_i hx hb hr hlk hw hS e1 (gs_same hm) dX4_answer_164
    · replace h := t_pos h q1
      refine lv_bipush (v := -5) hx hb dX4_answer_114 (by decide) ?_
      have e1 := Option.some.inj h
      exact e_i hx hb hr hlk hw hS e1 (gs_same hm) dX4_answer_116
  have L16 : ∀ (n : Nat), ∀ (x3 : Int32) (x4 : Int32) (x5 : Int32) (x6 : Int32) (x7 : Int32), f_X4_answer_L16 m i p0 n x3 x4 x5 x6 x7 = some r → JL p l e ({ frames := 2, cells := 0, slots := 0, locals := 47 } : Room) s md args below meth c D cy ad (MQ below (QI D cy ad r M0) args s 0 0 (AD ad)) (gs M0 g m) 10 [(0, .ref (ad g 0)), (1, .ref (ad g (19 + i))), (2, .int p0), (3, .int x3), (4, .int x4), (5, .int x5), (6, .int x6), (7, .int x7)] 16 [] := by
    intro n
    induction n with
    | zero =>
      intro x3 x4 x5 x6 x7 h
      cases h
    | succ n ih =>
      intro x3 x4 x5 x6 x7 h H locs hw hS ls hl
      rw [f_X4_answer_L16.eq_2] at h
      refine lv_iload hx hb dX4_answer_16 (lv_at hl 7 rfl) ?_
      refine lv_aload_n hx hb dX4_answer_18 rfl (lv_at hl 0 rfl) ?_
      refine r_get hx hb hts hown hK hw (v_st hg (by decide)) gs_atc (E_st hg) inX4 rfl 2 (by decide) k_164 rfl rfl dX4_answer_19 ?_
      refine lv_icmp_ge (tgt := 110) hx hb dX4_answer_22 (by decide) (fun q1 => ?_) (fun q1 => ?_)
      · replace h := t_pos h q1
        exact L110 x3 x4 x5 x6 h H locs hw hS ls (lv_sub hl [1, 3, 4, 5, 6] rfl)
      · replace h := t_neg h q1
        refine lv_aload_n hx hb dX4_answer_25 rfl (lv_at hl 0 rfl) ?_
        refine r_get hx hb hts hown hK hw (v_st hg (by decide)) gs_atc (E_st hg) inX4 rfl 0 (by decide) k_160 rfl rfl dX4_answer_26 ?_
        refine lv_iload hx hb dX4_answer_29 (lv_at hl 7 rfl) ?_
        obtain ⟨q2, h⟩ := t_gd h
        refine r_aald hx hb hK hw (v_st hg (by decide)) (t0 := 2) rfl (E_ba hg) (v := .ref (ad g (3 + x7.toNatClampNeg))) rfl q2 dX4_answer_31 ?_
        refine lv_astore (lv' := [(8, .ref (ad g (3 + x7.toNatClampNeg))), (0, .ref (ad g 0)), (1, .ref (ad g (19 + i))), (2, .int p0), (3, .int x3), (4, .int x4), (5, .int x5), (6, .int x6), (7, .int x7)]) hx hb dX4_answer_32 hl (by decide) rfl (fun ls hl => ?_)
        refine lv_aload_n hx hb dX4_answer_34 rfl (lv_at hl 2 rfl) ?_
        refine r_get hx hb hts hown hK hw (v_qu hg hi) gs_atc (E_qu hg) inX3 rfl 1 (by decide) k_124 rfl rfl dX4_answer_35 ?_
        refine lv_aload hx hb dX4_answer_38 (lv_at hl 0 rfl) ?_
        refine r_get hx hb hts hown hK hw (v_bk hg (vin q2)) gs_atc (E_bk hg (vin q2)) inX0 rfl 1 (by decide) k_75 rfl rfl dX4_answer_40 ?_
        obtain ⟨r4, y3, h⟩ := t_b1 h
        refine c_sn hx hb hml hown hts hK hw hS (fun _ h => h) (As := [.int (m (19 + i) 1), .int (m (3 + x7.toNatClampNeg) 1)]) (rest := []) (c_X5_covers hcv (M0 := gs M0 g m) y3) cf_X5_covers k_258n rfl rfl ⟨Nat.le_of_ble_eq_true rfl, Nat.le_of_ble_eq_true rfl⟩ rfl hl.1 rfl (Nat.le_of_ble_eq_true rfl) ⟨Nat.le_refl _, Nat.le_refl _⟩ dX4_answer_43 (fun H locs hw hS => ?_)
        refine lv_if_eq (tgt := 104) hx hb dX4_answer_46 (by decide) (fun q5 => ?_) (fun q5 => ?_)
        · replace h := t_pos h q5
          refine lv_iinc (v := (x7 + (nI 1))) (lv' := [(7, .int (x7 + (nI 1))), (8, .ref (ad g (3 + x7.toNatClampNeg))), (0, .ref (ad g 0)), (1, .ref (ad g (19 + i))), (2, .int p0), (3, .int x3), (4, .int x4), (5, .int x5), (6, .int x6)]) hx hb dX4_answer_104 hl (k := 8) rfl rfl (by decide) rfl (fun ls hl => ?_)
          refine lv_goto (tgt := 16) hx hb dX4_answer_107 (by decide) ?_
          exact ih x3 x4 x5 x6 (x7 + (nI 1)) h H locs hw hS ls (lv_sub hl [2, 3, 4, 5, 6, 7, 8, 0] rfl)
        · replace h := t_neg h q5
          refine lv_aload hx hb dX4_answer_49 (lv_at hl 0 rfl) ?_
          refine lv_aload_n hx hb dX4_answer_51 rfl (lv_at hl 2 rfl) ?_
          refine r_get hx hb hts hown hK hw (v_qu hg hi) gs_atc (E_qu hg) inX3 rfl 0 (by decide) k_121 rfl rfl dX4_answer_52 ?_
          refine lv_aload_n hx hb dX4_answer_55 rfl (lv_at hl 2 rfl) ?_
          refine r_get hx hb hts hown hK hw (v_qu hg hi) gs_atc (E_qu hg) inX3 rfl 2 (by decide) k_127 rfl rfl dX4_answer_56 ?_
          refine lv_aload_n hx hb dX4_answer_59 rfl (lv_at hl 1 rfl) ?_
          refine lv_aload hx hb dX4_answer_60 (lv_at hl 0 rfl) ?_
          refine lv_iload_n hx hb dX4_answer_62 rfl (lv_at hl 3 rfl) ?_
          obtain ⟨r7, y6, h⟩ := t_b1 h
          refine c_vi hx hb hml hown hts hK hw hS (fun _ h => h) (As := [.ref (ad g (3 + x7.toNatClampNeg)), .int p0]) (rest := [.int (m (19 + i) 2), .int (m (19 + i) 0), .ref (ad g (3 + x7.toNatClampNeg))]) (c_X4_assumed hcv (g := g) (hg := hg) (i := x7.toNatClampNeg) (hi := (vin q2)) (M0 := gs M0 g m) (m := m) (hm := gs_at) y6) cf_X4_assumed k_265 rfl rfl ⟨Nat.le_of_ble_eq_true rfl, Nat.le_of_ble_eq_true rfl⟩ (r_recv hK hw (v_st hg (by decide)) (E_st hg) rfl) rfl hl.1 rfl (Nat.le_of_ble_eq_true rfl) ⟨Nat.le_refl _, Nat.le_refl _⟩ dX4_answer_63 (fun H locs hw hS => ?_)
          obtain ⟨r9, y8, h⟩ := t_b1 h
          refine c_vi hx hb hml hown hts hK hw hS (fun _ h => h) (As := [.int (m (19 + i) 0), .int (m (19 + i) 2), .int r7]) (rest := []) (c_X0_share hcv (g := g) (hg := hg) (i := x7.toNatClampNeg) (hi := (vin q2)) (M0 := gs M0 g m) (m := m) (hm := gs_at) y8) cf_X0_share k_275 rfl rfl ⟨Nat.le_of_ble_eq_true rfl, Nat.le_of_ble_eq_true rfl⟩ (r_recv hK hw (v_bk hg (vin q2)) (E_bk hg (vin q2)) rfl) rfl hl.1 rfl (Nat.le_of_ble_eq_true rfl) ⟨Nat.le_refl _, Nat.le_refl _⟩ dX4_answer_66 (fun H locs hw hS => ?_)
          refine lv_istore (lv' := [(9, .int r9), (8, .ref (ad g (3 + x7.toNatClampNeg))), (0, .ref (ad g 0)), (1, .ref (ad g (19 + i))), (2, .int p0), (3, .int x3), (4, .int x4), (5, .int x5), (6, .int x6), (7, .int x7)]) hx hb dX4_answer_69 hl (by decide) rfl (fun ls hl => ?_)
          refine lv_iload_n hx hb dX4_answer_71 rfl (lv_at hl 5 rfl) ?_
          refine lv_aload hx hb dX4_answer_72 (lv_at hl 1 rfl) ?_
          refine r_get hx hb hts hown hK hw (v_bk hg (vin q2)) gs_atc (E_bk hg (vin q2)) inX0 rfl 4 (by decide) k_86 rfl rfl dX4_answer_74 ?_
          refine lv_iadd hx hb dX4_answer_77 ?_
          refine lv_istore_n (lv' := [(3, .int (x3 + (m (3 + x7.toNatClampNeg) 4))), (9, .int r9), (8, .ref (ad g (3 + x7.toNatClampNeg))), (0, .ref (ad g 0)), (1, .ref (ad g (19 + i))), (2, .int p0), (4, .int x4), (5, .int x5), (6, .int x6), (7, .int x7)]) hx hb dX4_answer_78 rfl hl (by decide) rfl (fun ls hl => ?_)
          refine lv_iload hx hb dX4_answer_79 (lv_at hl 6 rfl) ?_
          refine lv_iload hx hb dX4_answer_81 (lv_at hl 1 rfl) ?_
          refine lv_iadd hx hb dX4_answer_83 ?_
          refine lv_istore (lv' := [(4, .int (x4 + r9)), (3, .int (x3 + (m (3 + x7.toNatClampNeg) 4))), (9, .int r9), (8, .ref (ad g (3 + x7.toNatClampNeg))), (0, .ref (ad g 0)), (1, .ref (ad g (19 + i))), (2, .int p0), (5, .int x5), (6, .int x6), (7, .int x7)]) hx hb dX4_answer_84 hl (by decide) rfl (fun ls hl => ?_)
          refine lv_iload hx hb dX4_answer_86 (lv_at hl 7 rfl) ?_
          refine lv_iload hx hb dX4_answer_88 (lv_at hl 2 rfl) ?_
          refine r_min hx hb hts (hml.trans hl.1.symm) hown k_269 k_270 k_8 k_271 (Nat.le_of_ble_eq_true rfl) (Nat.le_of_ble_eq_true rfl) (Nat.le_of_ble_eq_true rfl) (Nat.le_of_ble_eq_true rfl) dX4_answer_90 ?_
          refine lv_istore (lv' := [(5, .int (mn x5 r9)), (4, .int (x4 + r9)), (3, .int (x3 + (m (3 + x7.toNatClampNeg) 4))), (9, .int r9), (8, .ref (ad g (3 + x7.toNatClampNeg))), (0, .ref (ad g 0)), (1, .ref (ad g (19 + i))), (2, .int p0), (6, .int x6), (7, .int x7)]) hx hb dX4_answer_93 hl (by decide) rfl (fun ls hl => ?_)
          refine lv_iload hx hb dX4_answer_95 (lv_at hl 8 rfl) ?_
          refine lv_iload hx hb dX4_answer_97 (lv_at hl 3 rfl) ?_
          refine r_max hx hb hts (hml.trans hl.1.symm) hown k_272 k_273 k_8 k_274 (Nat.le_of_ble_eq_true rfl) (Nat.le_of_ble_eq_true rfl) (Nat.le_of_ble_eq_true rfl) (Nat.le_of_ble_eq_true rfl) dX4_answer_99 ?_
          refine lv_istore (lv' := [(6, .int (mx x6 r9)), (5, .int (mn x5 r9)), (4, .int (x4 + r9)), (3, .int (x3 + (m (3 + x7.toNatClampNeg) 4))), (9, .int r9), (8, .ref (ad g (3 + x7.toNatClampNeg))), (0, .ref (ad g 0)), (1, .ref (ad g (19 + i))), (2, .int p0), (7, .int x7)]) hx hb dX4_answer_102 hl (by decide) rfl (fun ls hl => ?_)
          refine lv_iinc (v := (x7 + (nI 1))) (lv' := [(7, .int (x7 + (nI 1))), (6, .int (mx x6 r9)), (5, .int (mn x5 r9)), (4, .int (x4 + r9)), (3, .int (x3 + (m (3 + x7.toNatClampNeg) 4))), (9, .int r9), (8, .ref (ad g (3 + x7.toNatClampNeg))), (0, .ref (ad g 0)), (1, .ref (ad g (19 + i))), (2, .int p0)]) hx hb dX4_answer_104 hl (k := 9) rfl rfl (by decide) rfl (fun ls hl => ?_)
          refine lv_goto (tgt := 16) hx hb dX4_answer_107 (by decide) ?_
          exact ih (x3 + (m (3 + x7.toNatClampNeg) 4)) (x4 + r9) (mn x5 r9) (mx x6 r9) (x7 + (nI 1)) h H locs hw hS ls (lv_sub hl [7, 8, 9, 4, 3, 2, 1, 0] rfl)
  unfold f_X4_answer at h
  have main : JL p l e ({ frames := 2, cells := 0, slots := 0, locals := 47 } : Room) s md args below meth c D cy ad (MQ below (QI D cy ad r M0) args s 0 0 (AD ad)) (gs M0 g m) 10 [(0, .ref (ad g 0)), (1, .ref (ad g (19 + i))), (2, .int p0)] 0 [] := by
    intro H locs hw hS ls hl
    refine lv_iconst (v := nI 0) hx hb dX4_answer_0 (by decide) ?_
    refine lv_istore_n (lv' := [(3, .int (nI 0)), (0, .ref (ad g 0)), (1, .ref (ad g (19 + i))), (2, .int p0)]) hx hb dX4_answer_1 rfl hl (by decide) rfl (fun ls hl => ?_)
    refine lv_iconst (v := nI 0) hx hb dX4_answer_2 (by decide) ?_
    refine lv_istore (lv' := [(4, .int (nI 0)), (3, .int (nI 0)), (0, .ref (ad g 0)), (1, .ref (ad g (19 + i))), (2, .int p0)]) hx hb dX4_answer_3 hl (by decide) rfl (fun ls hl => ?_)
    refine lv_sipush (v := nI 999) hx hb dX4_answer_5 (by decide) ?_
    refine lv_istore (lv' := [(5, .int (nI 999)), (4, .int (nI 0)), (3, .int (nI 0)), (0, .ref (ad g 0)), (1, .ref (ad g (19 + i))), (2, .int p0)]) hx hb dX4_answer_8 hl (by decide) rfl (fun ls hl => ?_)
    refine lv_iconst (v := nI 0) hx hb dX4_answer_10 (by decide) ?_
    refine lv_istore (lv' := [(6, .int (nI 0)), (5, .int (nI 999)), (4, .int (nI 0)), (3, .int (nI 0)), (0, .ref (ad g 0)), (1, .ref (ad g (19 + i))), (2, .int p0)]) hx hb dX4_answer_11 hl (by decide) rfl (fun ls hl => ?_)
    refine lv_iconst (v := nI 0) hx hb dX4_answer_13 (by decide) ?_
    refine lv_istore (lv' := [(7, .int (nI 0)), (6, .int (nI 0)), (5, .int (nI 999)), (4, .int (nI 0)), (3, .int (nI 0)), (0, .ref (ad g 0)), (1, .ref (ad g (19 + i))), (2, .int p0)]) hx hb dX4_answer_14 hl (by decide) rfl (fun ls hl => ?_)
    exact L16 FU (nI 0) (nI 0) (nI 999) (nI 0) (nI 0) h H locs hw hS ls (lv_sub hl [5, 6, 7, 4, 3, 2, 1, 0] rfl)
  exact main _ _ hw hS ls hl

theorem cf_X4_settle : cfV RX4 yX4_settle cX4_settle 3 none 0 := ⟨⟨k_251, k_252, k_3, k_253⟩, by decide +kernel⟩
def f_X4_settle_L2 : Nat → SM → Int32 → Option (Int32 × SM)
  | 0, _, _ => none
  | n + 1, m, x1 => (if (m 0 3) ≤ x1 then some (0, m) else gd x1 6 ((if (m (19 + x1.toNatClampNeg) 4) = (nI 0) then b1 (f_X4_rows m (m (19 + x1.toNatClampNeg) 1)) fun r5 => (if r5 = (nI 0) then f_X4_settle_L2 n m (x1 + (nI 1)) else b1 (f_X4_answer m x1.toNatClampNeg (nI 0)) fun r8 => lt1 (up m (19 + x1.toNatClampNeg) 5 r8) fun m10 => b1 (f_X4_answer m10 x1.toNatClampNeg (nI 1)) fun r12 => lt1 (up m10 (19 + x1.toNatClampNeg) 6 r12) fun m14 => (if (m14 (19 + x1.toNatClampNeg) 3) < ((m14 (19 + x1.toNatClampNeg) 6) - (m14 (19 + x1.toNatClampNeg) 5)) then f_X4_settle_L2 n m14 (x1 + (nI 1)) else b1 (f_X4_answer m14 x1.toNatClampNeg (nI 2)) fun r17 => bd (f_X3_finish m14 x1.toNatClampNeg r17) fun r19 m20 => f_X4_settle_L2 n m20 (x1 + (nI 1)))) else f_X4_settle_L2 n m (x1 + (nI 1)))))
def f_X4_settle (m : SM) : Option (Int32 × SM) :=
  f_X4_settle_L2 FU m (nI 0)
set_option maxHeartbeats 4000000 in
set_option maxRecDepth 100000 in
theorem c_X4_settle {l : Launch} {D : va_G} {cy : Nat → ClassId} {ad : Nat → Nat → Nat} (hcv : CV ad) {g : Nat} (hg : g < 7) {M0 : MM} {m : SM} (hm : M0 g = m) {r : Int32} {x : SM} (h : f_X4_settle m = some (r, x)) : Met l yX4_settle (.code yX4_settle cX4_settle 3 none :: TB) ({ frames := 3, cells := 0, slots := 0, locals := 76 } : Room) (PW D cy ad M0 [.ref (ad g 0)]) (QV D cy ad (gs M0 g x)) 0 0 (AD ad) := by
  refine m_in (by decide +kernel) (Nat.le_of_ble_eq_true rfl) ?_
  intro p e s md args below meth c hC hw hS ls hl
  obtain ⟨hx, hb, hr, hml, hown, hts, hK, hlk⟩ := hC
  have hl : lv_has ls 3 [(0, .ref (ad g 0))] := hl
  rw [← gs_same hm] at hw
  have L2 : ∀ (n : Nat), ∀ (m : SM) (x1 : Int32), f_X4_settle_L2 n m x1 = some (r, x) → JL p l e ({ frames := 3, cells := 0, slots := 0, locals := 76 } : Room) s md args below meth c D cy ad (MQ below (QV D cy ad (gs M0 g x)) args s 0 0 (AD ad)) (gs M0 g m) 3 [(0, .ref (ad g 0)), (1, .int x1)] 2 [] := by
    intro n
    induction n with
    | zero =>
      intro m x1 h
      cases h
    | succ n ih =>
      intro m x1 h H locs hw hS ls hl
      rw [f_X4_settle_L2.eq_2] at h
      refine lv_iload_n hx hb dX4_settle_2 rfl (lv_at hl 1 rfl) ?_
      refine lv_aload_n hx hb dX4_settle_3 rfl (lv_at hl 0 rfl) ?_
      refine r_get hx hb hts hown hK hw (v_st hg (by decide)) gs_atc (E_st hg) inX4 rfl 3 (by decide) k_166 rfl rfl dX4_settle_4 ?_
      refine lv_icmp_ge (tgt := 90) hx hb dX4_settle_7 (by decide) (fun q1 => ?_) (fun q1 => ?_)
      · replace h := t_pos h q1
        have e1 := (t_ret h).1
        have e2 := (t_ret h).2
        exact e_v hx hb hr hlk hw hS (by rw [e2]) dX4_settle_90
      · replace h := t_neg h q1
        refine lv_aload_n hx hb dX4_settle_10 rfl (lv_at hl 0 rfl) ?_
        refine r_get hx hb hts hown hK hw (v_st hg (by decide)) gs_atc (E_st hg) inX4 rfl 1 (by decide) k_162 rfl rfl dX4_settle_11 ?_
        refine lv_iload_n hx hb dX4_settle_14 rfl (lv_at hl 1 rfl) ?_
        obtain ⟨q2, h⟩ := t_gd h
        refine r_aald hx hb hK hw (v_st hg (by decide)) (t0 := 3) rfl (E_qa hg) (v := .ref (ad g (19 + x1.toNatClampNeg))) rfl q2 dX4_settle_15 ?_
        refine lv_astore_n (lv' := [(2, .ref (ad g (19 + x1.toNatClampNeg))), (0, .ref (ad g 0)), (1, .int x1)]) hx hb dX4_settle_16 rfl hl (by decide) rfl (fun ls hl => ?_)
        refine lv_aload_n hx hb dX4_settle_17 rfl (lv_at hl 0 rfl) ?_
        refine r_get hx hb hts hown hK hw (v_qu hg (vin q2)) gs_atc (E_qu hg) inX3 rfl 4 (by decide) k_133 rfl rfl dX4_settle_18 ?_
        refine lv_if_ne (tgt := 84) hx hb dX4_settle_21 (by decide) (fun q3 => ?_) (fun q3 => ?_)
        · replace h := t_neg h q3
          refine lv_iinc (v := (x1 + (nI 1))) (lv' := [(1, .int (x1 + (nI 1))), (2, .ref (ad g (19 + x1.toNatClampNeg))), (0, .ref (ad g 0))]) hx hb dX4_settle_84 hl (k := 2) rfl rfl (by decide) rfl (fun ls hl => ?_)
          refine lv_goto (tgt := 2) hx hb dX4_settle_87 (by decide) ?_
          exact ih m (x1 + (nI 1)) h H locs hw hS ls (lv_sub hl [2, 0] rfl)
        · replace h := t_pos h q3
          refine lv_aload_n hx hb dX4_settle_24 rfl (lv_at hl 1 rfl) ?_
          refine lv_aload_n hx hb dX4_settle_25 rfl (lv_at hl 0 rfl) ?_
          refine r_get hx hb hts hown hK hw (v_qu hg (vin q2)) gs_atc (E_qu hg) inX3 rfl 1 (by decide) k_124 rfl rfl dX4_settle_26 ?_
          obtain ⟨r5, y4, h⟩ := t_b1 h
          refine c_vi hx hb hml hown hts hK hw hS (fun _ h => h) (As := [.int (m (19 + x1.toNatClampNeg) 1)]) (rest := []) (c_X4_rows hcv (g := g) (hg := hg) (M0 := gs M0 g m) (m := m) (hm := gs_at) y4) cf_X4_rows k_254 rfl rfl ⟨Nat.le_of_ble_eq_true rfl, Nat.le_of_ble_eq_true rfl⟩ (r_recv hK hw (v_st hg (by decide)) (E_st hg) rfl) rfl hl.1 rfl (Nat.le_of_ble_eq_true rfl) ⟨Nat.le_refl _, Nat.le_refl _⟩ dX4_settle_29 (fun H locs hw hS => ?_)
          refine lv_if_ne (tgt := 38) hx hb dX4_settle_32 (by decide) (fun q6 => ?_) (fun q6 => ?_)
          · replace h := t_neg h q6
            refine lv_aload_n hx hb dX4_settle_38 rfl (lv_at hl 0 rfl) ?_
            refine lv_aload_n hx hb dX4_settle_39 rfl (lv_at hl 1 rfl) ?_
            refine lv_aload_n hx hb dX4_settle_40 rfl (lv_at hl 0 rfl) ?_
            refine lv_iconst (v := nI 0) hx hb dX4_settle_41 (by decide) ?_
            obtain ⟨r8, y7, h⟩ := t_b1 h
            refine c_vi hx hb hml hown hts hK hw hS (fun _ h => h) (As := [.ref (ad g (19 + x1.toNatClampNeg)), .int (nI 0)]) (rest := [.ref (ad g (19 + x1.toNatClampNeg))]) (c_X4_answer hcv (g := g) (hg := hg) (i := x1.toNatClampNeg) (hi := (vin q2)) (M0 := gs M0 g m) (m := m) (hm := gs_at) y7) cf_X4_answer k_261 rfl rfl ⟨Nat.le_of_ble_eq_true rfl, Nat.le_of_ble_eq_true rfl⟩ (r_recv hK hw (v_st hg (by decide)) (E_st hg) rfl) rfl hl.1 rfl (Nat.le_of_ble_eq_true rfl) ⟨Nat.le_refl _, Nat.le_refl _⟩ dX4_settle_42 (fun H locs hw hS => ?_)
            obtain ⟨m10, e9, h⟩ := t_lt h
            refine r_put hx hb hts hown hK hcv hw hS (v_qu hg (vin q2)) gs_atc (E_qu hg) inX3 rfl tyX3 tyX3_ok nmX3 5 (by decide) k_136 rfl rfl rfl rfl (Nat.le_of_ble_eq_true rfl) (E_qu hg) (gs_up e9) dX4_settle_45 (fun H locs hw hS => ?_)
            refine lv_aload_n hx hb dX4_settle_48 rfl (lv_at hl 0 rfl) ?_
            refine lv_aload_n hx hb dX4_settle_49 rfl (lv_at hl 1 rfl) ?_
            refine lv_aload_n hx hb dX4_settle_50 rfl (lv_at hl 0 rfl) ?_
            refine lv_iconst (v := nI 1) hx hb dX4_settle_51 (by decide) ?_
            obtain ⟨r12, y11, h⟩ := t_b1 h
            refine c_vi hx hb hml hown hts hK hw hS (fun _ h => h) (As := [.ref (ad g (19 + x1.toNatClampNeg)), .int (nI 1)]) (rest := [.ref (ad g (19 + x1.toNatClampNeg))]) (c_X4_answer hcv (g := g) (hg := hg) (i := x1.toNatClampNeg) (hi := (vin q2)) (M0 := gs M0 g m10) (m := m10) (hm := gs_at) y11) cf_X4_answer k_261 rfl rfl ⟨Nat.le_of_ble_eq_true rfl, Nat.le_of_ble_eq_true rfl⟩ (r_recv hK hw (v_st hg (by decide)) (E_st hg) rfl) rfl hl.1 rfl (Nat.le_of_ble_eq_true rfl) ⟨Nat.le_refl _, Nat.le_refl _⟩ dX4_settle_52 (fun H locs hw hS => ?_)
            obtain ⟨m14, e13, h⟩ := t_lt h
            refine r_put hx hb hts hown hK hcv hw hS (v_qu hg (vin q2)) gs_atc (E_qu hg) inX3 rfl tyX3 tyX3_ok nmX3 6 (by decide) k_139 rfl rfl rfl rfl (Nat.le_of_ble_eq_true rfl) (E_qu hg) (gs_up e13) dX4_settle_55 (fun H locs hw hS => ?_)
            refine lv_aload_n hx hb dX4_settle_58 rfl (lv_at hl 0 rfl) ?_
            refine r_get hx hb hts hown hK hw (v_qu hg (vin q2)) gs_atc (E_qu hg) inX3 rfl 6 (by decide) k_139 rfl rfl dX4_settle_59 ?_
            refine lv_aload_n hx hb dX4_settle_62 rfl (lv_at hl 0 rfl) ?_
            refine r_get hx hb hts hown hK hw (v_qu hg (vin q2)) gs_atc (E_qu hg) inX3 rfl 5 (by decide) k_136 rfl rfl dX4_settle_63 ?_
            refine lv_isub hx hb dX4_settle_66 ?_
            refine lv_aload_n hx hb dX4_settle_67 rfl (lv_at hl 0 rfl) ?_
            refine r_get hx hb hts hown hK hw (v_qu hg (vin q2)) gs_atc (E_qu hg) inX3 rfl 3 (by decide) k_130 rfl rfl dX4_settle_68 ?_
            refine lv_icmp_gt (tgt := 84) hx hb dX4_settle_71 (by decide) (fun q15 => ?_) (fun q15 => ?_)
            · replace h := t_pos h q15
              refine lv_iinc (v := (x1 + (nI 1))) (lv' := [(1, .int (x1 + (nI 1))), (2, .ref (ad g (19 + x1.toNatClampNeg))), (0, .ref (ad g 0))]) hx hb dX4_settle_84 hl (k := 2) rfl rfl (by decide) rfl (fun ls hl => ?_)
              refine lv_goto (tgt := 2) hx hb dX4_settle_87 (by decide) ?_
              exact ih m14 (x1 + (nI 1)) h H locs hw hS ls (lv_sub hl [2, 0] rfl)
            · replace h := t_neg h q15
              refine lv_aload_n hx hb dX4_settle_74 rfl (lv_at hl 0 rfl) ?_
              refine lv_aload_n hx hb dX4_settle_75 rfl (lv_at hl 1 rfl) ?_
              refine lv_aload_n hx hb dX4_settle_76 rfl (lv_at hl 0 rfl) ?_
              refine lv_iconst (v := nI 2) hx hb dX4_settle_77 (by decide) ?_
              obtain ⟨r17, y16, h⟩ := t_b1 h
              refine c_vi hx hb hml hown hts hK hw hS (fun _ h => h) (As := [.ref (ad g (19 + x1.toNatClampNeg)), .int (nI 2)]) (rest := [.ref (ad g (19 + x1.toNatClampNeg))]) (c_X4_answer hcv (g := g) (hg := hg) (i := x1.toNatClampNeg) (hi := (vin q2)) (M0 := gs M0 g m14) (m := m14) (hm := gs_at) y16) cf_X4_answer k_261 rfl rfl ⟨Nat.le_of_ble_eq_true rfl, Nat.le_of_ble_eq_true rfl⟩ (r_recv hK hw (v_st hg (by decide)) (E_st hg) rfl) rfl hl.1 rfl (Nat.le_of_ble_eq_true rfl) ⟨Nat.le_refl _, Nat.le_refl _⟩ dX4_settle_78 (fun H locs hw hS => ?_)
              obtain ⟨r19, m20, y18, h⟩ := t_bd h
              refine c_vv hx hb hml hown hts hK hw hS (fun _ h => h) (As := [.int r17]) (rest := []) (c_X3_finish hcv (g := g) (hg := hg) (i := x1.toNatClampNeg) (hi := (vin q2)) (M0 := gs M0 g m14) (m := m14) (hm := gs_at) y18) cf_X3_finish k_289 rfl rfl ⟨Nat.le_of_ble_eq_true rfl, Nat.le_of_ble_eq_true rfl⟩ (r_recv hK hw (v_qu hg (vin q2)) (E_qu hg) rfl) rfl hl.1 rfl (Nat.le_of_ble_eq_true rfl) ⟨Nat.le_refl _, Nat.le_refl _⟩ dX4_settle_81 (fun H locs hw hS => ?_)
              rw [gs_gs] at hw
              refine lv_iinc (v := (x1 + (nI 1))) (lv' := [(1, .int (x1 + (nI 1))), (2, .ref (ad g (19 + x1.toNatClampNeg))), (0, .ref (ad g 0))]) hx hb dX4_settle_84 hl (k := 2) rfl rfl (by decide) rfl (fun ls hl => ?_)
              refine lv_goto (tgt := 2) hx hb dX4_settle_87 (by decide) ?_
              exact ih m20 (x1 + (nI 1)) h H locs hw hS ls (lv_sub hl [2, 0] rfl)
          · replace h := t_pos h q6
            refine lv_goto (tgt := 84) hx hb dX4_settle_35 (by decide) ?_
            refine lv_iinc (v := (x1 + (nI 1))) (lv' := [(1, .int (x1 + (nI 1))), (2, .ref (ad g (19 + x1.toNatClampNeg))), (0, .ref (ad g 0))]) hx hb dX4_settle_84 hl (k := 2) rfl rfl (by decide) rfl (fun ls hl => ?_)
            refine lv_goto (tgt := 2) hx hb dX4_settle_87 (by decide) ?_
            exact ih m (x1 + (nI 1)) h H locs hw hS ls (lv_sub hl [2, 0] rfl)
  unfold f_X4_settle at h
  have main : JL p l e ({ frames := 3, cells := 0, slots := 0, locals := 76 } : Room) s md args below meth c D cy ad (MQ below (QV D cy ad (gs M0 g x)) args s 0 0 (AD ad)) (gs M0 g m) 3 [(0, .ref (ad g 0))] 0 [] := by
    intro H locs hw hS ls hl
    refine lv_iconst (v := nI 0) hx hb dX4_settle_0 (by decide) ?_
    refine lv_istore_n (lv' := [(1, .int (nI 0)), (0, .ref (ad g 0))]) hx hb dX4_settle_1 rfl hl (by decide) rfl (fun ls hl => ?_)
    exact L2 FU m (nI 0) h H locs hw hS ls (lv_sub hl [1, 0] rfl)
  exact main _ _ hw hS ls hl

theorem cf_X4_weight : cfV RX4 yX4_weight cX4_weight 5 (some .int) 1 := ⟨⟨k_311, k_312, k_3, k_313⟩, by decide +kernel⟩
def f_X4_weight_L4 (m : SM) (i : Nat) : Nat → Int32 → Int32 → Option (Int32)
  | 0, _, _ => none
  | n + 1, x2, x3 => (if (m 0 3) ≤ x3 then some x2 else gd x3 6 ((if (m (19 + x3.toNatClampNeg) 4) = (nI 0) then b1 (f_X5_covers (m (19 + x3.toNatClampNeg) 1) (m (3 + i) 1)) fun r5 => (if r5 = (nI 0) then f_X4_weight_L4 m i n x2 (x3 + (nI 1)) else b1 (f_X3_urgency m x3.toNatClampNeg i) fun r8 => f_X4_weight_L4 m i n (x2 + r8) (x3 + (nI 1))) else f_X4_weight_L4 m i n x2 (x3 + (nI 1)))))
def f_X4_weight (m : SM) (i : Nat) : Option (Int32) :=
  f_X4_weight_L4 m i FU (nI 0) (nI 0)
set_option maxHeartbeats 4000000 in
set_option maxRecDepth 100000 in
theorem c_X4_weight {l : Launch} {D : va_G} {cy : Nat → ClassId} {ad : Nat → Nat → Nat} (hcv : CV ad) {g : Nat} (hg : g < 7) {i : Nat} (hi : i < 8) {M0 : MM} {m : SM} (hm : M0 g = m) {r : Int32} (h : f_X4_weight m i = some r) : Met l yX4_weight (.code yX4_weight cX4_weight 5 (some .int) :: TB) ({ frames := 1, cells := 0, slots := 0, locals := 21 } : Room) (PW D cy ad M0 [.ref (ad g 0), .ref (ad g (3 + i))]) (QI D cy ad r M0) 0 0 (AD ad) := by
  refine m_in (by decide +kernel) (Nat.le_of_ble_eq_true rfl) ?_
  intro p e s md args below meth c hC hw hS ls hl
  obtain ⟨hx, hb, hr, hml, hown, hts, hK, hlk⟩ := hC
  have hl : lv_has ls 5 [(0, .ref (ad g 0)), (1, .ref (ad g (3 + i)))] := hl
  rw [← gs_same hm] at hw
  have L4 : ∀ (n : Nat), ∀ (x2 : Int32) (x3 : Int32), f_X4_weight_L4 m i n x2 x3 = some r → JL p l e ({ frames := 1, cells := 0, slots := 0, locals := 21 } : Room) s md args below meth c D cy ad (MQ below (QI D cy ad r M0) args s 0 0 (AD ad)) (gs M0 g m) 5 [(0, .ref (ad g 0)), (1, .ref (ad g (3 + i))), (2, .int x2), (3, .int x3)] 4 [] := by
    intro n
    induction n with
    | zero =>
      intro x2 x3 h
      cases h
    | succ n ih =>
      intro x2 x3 h H locs hw hS ls hl
      rw [f_X4_weight_L4.eq_2] at h
      refine lv_iload_n hx hb dX4_weight_4 rfl (lv_at hl 3 rfl) ?_
      refine lv_aload_n hx hb dX4_weight_5 rfl (lv_at hl 0 rfl) ?_
      refine r_get hx hb hts hown hK hw (v_st hg (by decide)) gs_atc (E_st hg) inX4 rfl 3 (by decide) k_166 rfl rfl dX4_weight_6 ?_
      refine lv_icmp_ge (tgt := 58) hx hb dX4_weight_9 (by decide) (fun q1 => ?_) (fun q1 => ?_)
      · replace h := t_pos h q1
        refine lv_iload_n hx hb dX4_weight_58 rfl (lv_at hl 2 rfl) ?_
        have e1 := Option.some.inj h
        exact e_i hx hb hr hlk hw hS e1 (gs_same hm) dX4_weight_59
      · replace h := t_neg h q1
        refine lv_aload_n hx hb dX4_weight_12 rfl (lv_at hl 0 rfl) ?_
        refine r_get hx hb hts hown hK hw (v_st hg (by decide)) gs_atc (E_st hg) inX4 rfl 1 (by decide) k_162 rfl rfl dX4_weight_13 ?_
        refine lv_iload_n hx hb dX4_weight_16 rfl (lv_at hl 3 rfl) ?_
        obtain ⟨q2, h⟩ := t_gd h
        refine r_aald hx hb hK hw (v_st hg (by decide)) (t0 := 3) rfl (E_qa hg) (v := .ref (ad g (19 + x3.toNatClampNeg))) rfl q2 dX4_weight_17 ?_
        refine lv_astore (lv' := [(4, .ref (ad g (19 + x3.toNatClampNeg))), (0, .ref (ad g 0)), (1, .ref (ad g (3 + i))), (2, .int x2), (3, .int x3)]) hx hb dX4_weight_18 hl (by decide) rfl (fun ls hl => ?_)
        refine lv_aload hx hb dX4_weight_20 (lv_at hl 0 rfl) ?_
        refine r_get hx hb hts hown hK hw (v_qu hg (vin q2)) gs_atc (E_qu hg) inX3 rfl 4 (by decide) k_133 rfl rfl dX4_weight_22 ?_
        refine lv_if_ne (tgt := 52) hx hb dX4_weight_25 (by decide) (fun q3 => ?_) (fun q3 => ?_)
        · replace h := t_neg h q3
          refine lv_iinc (v := (x3 + (nI 1))) (lv' := [(3, .int (x3 + (nI 1))), (4, .ref (ad g (19 + x3.toNatClampNeg))), (0, .ref (ad g 0)), (1, .ref (ad g (3 + i))), (2, .int x2)]) hx hb dX4_weight_52 hl (k := 4) rfl rfl (by decide) rfl (fun ls hl => ?_)
          refine lv_goto (tgt := 4) hx hb dX4_weight_55 (by decide) ?_
          exact ih x2 (x3 + (nI 1)) h H locs hw hS ls (lv_sub hl [2, 3, 4, 0] rfl)
        · replace h := t_pos h q3
          refine lv_aload hx hb dX4_weight_28 (lv_at hl 0 rfl) ?_
          refine r_get hx hb hts hown hK hw (v_qu hg (vin q2)) gs_atc (E_qu hg) inX3 rfl 1 (by decide) k_124 rfl rfl dX4_weight_30 ?_
          refine lv_aload_n hx hb dX4_weight_33 rfl (lv_at hl 2 rfl) ?_
          refine r_get hx hb hts hown hK hw (v_bk hg hi) gs_atc (E_bk hg hi) inX0 rfl 1 (by decide) k_75 rfl rfl dX4_weight_34 ?_
          obtain ⟨r5, y4, h⟩ := t_b1 h
          refine c_sn hx hb hml hown hts hK hw hS (fun _ h => h) (As := [.int (m (19 + x3.toNatClampNeg) 1), .int (m (3 + i) 1)]) (rest := []) (c_X5_covers hcv (M0 := gs M0 g m) y4) cf_X5_covers k_258n rfl rfl ⟨Nat.le_of_ble_eq_true rfl, Nat.le_of_ble_eq_true rfl⟩ rfl hl.1 rfl (Nat.le_of_ble_eq_true rfl) ⟨Nat.le_refl _, Nat.le_refl _⟩ dX4_weight_37 (fun H locs hw hS => ?_)
          refine lv_if_eq (tgt := 52) hx hb dX4_weight_40 (by decide) (fun q6 => ?_) (fun q6 => ?_)
          · replace h := t_pos h q6
            refine lv_iinc (v := (x3 + (nI 1))) (lv' := [(3, .int (x3 + (nI 1))), (4, .ref (ad g (19 + x3.toNatClampNeg))), (0, .ref (ad g 0)), (1, .ref (ad g (3 + i))), (2, .int x2)]) hx hb dX4_weight_52 hl (k := 4) rfl rfl (by decide) rfl (fun ls hl => ?_)
            refine lv_goto (tgt := 4) hx hb dX4_weight_55 (by decide) ?_
            exact ih x2 (x3 + (nI 1)) h H locs hw hS ls (lv_sub hl [2, 3, 4, 0] rfl)
          · replace h := t_neg h q6
            refine lv_iload_n hx hb dX4_weight_43 rfl (lv_at hl 3 rfl) ?_
            refine lv_aload hx hb dX4_weight_44 (lv_at hl 0 rfl) ?_
            refine lv_aload_n hx hb dX4_weight_46 rfl (lv_at hl 2 rfl) ?_
            obtain ⟨r8, y7, h⟩ := t_b1 h
            refine c_vi hx hb hml hown hts hK hw hS (fun _ h => h) (As := [.ref (ad g (3 + i))]) (rest := [.int x2]) (c_X3_urgency hcv (g := g) (hg := hg) (i := x3.toNatClampNeg) (hi := (vin q2)) (i2 := i) (hi2 := hi) (M0 := gs M0 g m) (m := m) (hm := gs_at) y7) cf_X3_urgency k_314 rfl rfl ⟨Nat.le_of_ble_eq_true rfl, Nat.le_of_ble_eq_true rfl⟩ (r_recv hK hw (v_qu hg (vin q2)) (E_qu hg) rfl) rfl hl.1 rfl (Nat.le_of_ble_eq_true rfl) ⟨Nat.le_refl _, Nat.le_refl _⟩ dX4_weight_47 (fun H locs hw hS => ?_)
            refine lv_iadd hx hb dX4_weight_50 ?_
            refine lv_istore_n (lv' := [(2, .int (x2 + r8)), (4, .ref (ad g (19 + x3.toNatClampNeg))), (0, .ref (ad g 0)), (1, .ref (ad g (3 + i))), (3, .int x3)]) hx hb dX4_weight_51 rfl hl (by decide) rfl (fun ls hl => ?_)
            refine lv_iinc (v := (x3 + (nI 1))) (lv' := [(3, .int (x3 + (nI 1))), (2, .int (x2 + r8)), (4, .ref (ad g (19 + x3.toNatClampNeg))), (0, .ref (ad g 0)), (1, .ref (ad g (3 + i)))]) hx hb dX4_weight_52 hl (k := 4) rfl rfl (by decide) rfl (fun ls hl => ?_)
            refine lv_goto (tgt := 4) hx hb dX4_weight_55 (by decide) ?_
            exact ih (x2 + r8) (x3 + (nI 1)) h H locs hw hS ls (lv_sub hl [3, 4, 1, 0] rfl)
  unfold f_X4_weight at h
  have main : JL p l e ({ frames := 1, cells := 0, slots := 0, locals := 21 } : Room) s md args below meth c D cy ad (MQ below (QI D cy ad r M0) args s 0 0 (AD ad)) (gs M0 g m) 5 [(0, .ref (ad g 0)), (1, .ref (ad g (3 + i)))] 0 [] := by
    intro H locs hw hS ls hl
    refine lv_iconst (v := nI 0) hx hb dX4_weight_0 (by decide) ?_
    refine lv_istore_n (lv' := [(2, .int (nI 0)), (0, .ref (ad g 0)), (1, .ref (ad g (3 + i)))]) hx hb dX4_weight_1 rfl hl (by decide) rfl (fun ls hl => ?_)
    refine lv_iconst (v := nI 0) hx hb dX4_weight_2 (by decide) ?_
    refine lv_istore_n (lv' := [(3, .int (nI 0)), (2, .int (nI 0)), (0, .ref (ad g 0)), (1, .ref (ad g (3 + i)))]) hx hb dX4_weight_3 rfl hl (by decide) rfl (fun ls hl => ?_)
    exact L4 FU (nI 0) (nI 0) h H locs hw hS ls (lv_sub hl [2, 3, 1, 0] rfl)
  exact main _ _ hw hS ls hl

theorem cf_X4_blockInTurn : cfV RX4 yX4_blockInTurn cX4_blockInTurn 3 (some .int) 0 := ⟨⟨k_302, k_303, k_3, k_304⟩, by decide +kernel⟩
def f_X4_blockInTurn_L2 (m : SM) : Nat → Int32 → Option (Int32)
  | 0, _ => none
  | n + 1, x1 => (if (m 0 2) ≤ x1 then some (-5 : Int32) else gn (m 0 2) (gd (((m 0 5) + x1) - ((m 0 5) + x1) / (m 0 2) * (m 0 2)) 8 (b1 (f_X0_unread m ((((m 0 5) + x1) - ((m 0 5) + x1) / (m 0 2) * (m 0 2)).toNatClampNeg)) fun r5 => (if r5 ≤ (nI 0) then f_X4_blockInTurn_L2 m n (x1 + (nI 1)) else some (((m 0 5) + x1) - ((m 0 5) + x1) / (m 0 2) * (m 0 2))))))
def f_X4_blockInTurn (m : SM) : Option (Int32) :=
  f_X4_blockInTurn_L2 m FU (nI 0)
set_option maxHeartbeats 4000000 in
set_option maxRecDepth 100000 in
theorem c_X4_blockInTurn {l : Launch} {D : va_G} {cy : Nat → ClassId} {ad : Nat → Nat → Nat} (hcv : CV ad) {g : Nat} (hg : g < 7) {M0 : MM} {m : SM} (hm : M0 g = m) {r : Int32} (h : f_X4_blockInTurn m = some r) : Met l yX4_blockInTurn (.code yX4_blockInTurn cX4_blockInTurn 3 (some .int) :: TB) ({ frames := 1, cells := 0, slots := 0, locals := 20 } : Room) (PW D cy ad M0 [.ref (ad g 0)]) (QI D cy ad r M0) 0 0 (AD ad) := by
  refine m_in (by decide +kernel) (Nat.le_of_ble_eq_true rfl) ?_
  intro p e s md args below meth c hC hw hS ls hl
  obtain ⟨hx, hb, hr, hml, hown, hts, hK, hlk⟩ := hC
  have hl : lv_has ls 3 [(0, .ref (ad g 0))] := hl
  rw [← gs_same hm] at hw
  have L2 : ∀ (n : Nat), ∀ (x1 : Int32), f_X4_blockInTurn_L2 m n x1 = some r → JL p l e ({ frames := 1, cells := 0, slots := 0, locals := 20 } : Room) s md args below meth c D cy ad (MQ below (QI D cy ad r M0) args s 0 0 (AD ad)) (gs M0 g m) 3 [(0, .ref (ad g 0)), (1, .int x1)] 2 [] := by
    intro n
    induction n with
    | zero =>
      intro x1 h
      cases h
    | succ n ih =>
      intro x1 h H locs hw hS ls hl
      rw [f_X4_blockInTurn_L2.eq_2] at h
      refine lv_iload_n hx hb dX4_blockInTurn_2 rfl (lv_at hl 1 rfl) ?_
      refine lv_aload_n hx hb dX4_blockInTurn_3 rfl (lv_at hl 0 rfl) ?_
      refine r_get hx hb hts hown hK hw (v_st hg (by decide)) gs_atc (E_st hg) inX4 rfl 2 (by decide) k_164 rfl rfl dX4_blockInTurn_4 ?_
      refine lv_icmp_ge (tgt := 42) hx hb dX4_blockInTurn_7 (by decide) (fun q1 => ?_) (fun q1 => ?_)
      · replace h := t_pos h q1
        refine lv_bipush (v := -5) hx hb dX4_blockInTurn_42 (by decide) ?_
        have e1 := Option.some.inj h
        exact e_i hx hb hr hlk hw hS e1 (gs_same hm) dX4_blockInTurn_44
      · replace h := t_neg h q1
        refine lv_aload_n hx hb dX4_blockInTurn_10 rfl (lv_at hl 0 rfl) ?_
        refine r_get hx hb hts hown hK hw (v_st hg (by decide)) gs_atc (E_st hg) inX4 rfl 5 (by decide) k_170 rfl rfl dX4_blockInTurn_11 ?_
        refine lv_iload_n hx hb dX4_blockInTurn_14 rfl (lv_at hl 1 rfl) ?_
        refine lv_iadd hx hb dX4_blockInTurn_15 ?_
        refine lv_aload_n hx hb dX4_blockInTurn_16 rfl (lv_at hl 0 rfl) ?_
        refine r_get hx hb hts hown hK hw (v_st hg (by decide)) gs_atc (E_st hg) inX4 rfl 2 (by decide) k_164 rfl rfl dX4_blockInTurn_17 ?_
        obtain ⟨q2, h⟩ := t_gn h
        refine lv_irem hx hb dX4_blockInTurn_20 q2 ?_
        refine lv_istore_n (lv' := [(2, .int (((m 0 5) + x1) - ((m 0 5) + x1) / (m 0 2) * (m 0 2))), (0, .ref (ad g 0)), (1, .int x1)]) hx hb dX4_blockInTurn_21 rfl hl (by decide) rfl (fun ls hl => ?_)
        refine lv_aload_n hx hb dX4_blockInTurn_22 rfl (lv_at hl 1 rfl) ?_
        refine r_get hx hb hts hown hK hw (v_st hg (by decide)) gs_atc (E_st hg) inX4 rfl 0 (by decide) k_160 rfl rfl dX4_blockInTurn_23 ?_
        refine lv_iload_n hx hb dX4_blockInTurn_26 rfl (lv_at hl 0 rfl) ?_
        obtain ⟨q3, h⟩ := t_gd h
        refine r_aald hx hb hK hw (v_st hg (by decide)) (t0 := 2) rfl (E_ba hg) (v := .ref (ad g (3 + (((m 0 5) + x1) - ((m 0 5) + x1) / (m 0 2) * (m 0 2)).toNatClampNeg))) rfl q3 dX4_blockInTurn_27 ?_
        obtain ⟨r5, y4, h⟩ := t_b1 h
        refine c_vi hx hb hml hown hts hK hw hS (fun _ h => h) (As := []) (rest := []) (c_X0_unread hcv (g := g) (hg := hg) (i := (((m 0 5) + x1) - ((m 0 5) + x1) / (m 0 2) * (m 0 2)).toNatClampNeg) (hi := (vin q3)) (M0 := gs M0 g m) (m := m) (hm := gs_at) y4) cf_X0_unread k_305 rfl rfl ⟨Nat.le_of_ble_eq_true rfl, Nat.le_of_ble_eq_true rfl⟩ (r_recv hK hw (v_bk hg (vin q3)) (E_bk hg (vin q3)) rfl) rfl hl.1 rfl (Nat.le_of_ble_eq_true rfl) ⟨Nat.le_refl _, Nat.le_refl _⟩ dX4_blockInTurn_28 (fun H locs hw hS => ?_)
        refine lv_if_le (tgt := 36) hx hb dX4_blockInTurn_31 (by decide) (fun q6 => ?_) (fun q6 => ?_)
        · replace h := t_pos h q6
          refine lv_iinc (v := (x1 + (nI 1))) (lv' := [(1, .int (x1 + (nI 1))), (2, .int (((m 0 5) + x1) - ((m 0 5) + x1) / (m 0 2) * (m 0 2))), (0, .ref (ad g 0))]) hx hb dX4_blockInTurn_36 hl (k := 2) rfl rfl (by decide) rfl (fun ls hl => ?_)
          refine lv_goto (tgt := 2) hx hb dX4_blockInTurn_39 (by decide) ?_
          exact ih (x1 + (nI 1)) h H locs hw hS ls (lv_sub hl [2, 0] rfl)
        · replace h := t_neg h q6
          refine lv_iload_n hx hb dX4_blockInTurn_34 rfl (lv_at hl 0 rfl) ?_
          have e1 := Option.some.inj h
          exact e_i hx hb hr hlk hw hS e1 (gs_same hm) dX4_blockInTurn_35
  unfold f_X4_blockInTurn at h
  have main : JL p l e ({ frames := 1, cells := 0, slots := 0, locals := 20 } : Room) s md args below meth c D cy ad (MQ below (QI D cy ad r M0) args s 0 0 (AD ad)) (gs M0 g m) 3 [(0, .ref (ad g 0))] 0 [] := by
    intro H locs hw hS ls hl
    refine lv_iconst (v := nI 0) hx hb dX4_blockInTurn_0 (by decide) ?_
    refine lv_istore_n (lv' := [(1, .int (nI 0)), (0, .ref (ad g 0))]) hx hb dX4_blockInTurn_1 rfl hl (by decide) rfl (fun ls hl => ?_)
    exact L2 FU (nI 0) h H locs hw hS ls (lv_sub hl [1, 0] rfl)
  exact main _ _ hw hS ls hl

theorem cf_X4_mostPressingBlock : cfV RX4 yX4_mostPressingBlock cX4_mostPressingBlock 6 (some .int) 0 := ⟨⟨k_307, k_308, k_3, k_309⟩, by decide +kernel⟩
def f_X4_mostPressingBlock_L65 (k7 : Int32 → Int32 → Int32 → Option (Int32)) (m : SM) (x1 : Int32) (x2 : Int32) (x3 : Int32) (s0 : Int32) : Option (Int32) :=
  (if s0 ≤ x2 then k7 x1 x2 (x3 + (nI 1)) else k7 x3 s0 (x3 + (nI 1)))
def f_X4_mostPressingBlock_L7 (m : SM) : Nat → Int32 → Int32 → Int32 → Option (Int32)
  | 0, _, _, _ => none
  | n + 1, x1, x2, x3 => (if (m 0 2) ≤ x3 then some x1 else gd x3 8 (b1 (f_X0_unread m x3.toNatClampNeg) fun r4 => (if r4 ≤ (nI 0) then f_X4_mostPressingBlock_L7 m n x1 x2 (x3 + (nI 1)) else (if (m 0 4) = (nI 1) then b1 (f_X0_unread m x3.toNatClampNeg) fun r10 => f_X4_mostPressingBlock_L65 (f_X4_mostPressingBlock_L7 m n) m x1 x2 x3 (r10 * ((m (3 + x3.toNatClampNeg) 3) - (m (3 + x3.toNatClampNeg) 2))) else b1 (f_X4_weight m x3.toNatClampNeg) fun r8 => f_X4_mostPressingBlock_L65 (f_X4_mostPressingBlock_L7 m n) m x1 x2 x3 r8))))
def f_X4_mostPressingBlock (m : SM) : Option (Int32) :=
  f_X4_mostPressingBlock_L7 m FU (-5 : Int32) (-1 : Int32) (nI 0)
set_option maxHeartbeats 4000000 in
set_option maxRecDepth 100000 in
theorem c_X4_mostPressingBlock {l : Launch} {D : va_G} {cy : Nat → ClassId} {ad : Nat → Nat → Nat} (hcv : CV ad) {g : Nat} (hg : g < 7) {M0 : MM} {m : SM} (hm : M0 g = m) {r : Int32} (h : f_X4_mostPressingBlock m = some r) : Met l yX4_mostPressingBlock (.code yX4_mostPressingBlock cX4_mostPressingBlock 6 (some .int) :: TB) ({ frames := 2, cells := 0, slots := 0, locals := 45 } : Room) (PW D cy ad M0 [.ref (ad g 0)]) (QI D cy ad r M0) 0 0 (AD ad) := by
  refine m_in (by decide +kernel) (Nat.le_of_ble_eq_true rfl) ?_
  intro p e s md args below meth c hC hw hS ls hl
  obtain ⟨hx, hb, hr, hml, hown, hts, hK, hlk⟩ := hC
  have hl : lv_has ls 6 [(0, .ref (ad g 0))] := hl
  rw [← gs_same hm] at hw
  have L65 : ∀ (k7 : Int32 → Int32 → Int32 → Option (Int32)) (hk7 : ∀ (x1 : Int32) (x2 : Int32) (x3 : Int32), k7 x1 x2 x3 = some r → JL p l e ({ frames := 2, cells := 0, slots := 0, locals := 45 } : Room) s md args below meth c D cy ad (MQ below (QI D cy ad r M0) args s 0 0 (AD ad)) (gs M0 g m) 6 [(0, .ref (ad g 0)), (1, .int x1), (2, .int x2), (3, .int x3)] 7 []), ∀ (x1 : Int32) (x2 : Int32) (x3 : Int32) (s0 : Int32), f_X4_mostPressingBlock_L65 k7 m x1 x2 x3 s0 = some r → JL p l e ({ frames := 2, cells := 0, slots := 0, locals := 45 } : Room) s md args below meth c D cy ad (MQ below (QI D cy ad r M0) args s 0 0 (AD ad)) (gs M0 g m) 6 [(0, .ref (ad g 0)), (1, .int x1), (2, .int x2), (3, .int x3)] 65 [.int s0] := by
    intro k7 hk7 x1 x2 x3 s0 h H locs hw hS ls hl
    unfold f_X4_mostPressingBlock_L65 at h
    refine lv_istore (lv' := [(5, .int s0), (0, .ref (ad g 0)), (1, .int x1), (2, .int x2), (3, .int x3)]) hx hb dX4_mostPressingBlock_65 hl (by decide) rfl (fun ls hl => ?_)
    refine lv_iload hx hb dX4_mostPressingBlock_67 (lv_at hl 0 rfl) ?_
    refine lv_iload_n hx hb dX4_mostPressingBlock_69 rfl (lv_at hl 3 rfl) ?_
    refine lv_icmp_le (tgt := 78) hx hb dX4_mostPressingBlock_70 (by decide) (fun q1 => ?_) (fun q1 => ?_)
    · replace h := t_pos h q1
      refine lv_iinc (v := (x3 + (nI 1))) (lv' := [(3, .int (x3 + (nI 1))), (5, .int s0), (0, .ref (ad g 0)), (1, .int x1), (2, .int x2)]) hx hb dX4_mostPressingBlock_78 hl (k := 4) rfl rfl (by decide) rfl (fun ls hl => ?_)
      refine lv_goto (tgt := 7) hx hb dX4_mostPressingBlock_81 (by decide) ?_
      exact hk7 x1 x2 (x3 + (nI 1)) h H locs hw hS ls (lv_sub hl [2, 3, 4, 0] rfl)
    · replace h := t_neg h q1
      refine lv_iload_n hx hb dX4_mostPressingBlock_73 rfl (lv_at hl 4 rfl) ?_
      refine lv_istore_n (lv' := [(1, .int x3), (5, .int s0), (0, .ref (ad g 0)), (2, .int x2), (3, .int x3)]) hx hb dX4_mostPressingBlock_74 rfl hl (by decide) rfl (fun ls hl => ?_)
      refine lv_iload hx hb dX4_mostPressingBlock_75 (lv_at hl 1 rfl) ?_
      refine lv_istore_n (lv' := [(2, .int s0), (1, .int x3), (5, .int s0), (0, .ref (ad g 0)), (3, .int x3)]) hx hb dX4_mostPressingBlock_77 rfl hl (by decide) rfl (fun ls hl => ?_)
      refine lv_iinc (v := (x3 + (nI 1))) (lv' := [(3, .int (x3 + (nI 1))), (2, .int s0), (1, .int x3), (5, .int s0), (0, .ref (ad g 0))]) hx hb dX4_mostPressingBlock_78 hl (k := 4) rfl rfl (by decide) rfl (fun ls hl => ?_)
      refine lv_goto (tgt := 7) hx hb dX4_mostPressingBlock_81 (by decide) ?_
      exact hk7 x3 s0 (x3 + (nI 1)) h H locs hw hS ls (lv_sub hl [4, 2, 1, 0] rfl)
  have L7 : ∀ (n : Nat), ∀ (x1 : Int32) (x2 : Int32) (x3 : Int32), f_X4_mostPressingBlock_L7 m n x1 x2 x3 = some r → JL p l e ({ frames := 2, cells := 0, slots := 0, locals := 45 } : Room) s md args below meth c D cy ad (MQ below (QI D cy ad r M0) args s 0 0 (AD ad)) (gs M0 g m) 6 [(0, .ref (ad g 0)), (1, .int x1), (2, .int x2), (3, .int x3)] 7 [] := by
    intro n
    induction n with
    | zero =>
      intro x1 x2 x3 h
      cases h
    | succ n ih =>
      intro x1 x2 x3 h H locs hw hS ls hl
      rw [f_X4_mostPressingBlock_L7.eq_2] at h
      refine lv_iload_n hx hb dX4_mostPressingBlock_7 rfl (lv_at hl 3 rfl) ?_
      refine lv_aload_n hx hb dX4_mostPressingBlock_8 rfl (lv_at hl 0 rfl) ?_
      refine r_get hx hb hts hown hK hw (v_st hg (by decide)) gs_atc (E_st hg) inX4 rfl 2 (by decide) k_164 rfl rfl dX4_mostPressingBlock_9 ?_
      refine lv_icmp_ge (tgt := 84) hx hb dX4_mostPressingBlock_12 (by decide) (fun q1 => ?_) (fun q1 => ?_)
      · replace h := t_pos h q1
        refine lv_iload_n hx hb dX4_mostPressingBlock_84 rfl (lv_at hl 1 rfl) ?_
        have e1 := Option.some.inj h
        exact e_i hx hb hr hlk hw hS e1 (gs_same hm) dX4_mostPressingBlock_85
      · replace h := t_neg h q1
        refine lv_aload_n hx hb dX4_mostPressingBlock_15 rfl (lv_at hl 0 rfl) ?_
        refine r_get hx hb hts hown hK hw (v_st hg (by decide)) gs_atc (E_st hg) inX4 rfl 0 (by decide) k_160 rfl rfl dX4_mostPressingBlock_16 ?_
        refine lv_iload_n hx hb dX4_mostPressingBlock_19 rfl (lv_at hl 3 rfl) ?_
        obtain ⟨q2, h⟩ := t_gd h
        refine r_aald hx hb hK hw (v_st hg (by decide)) (t0 := 2) rfl (E_ba hg) (v := .ref (ad g (3 + x3.toNatClampNeg))) rfl q2 dX4_mostPressingBlock_20 ?_
        refine lv_astore (lv' := [(4, .ref (ad g (3 + x3.toNatClampNeg))), (0, .ref (ad g 0)), (1, .int x1), (2, .int x2), (3, .int x3)]) hx hb dX4_mostPressingBlock_21 hl (by decide) rfl (fun ls hl => ?_)
        refine lv_aload hx hb dX4_mostPressingBlock_23 (lv_at hl 0 rfl) ?_
        obtain ⟨r4, y3, h⟩ := t_b1 h
        refine c_vi hx hb hml hown hts hK hw hS (fun _ h => h) (As := []) (rest := []) (c_X0_unread hcv (g := g) (hg := hg) (i := x3.toNatClampNeg) (hi := (vin q2)) (M0 := gs M0 g m) (m := m) (hm := gs_at) y3) cf_X0_unread k_305 rfl rfl ⟨Nat.le_of_ble_eq_true rfl, Nat.le_of_ble_eq_true rfl⟩ (r_recv hK hw (v_bk hg (vin q2)) (E_bk hg (vin q2)) rfl) rfl hl.1 rfl (Nat.le_of_ble_eq_true rfl) ⟨Nat.le_refl _, Nat.le_refl _⟩ dX4_mostPressingBlock_25 (fun H locs hw hS => ?_)
        refine lv_if_le (tgt := 78) hx hb dX4_mostPressingBlock_28 (by decide) (fun q5 => ?_) (fun q5 => ?_)
        · replace h := t_pos h q5
          refine lv_iinc (v := (x3 + (nI 1))) (lv' := [(3, .int (x3 + (nI 1))), (4, .ref (ad g (3 + x3.toNatClampNeg))), (0, .ref (ad g 0)), (1, .int x1), (2, .int x2)]) hx hb dX4_mostPressingBlock_78 hl (k := 4) rfl rfl (by decide) rfl (fun ls hl => ?_)
          refine lv_goto (tgt := 7) hx hb dX4_mostPressingBlock_81 (by decide) ?_
          exact ih x1 x2 (x3 + (nI 1)) h H locs hw hS ls (lv_sub hl [2, 3, 4, 0] rfl)
        · replace h := t_neg h q5
          refine lv_aload_n hx hb dX4_mostPressingBlock_31 rfl (lv_at hl 1 rfl) ?_
          refine r_get hx hb hts hown hK hw (v_st hg (by decide)) gs_atc (E_st hg) inX4 rfl 4 (by decide) k_168 rfl rfl dX4_mostPressingBlock_32 ?_
          refine lv_iconst (v := nI 1) hx hb dX4_mostPressingBlock_35 (by decide) ?_
          refine lv_icmp_ne (tgt := 59) hx hb dX4_mostPressingBlock_36 (by decide) (fun q6 => ?_) (fun q6 => ?_)
          · replace h := t_neg h q6
            refine lv_aload_n hx hb dX4_mostPressingBlock_59 rfl (lv_at hl 1 rfl) ?_
            refine lv_aload hx hb dX4_mostPressingBlock_60 (lv_at hl 0 rfl) ?_
            obtain ⟨r8, y7, h⟩ := t_b1 h
            refine c_vi hx hb hml hown hts hK hw hS (fun _ h => h) (As := [.ref (ad g (3 + x3.toNatClampNeg))]) (rest := []) (c_X4_weight hcv (g := g) (hg := hg) (i := x3.toNatClampNeg) (hi := (vin q2)) (M0 := gs M0 g m) (m := m) (hm := gs_at) y7) cf_X4_weight k_310 rfl rfl ⟨Nat.le_of_ble_eq_true rfl, Nat.le_of_ble_eq_true rfl⟩ (r_recv hK hw (v_st hg (by decide)) (E_st hg) rfl) rfl hl.1 rfl (Nat.le_of_ble_eq_true rfl) ⟨Nat.le_refl _, Nat.le_refl _⟩ dX4_mostPressingBlock_62 (fun H locs hw hS => ?_)
            exact L65 (f_X4_mostPressingBlock_L7 m n) ih x1 x2 x3 r8 h H locs hw hS ls (lv_sub hl [1, 2, 3, 4] rfl)
          · replace h := t_pos h q6
            refine lv_aload hx hb dX4_mostPressingBlock_39 (lv_at hl 0 rfl) ?_
            obtain ⟨r10, y9, h⟩ := t_b1 h
            refine c_vi hx hb hml hown hts hK hw hS (fun _ h => h) (As := []) (rest := []) (c_X0_unread hcv (g := g) (hg := hg) (i := x3.toNatClampNeg) (hi := (vin q2)) (M0 := gs M0 g m) (m := m) (hm := gs_at) y9) cf_X0_unread k_305 rfl rfl ⟨Nat.le_of_ble_eq_true rfl, Nat.le_of_ble_eq_true rfl⟩ (r_recv hK hw (v_bk hg (vin q2)) (E_bk hg (vin q2)) rfl) rfl hl.1 rfl (Nat.le_of_ble_eq_true rfl) ⟨Nat.le_refl _, Nat.le_refl _⟩ dX4_mostPressingBlock_41 (fun H locs hw hS => ?_)
            refine lv_aload hx hb dX4_mostPressingBlock_44 (lv_at hl 0 rfl) ?_
            refine r_get hx hb hts hown hK hw (v_bk hg (vin q2)) gs_atc (E_bk hg (vin q2)) inX0 rfl 3 (by decide) k_83 rfl rfl dX4_mostPressingBlock_46 ?_
            refine lv_aload hx hb dX4_mostPressingBlock_49 (lv_at hl 0 rfl) ?_
            refine r_get hx hb hts hown hK hw (v_bk hg (vin q2)) gs_atc (E_bk hg (vin q2)) inX0 rfl 2 (by decide) k_79 rfl rfl dX4_mostPressingBlock_51 ?_
            refine lv_isub hx hb dX4_mostPressingBlock_54 ?_
            refine lv_imul hx hb dX4_mostPressingBlock_55 ?_
            refine lv_goto (tgt := 65) hx hb dX4_mostPressingBlock_56 (by decide) ?_
            exact L65 (f_X4_mostPressingBlock_L7 m n) ih x1 x2 x3 (r10 * ((m (3 + x3.toNatClampNeg) 3) - (m (3 + x3.toNatClampNeg) 2))) h H locs hw hS ls (lv_sub hl [1, 2, 3, 4] rfl)
  unfold f_X4_mostPressingBlock at h
  have main : JL p l e ({ frames := 2, cells := 0, slots := 0, locals := 45 } : Room) s md args below meth c D cy ad (MQ below (QI D cy ad r M0) args s 0 0 (AD ad)) (gs M0 g m) 6 [(0, .ref (ad g 0))] 0 [] := by
    intro H locs hw hS ls hl
    refine lv_bipush (v := -5) hx hb dX4_mostPressingBlock_0 (by decide) ?_
    refine lv_istore_n (lv' := [(1, .int (-5 : Int32)), (0, .ref (ad g 0))]) hx hb dX4_mostPressingBlock_2 rfl hl (by decide) rfl (fun ls hl => ?_)
    refine lv_iconst (v := -1) hx hb dX4_mostPressingBlock_3 (by decide) ?_
    refine lv_istore_n (lv' := [(2, .int (-1 : Int32)), (1, .int (-5 : Int32)), (0, .ref (ad g 0))]) hx hb dX4_mostPressingBlock_4 rfl hl (by decide) rfl (fun ls hl => ?_)
    refine lv_iconst (v := nI 0) hx hb dX4_mostPressingBlock_5 (by decide) ?_
    refine lv_istore_n (lv' := [(3, .int (nI 0)), (2, .int (-1 : Int32)), (1, .int (-5 : Int32)), (0, .ref (ad g 0))]) hx hb dX4_mostPressingBlock_6 rfl hl (by decide) rfl (fun ls hl => ?_)
    exact L7 FU (-5 : Int32) (-1 : Int32) (nI 0) h H locs hw hS ls (lv_sub hl [3, 2, 1, 0] rfl)
  exact main _ _ hw hS ls hl

theorem cf_X4_nextBlock : cfV RX4 yX4_nextBlock cX4_nextBlock 1 (some .int) 0 := ⟨⟨k_298, k_299, k_3, k_300⟩, by decide +kernel⟩
def f_X4_nextBlock (m : SM) : Option (Int32) :=
  (if (m 0 4) = (nI 0) then b1 (f_X4_blockInTurn m) fun r5 => some r5 else b1 (f_X4_mostPressingBlock m) fun r3 => some r3)
set_option maxHeartbeats 4000000 in
set_option maxRecDepth 100000 in
theorem c_X4_nextBlock {l : Launch} {D : va_G} {cy : Nat → ClassId} {ad : Nat → Nat → Nat} (hcv : CV ad) {g : Nat} (hg : g < 7) {M0 : MM} {m : SM} (hm : M0 g = m) {r : Int32} (h : f_X4_nextBlock m = some r) : Met l yX4_nextBlock (.code yX4_nextBlock cX4_nextBlock 1 (some .int) :: TB) ({ frames := 3, cells := 0, slots := 0, locals := 70 } : Room) (PW D cy ad M0 [.ref (ad g 0)]) (QI D cy ad r M0) 0 0 (AD ad) := by
  refine m_in (by decide +kernel) (Nat.le_of_ble_eq_true rfl) ?_
  intro p e s md args below meth c hC hw hS ls hl
  obtain ⟨hx, hb, hr, hml, hown, hts, hK, hlk⟩ := hC
  have hl : lv_has ls 1 [(0, .ref (ad g 0))] := hl
  rw [← gs_same hm] at hw
  unfold f_X4_nextBlock at h
  have main : JL p l e ({ frames := 3, cells := 0, slots := 0, locals := 70 } : Room) s md args below meth c D cy ad (MQ below (QI D cy ad r M0) args s 0 0 (AD ad)) (gs M0 g m) 1 [(0, .ref (ad g 0))] 0 [] := by
    intro H locs hw hS ls hl
    refine lv_aload_n hx hb dX4_nextBlock_0 rfl (lv_at hl 0 rfl) ?_
    refine r_get hx hb hts hown hK hw (v_st hg (by decide)) gs_atc (E_st hg) inX4 rfl 4 (by decide) k_168 rfl rfl dX4_nextBlock_1 ?_
    refine lv_if_ne (tgt := 14) hx hb dX4_nextBlock_4 (by decide) (fun q1 => ?_) (fun q1 => ?_)
    · replace h := t_neg h q1
      refine lv_aload_n hx hb dX4_nextBlock_14 rfl (lv_at hl 0 rfl) ?_
      obtain ⟨r3, y2, h⟩ := t_b1 h
      refine c_vi hx hb hml hown hts hK hw hS (fun _ h => h) (As := []) (rest := []) (c_X4_mostPressingBlock hcv (g := g) (hg := hg) (M0 := gs M0 g m) (m := m) (hm := gs_at) y2) cf_X4_mostPressingBlock k_306 rfl rfl ⟨Nat.le_of_ble_eq_true rfl, Nat.le_of_ble_eq_true rfl⟩ (r_recv hK hw (v_st hg (by decide)) (E_st hg) rfl) rfl hl.1 rfl (Nat.le_of_ble_eq_true rfl) ⟨Nat.le_refl _, Nat.le_refl _⟩ dX4_nextBlock_15 (fun H locs hw hS => ?_)
      have e1 := Option.some.inj h
      exact e_i hx hb hr hlk hw hS e1 (gs_same hm) dX4_nextBlock_18
    · replace h := t_pos h q1
      refine lv_aload_n hx hb dX4_nextBlock_7 rfl (lv_at hl 0 rfl) ?_
      obtain ⟨r5, y4, h⟩ := t_b1 h
      refine c_vi hx hb hml hown hts hK hw hS (fun _ h => h) (As := []) (rest := []) (c_X4_blockInTurn hcv (g := g) (hg := hg) (M0 := gs M0 g m) (m := m) (hm := gs_at) y4) cf_X4_blockInTurn k_301 rfl rfl ⟨Nat.le_of_ble_eq_true rfl, Nat.le_of_ble_eq_true rfl⟩ (r_recv hK hw (v_st hg (by decide)) (E_st hg) rfl) rfl hl.1 rfl (Nat.le_of_ble_eq_true rfl) ⟨Nat.le_refl _, Nat.le_refl _⟩ dX4_nextBlock_8 (fun H locs hw hS => ?_)
      refine lv_goto (tgt := 18) hx hb dX4_nextBlock_11 (by decide) ?_
      have e1 := Option.some.inj h
      exact e_i hx hb hr hlk hw hS e1 (gs_same hm) dX4_nextBlock_18
  exact main _ _ hw hS ls hl

theorem cf_X4_readByPlan : cfV RX4 yX4_readByPlan cX4_readByPlan 2 (some .boolean) 0 := ⟨⟨k_319, k_320, k_3, k_321⟩, by decide +kernel⟩
def f_X4_readByPlan_L50 (m : SM) (s1 : Int32) : Option (Int32 × SM) :=
  lt1 (up m 0 5 s1) fun m2 => bd (f_X4_settle m2) fun r4 m5 => some ((nI 1), m5)
def f_X4_readByPlan (m : SM) : Option (Int32 × SM) :=
  b1 (f_X4_nextBlock m) fun r2 => b1 (f_X4_hasBlock m r2) fun r4 => (if r4 = (nI 0) then some ((nI 0), m) else gd r2 8 (bd (f_X0_readRow m r2.toNatClampNeg) fun r8 m9 => (if (m9 0 4) = (nI 0) then (if (m9 0 2) ≤ (r2 + (nI 1)) then f_X4_readByPlan_L50 m9 (nI 0) else f_X4_readByPlan_L50 m9 (r2 + (nI 1))) else bd (f_X4_settle m9) fun r12 m13 => some ((nI 1), m13))))
set_option maxHeartbeats 4000000 in
set_option maxRecDepth 100000 in
theorem c_X4_readByPlan {l : Launch} {D : va_G} {cy : Nat → ClassId} {ad : Nat → Nat → Nat} (hcv : CV ad) {g : Nat} (hg : g < 7) {M0 : MM} {m : SM} (hm : M0 g = m) {r : Int32} {x : SM} (h : f_X4_readByPlan m = some (r, x)) : Met l yX4_readByPlan (.code yX4_readByPlan cX4_readByPlan 2 (some .boolean) :: TB) ({ frames := 4, cells := 0, slots := 0, locals := 98 } : Room) (PW D cy ad M0 [.ref (ad g 0)]) (QI D cy ad r (gs M0 g x)) 0 0 (AD ad) := by
  refine m_in (by decide +kernel) (Nat.le_of_ble_eq_true rfl) ?_
  intro p e s md args below meth c hC hw hS ls hl
  obtain ⟨hx, hb, hr, hml, hown, hts, hK, hlk⟩ := hC
  have hl : lv_has ls 2 [(0, .ref (ad g 0))] := hl
  rw [← gs_same hm] at hw
  have L50 : ∀ (m : SM) (s1 : Int32), f_X4_readByPlan_L50 m s1 = some (r, x) → JL p l e ({ frames := 4, cells := 0, slots := 0, locals := 98 } : Room) s md args below meth c D cy ad (MQ below (QI D cy ad r (gs M0 g x)) args s 0 0 (AD ad)) (gs M0 g m) 2 [(0, .ref (ad g 0))] 50 [.int s1, .ref (ad g 0)] := by
    intro m s1 h H locs hw hS ls hl
    unfold f_X4_readByPlan_L50 at h
    obtain ⟨m2, e1, h⟩ := t_lt h
    refine r_put hx hb hts hown hK hcv hw hS (v_st hg (by decide)) gs_atc (E_st hg) inX4 rfl tyX4 tyX4_ok nmX4 5 (by decide) k_170 rfl rfl rfl rfl (Nat.le_of_ble_eq_true rfl) (E_st hg) (gs_up e1) dX4_readByPlan_50 (fun H locs hw hS => ?_)
    refine lv_aload_n hx hb dX4_readByPlan_53 rfl (lv_at hl 0 rfl) ?_
    obtain ⟨r4, m5, y3, h⟩ := t_bd h
    refine c_vv hx hb hml hown hts hK hw hS (fun _ h => h) (As := []) (rest := []) (c_X4_settle hcv (g := g) (hg := hg) (M0 := gs M0 g m2) (m := m2) (hm := gs_at) y3) cf_X4_settle k_332 rfl rfl ⟨Nat.le_of_ble_eq_true rfl, Nat.le_of_ble_eq_true rfl⟩ (r_recv hK hw (v_st hg (by decide)) (E_st hg) rfl) rfl hl.1 rfl (Nat.le_of_ble_eq_true rfl) ⟨Nat.le_refl _, Nat.le_refl _⟩ dX4_readByPlan_54 (fun H locs hw hS => ?_)
    rw [gs_gs] at hw
    refine lv_iconst (v := nI 1) hx hb dX4_readByPlan_57 (by decide) ?_
    have e1 := (t_ret h).1
    have e2 := (t_ret h).2
    exact e_z hx hb hr hlk (Or.inr rfl) hw hS e1 (by rw [e2]) dX4_readByPlan_58
  unfold f_X4_readByPlan at h
  have main : JL p l e ({ frames := 4, cells := 0, slots := 0, locals := 98 } : Room) s md args below meth c D cy ad (MQ below (QI D cy ad r (gs M0 g x)) args s 0 0 (AD ad)) (gs M0 g m) 2 [(0, .ref (ad g 0))] 0 [] := by
    intro H locs hw hS ls hl
    refine lv_aload_n hx hb dX4_readByPlan_0 rfl (lv_at hl 0 rfl) ?_
    obtain ⟨r2, y1, h⟩ := t_b1 h
    refine c_vi hx hb hml hown hts hK hw hS (fun _ h => h) (As := []) (rest := []) (c_X4_nextBlock hcv (g := g) (hg := hg) (M0 := gs M0 g m) (m := m) (hm := gs_at) y1) cf_X4_nextBlock k_322 rfl rfl ⟨Nat.le_of_ble_eq_true rfl, Nat.le_of_ble_eq_true rfl⟩ (r_recv hK hw (v_st hg (by decide)) (E_st hg) rfl) rfl hl.1 rfl (Nat.le_of_ble_eq_true rfl) ⟨Nat.le_refl _, Nat.le_refl _⟩ dX4_readByPlan_1 (fun H locs hw hS => ?_)
    refine lv_istore_n (lv' := [(1, .int r2), (0, .ref (ad g 0))]) hx hb dX4_readByPlan_4 rfl hl (by decide) rfl (fun ls hl => ?_)
    refine lv_aload_n hx hb dX4_readByPlan_5 rfl (lv_at hl 1 rfl) ?_
    refine lv_iload_n hx hb dX4_readByPlan_6 rfl (lv_at hl 0 rfl) ?_
    obtain ⟨r4, y3, h⟩ := t_b1 h
    refine c_vi hx hb hml hown hts hK hw hS (fun _ h => h) (As := [.int r2]) (rest := []) (c_X4_hasBlock hcv (g := g) (hg := hg) (M0 := gs M0 g m) (m := m) (hm := gs_at) y3) cf_X4_hasBlock k_323 rfl rfl ⟨Nat.le_of_ble_eq_true rfl, Nat.le_of_ble_eq_true rfl⟩ (r_recv hK hw (v_st hg (by decide)) (E_st hg) rfl) rfl hl.1 rfl (Nat.le_of_ble_eq_true rfl) ⟨Nat.le_refl _, Nat.le_refl _⟩ dX4_readByPlan_7 (fun H locs hw hS => ?_)
    refine lv_if_ne (tgt := 15) hx hb dX4_readByPlan_10 (by decide) (fun q5 => ?_) (fun q5 => ?_)
    · replace h := t_neg h q5
      refine lv_aload_n hx hb dX4_readByPlan_15 rfl (lv_at hl 1 rfl) ?_
      refine r_get hx hb hts hown hK hw (v_st hg (by decide)) gs_atc (E_st hg) inX4 rfl 0 (by decide) k_160 rfl rfl dX4_readByPlan_16 ?_
      refine lv_iload_n hx hb dX4_readByPlan_19 rfl (lv_at hl 0 rfl) ?_
      obtain ⟨q6, h⟩ := t_gd h
      refine r_aald hx hb hK hw (v_st hg (by decide)) (t0 := 2) rfl (E_ba hg) (v := .ref (ad g (3 + r2.toNatClampNeg))) rfl q6 dX4_readByPlan_20 ?_
      obtain ⟨r8, m9, y7, h⟩ := t_bd h
      refine c_vi hx hb hml hown hts hK hw hS (fun _ h => h) (As := []) (rest := []) (c_X0_readRow hcv (g := g) (hg := hg) (i := r2.toNatClampNeg) (hi := (vin q6)) (M0 := gs M0 g m) (m := m) (hm := gs_at) y7) cf_X0_readRow k_328 rfl rfl ⟨Nat.le_of_ble_eq_true rfl, Nat.le_of_ble_eq_true rfl⟩ (r_recv hK hw (v_bk hg (vin q6)) (E_bk hg (vin q6)) rfl) rfl hl.1 rfl (Nat.le_of_ble_eq_true rfl) ⟨Nat.le_refl _, Nat.le_refl _⟩ dX4_readByPlan_21 (fun H locs hw hS => ?_)
      rw [gs_gs] at hw
      refine lv_pop hx hb dX4_readByPlan_24 rfl ?_
      refine lv_aload_n hx hb dX4_readByPlan_25 rfl (lv_at hl 1 rfl) ?_
      refine r_get hx hb hts hown hK hw (v_st hg (by decide)) gs_atc (E_st hg) inX4 rfl 4 (by decide) k_168 rfl rfl dX4_readByPlan_26 ?_
      refine lv_if_ne (tgt := 53) hx hb dX4_readByPlan_29 (by decide) (fun q10 => ?_) (fun q10 => ?_)
      · replace h := t_neg h q10
        refine lv_aload_n hx hb dX4_readByPlan_53 rfl (lv_at hl 1 rfl) ?_
        obtain ⟨r12, m13, y11, h⟩ := t_bd h
        refine c_vv hx hb hml hown hts hK hw hS (fun _ h => h) (As := []) (rest := []) (c_X4_settle hcv (g := g) (hg := hg) (M0 := gs M0 g m9) (m := m9) (hm := gs_at) y11) cf_X4_settle k_332 rfl rfl ⟨Nat.le_of_ble_eq_true rfl, Nat.le_of_ble_eq_true rfl⟩ (r_recv hK hw (v_st hg (by decide)) (E_st hg) rfl) rfl hl.1 rfl (Nat.le_of_ble_eq_true rfl) ⟨Nat.le_refl _, Nat.le_refl _⟩ dX4_readByPlan_54 (fun H locs hw hS => ?_)
        rw [gs_gs] at hw
        refine lv_iconst (v := nI 1) hx hb dX4_readByPlan_57 (by decide) ?_
        have e1 := (t_ret h).1
        have e2 := (t_ret h).2
        exact e_z hx hb hr hlk (Or.inr rfl) hw hS e1 (by rw [e2]) dX4_readByPlan_58
      · replace h := t_pos h q10
        refine lv_aload_n hx hb dX4_readByPlan_32 rfl (lv_at hl 1 rfl) ?_
        refine lv_iload_n hx hb dX4_readByPlan_33 rfl (lv_at hl 0 rfl) ?_
        refine lv_iconst (v := nI 1) hx hb dX4_readByPlan_34 (by decide) ?_
        refine lv_iadd hx hb dX4_readByPlan_35 ?_
        refine lv_aload_n hx hb dX4_readByPlan_36 rfl (lv_at hl 1 rfl) ?_
        refine r_get hx hb hts hown hK hw (v_st hg (by decide)) gs_atc (E_st hg) inX4 rfl 2 (by decide) k_164 rfl rfl dX4_readByPlan_37 ?_
        refine lv_icmp_ge (tgt := 49) hx hb dX4_readByPlan_40 (by decide) (fun q14 => ?_) (fun q14 => ?_)
        · replace h := t_pos h q14
          refine lv_iconst (v := nI 0) hx hb dX4_readByPlan_49 (by decide) ?_
          exact L50 m9 (nI 0) h H locs hw hS ls (lv_sub hl [1] rfl)
        · replace h := t_neg h q14
          refine lv_iload_n hx hb dX4_readByPlan_43 rfl (lv_at hl 0 rfl) ?_
          refine lv_iconst (v := nI 1) hx hb dX4_readByPlan_44 (by decide) ?_
          refine lv_iadd hx hb dX4_readByPlan_45 ?_
          refine lv_goto (tgt := 50) hx hb dX4_readByPlan_46 (by decide) ?_
          exact L50 m9 (r2 + (nI 1)) h H locs hw hS ls (lv_sub hl [1] rfl)
    · replace h := t_pos h q5
      refine lv_iconst (v := nI 0) hx hb dX4_readByPlan_13 (by decide) ?_
      have e1 := (t_ret h).1
      have e2 := (t_ret h).2
      exact e_z hx hb hr hlk (Or.inl rfl) hw hS e1 (by rw [e2]) dX4_readByPlan_14
  exact main _ _ hw hS ls hl

theorem cf_X4_readWhileOpen : cfV RX4 yX4_readWhileOpen cX4_readWhileOpen 3 (some .int) 0 := ⟨⟨k_342, k_343, k_3, k_344⟩, by decide +kernel⟩
def f_X4_readWhileOpen_L4 : Nat → SM → Int32 → Int32 → Option (Int32 × SM)
  | 0, _, _, _ => none
  | n + 1, m, x1, x2 => (if (nI 128) ≤ x2 then some (x1, m) else b1 (f_X4_openQuestions m) fun r3 => (if r3 = (nI 0) then some (x1, m) else bd (f_X4_readByPlan m) fun r6 m7 => (if r6 = (nI 0) then some (x1, m7) else f_X4_readWhileOpen_L4 n m7 (x1 + (nI 1)) (x2 + (nI 1)))))
def f_X4_readWhileOpen (m : SM) : Option (Int32 × SM) :=
  f_X4_readWhileOpen_L4 FU m (nI 0) (nI 0)
set_option maxHeartbeats 4000000 in
set_option maxRecDepth 100000 in
theorem c_X4_readWhileOpen {l : Launch} {D : va_G} {cy : Nat → ClassId} {ad : Nat → Nat → Nat} (hcv : CV ad) {g : Nat} (hg : g < 7) {M0 : MM} {m : SM} (hm : M0 g = m) {r : Int32} {x : SM} (h : f_X4_readWhileOpen m = some (r, x)) : Met l yX4_readWhileOpen (.code yX4_readWhileOpen cX4_readWhileOpen 3 (some .int) :: TB) ({ frames := 5, cells := 0, slots := 0, locals := 119 } : Room) (PW D cy ad M0 [.ref (ad g 0)]) (QI D cy ad r (gs M0 g x)) 0 0 (AD ad) := by
  refine m_in (by decide +kernel) (Nat.le_of_ble_eq_true rfl) ?_
  intro p e s md args below meth c hC hw hS ls hl
  obtain ⟨hx, hb, hr, hml, hown, hts, hK, hlk⟩ := hC
  have hl : lv_has ls 3 [(0, .ref (ad g 0))] := hl
  rw [← gs_same hm] at hw
  have L4 : ∀ (n : Nat), ∀ (m : SM) (x1 : Int32) (x2 : Int32), f_X4_readWhileOpen_L4 n m x1 x2 = some (r, x) → JL p l e ({ frames := 5, cells := 0, slots := 0, locals := 119 } : Room) s md args below meth c D cy ad (MQ below (QI D cy ad r (gs M0 g x)) args s 0 0 (AD ad)) (gs M0 g m) 3 [(0, .ref (ad g 0)), (1, .int x1), (2, .int x2)] 4 [] := by
    intro n
    induction n with
    | zero =>
      intro m x1 x2 h
      cases h
    | succ n ih =>
      intro m x1 x2 h H locs hw hS ls hl
      rw [f_X4_readWhileOpen_L4.eq_2] at h
      refine lv_iload_n hx hb dX4_readWhileOpen_4 rfl (lv_at hl 2 rfl) ?_
      refine lv_sipush (v := nI 128) hx hb dX4_readWhileOpen_5 (by decide) ?_
      refine lv_icmp_ge (tgt := 37) hx hb dX4_readWhileOpen_8 (by decide) (fun q1 => ?_) (fun q1 => ?_)
      · replace h := t_pos h q1
        refine lv_iload_n hx hb dX4_readWhileOpen_37 rfl (lv_at hl 1 rfl) ?_
        have e1 := (t_ret h).1
        have e2 := (t_ret h).2
        exact e_i hx hb hr hlk hw hS e1 (by rw [e2]) dX4_readWhileOpen_38
      · replace h := t_neg h q1
        refine lv_aload_n hx hb dX4_readWhileOpen_11 rfl (lv_at hl 0 rfl) ?_
        obtain ⟨r3, y2, h⟩ := t_b1 h
        refine c_vi hx hb hml hown hts hK hw hS (fun _ h => h) (As := []) (rest := []) (c_X4_openQuestions hcv (g := g) (hg := hg) (M0 := gs M0 g m) (m := m) (hm := gs_at) y2) cf_X4_openQuestions k_345 rfl rfl ⟨Nat.le_of_ble_eq_true rfl, Nat.le_of_ble_eq_true rfl⟩ (r_recv hK hw (v_st hg (by decide)) (E_st hg) rfl) rfl hl.1 rfl (Nat.le_of_ble_eq_true rfl) ⟨Nat.le_refl _, Nat.le_refl _⟩ dX4_readWhileOpen_12 (fun H locs hw hS => ?_)
        refine lv_if_eq (tgt := 37) hx hb dX4_readWhileOpen_15 (by decide) (fun q4 => ?_) (fun q4 => ?_)
        · replace h := t_pos h q4
          refine lv_iload_n hx hb dX4_readWhileOpen_37 rfl (lv_at hl 1 rfl) ?_
          have e1 := (t_ret h).1
          have e2 := (t_ret h).2
          exact e_i hx hb hr hlk hw hS e1 (by rw [e2]) dX4_readWhileOpen_38
        · replace h := t_neg h q4
          refine lv_aload_n hx hb dX4_readWhileOpen_18 rfl (lv_at hl 0 rfl) ?_
          obtain ⟨r6, m7, y5, h⟩ := t_bd h
          refine c_vi hx hb hml hown hts hK hw hS (fun _ h => h) (As := []) (rest := []) (c_X4_readByPlan hcv (g := g) (hg := hg) (M0 := gs M0 g m) (m := m) (hm := gs_at) y5) cf_X4_readByPlan k_346 rfl rfl ⟨Nat.le_of_ble_eq_true rfl, Nat.le_of_ble_eq_true rfl⟩ (r_recv hK hw (v_st hg (by decide)) (E_st hg) rfl) rfl hl.1 rfl (Nat.le_of_ble_eq_true rfl) ⟨Nat.le_refl _, Nat.le_refl _⟩ dX4_readWhileOpen_19 (fun H locs hw hS => ?_)
          rw [gs_gs] at hw
          refine lv_if_ne (tgt := 28) hx hb dX4_readWhileOpen_22 (by decide) (fun q8 => ?_) (fun q8 => ?_)
          · replace h := t_neg h q8
            refine lv_iinc (v := (x1 + (nI 1))) (lv' := [(1, .int (x1 + (nI 1))), (0, .ref (ad g 0)), (2, .int x2)]) hx hb dX4_readWhileOpen_28 hl (k := 1) rfl rfl (by decide) rfl (fun ls hl => ?_)
            refine lv_iinc (v := (x2 + (nI 1))) (lv' := [(2, .int (x2 + (nI 1))), (1, .int (x1 + (nI 1))), (0, .ref (ad g 0))]) hx hb dX4_readWhileOpen_31 hl (k := 2) rfl rfl (by decide) rfl (fun ls hl => ?_)
            refine lv_goto (tgt := 4) hx hb dX4_readWhileOpen_34 (by decide) ?_
            exact ih m7 (x1 + (nI 1)) (x2 + (nI 1)) h H locs hw hS ls (lv_sub hl [2, 1, 0] rfl)
          · replace h := t_pos h q8
            refine lv_goto (tgt := 37) hx hb dX4_readWhileOpen_25 (by decide) ?_
            refine lv_iload_n hx hb dX4_readWhileOpen_37 rfl (lv_at hl 1 rfl) ?_
            have e1 := (t_ret h).1
            have e2 := (t_ret h).2
            exact e_i hx hb hr hlk hw hS e1 (by rw [e2]) dX4_readWhileOpen_38
  unfold f_X4_readWhileOpen at h
  have main : JL p l e ({ frames := 5, cells := 0, slots := 0, locals := 119 } : Room) s md args below meth c D cy ad (MQ below (QI D cy ad r (gs M0 g x)) args s 0 0 (AD ad)) (gs M0 g m) 3 [(0, .ref (ad g 0))] 0 [] := by
    intro H locs hw hS ls hl
    refine lv_iconst (v := nI 0) hx hb dX4_readWhileOpen_0 (by decide) ?_
    refine lv_istore_n (lv' := [(1, .int (nI 0)), (0, .ref (ad g 0))]) hx hb dX4_readWhileOpen_1 rfl hl (by decide) rfl (fun ls hl => ?_)
    refine lv_iconst (v := nI 0) hx hb dX4_readWhileOpen_2 (by decide) ?_
    refine lv_istore_n (lv' := [(2, .int (nI 0)), (1, .int (nI 0)), (0, .ref (ad g 0))]) hx hb dX4_readWhileOpen_3 rfl hl (by decide) rfl (fun ls hl => ?_)
    exact L4 FU m (nI 0) (nI 0) h H locs hw hS ls (lv_sub hl [2, 1, 0] rfl)
  exact main _ _ hw hS ls hl

theorem cf_X5_addBlock : cfV RX5 yX5_addBlock cX5_addBlock 2 (some .int) 0 := ⟨⟨k_437, k_438, k_1, k_439⟩, by decide +kernel⟩
def f_X5_addBlock (M : MM) : Option (Int32 × MM) :=
  bd (f_X1_parse (M 7)) fun r2 m3 => lt1 (gs M 7 m3) fun M4 => (if r2 = (nI 0) then some (((-100 : Int32) - (M4 7 0 3)), M4) else b1 (f_X1_isInRange (M4 7)) fun r8 => (if r8 = (nI 0) then some ((-2 : Int32), M4) else (if (M4 0 0 2) < (nI 8) then bd (f_X2_record M4) fun r12 M13 => bd (f_X4_appendBlock (M13 0) (M13 7)) fun r15 m16 => lt1 (gs M13 0 m16) fun M17 => bd (f_X4_settle (M17 0)) fun r20 m21 => lt1 (gs M17 0 m21) fun M22 => some (r15, M22) else some ((-3 : Int32), M4))))
set_option maxHeartbeats 4000000 in
set_option maxRecDepth 100000 in
theorem c_X5_addBlock {l : Launch} {D : va_G} {cy : Nat → ClassId} {ad : Nat → Nat → Nat} (hcv : CV ad) {M : MM} {r : Int32} {x : MM} (h : f_X5_addBlock M = some (r, x)) : Met l yX5_addBlock (.code yX5_addBlock cX5_addBlock 2 (some .int) :: TB) ({ frames := 5, cells := 0, slots := 0, locals := 124 } : Room) (PW D cy ad M [.ref (ad 8 0)]) (QI D cy ad r x) 0 0 (AD ad) := by
  refine m_in (by decide +kernel) (Nat.le_of_ble_eq_true rfl) ?_
  intro p e s md args below meth c hC hw hS ls hl
  obtain ⟨hx, hb, hr, hml, hown, hts, hK, hlk⟩ := hC
  have hl : lv_has ls 2 [(0, .ref (ad 8 0))] := hl
  unfold f_X5_addBlock at h
  have main : JL p l e ({ frames := 5, cells := 0, slots := 0, locals := 124 } : Room) s md args below meth c D cy ad (MQ below (QI D cy ad r x) args s 0 0 (AD ad)) (M) 2 [(0, .ref (ad 8 0))] 0 [] := by
    intro H locs hw hS ls hl
    refine lv_aload_n hx hb dX5_addBlock_0 rfl (lv_at hl 0 rfl) ?_
    refine r_get hx hb hts hown hK hw (v_mn (by decide)) rfl E_mn inX5 rfl 0 (by decide) k_205 rfl rfl dX5_addBlock_1 ?_
    obtain ⟨r2, m3, y1, h⟩ := t_bd h
    obtain ⟨M4, e5, h⟩ := t_lt h
    refine c_vi hx hb hml hown hts hK hw hS (fun _ h => h) (As := []) (rest := []) (c_X1_parse hcv (M0 := M) (m := M 7) (hm := rfl) y1) cf_X1_parse k_440 rfl rfl ⟨Nat.le_of_ble_eq_true rfl, Nat.le_of_ble_eq_true rfl⟩ (r_recv hK hw (v_tx (by decide)) E_tx rfl) rfl hl.1 rfl (Nat.le_of_ble_eq_true rfl) ⟨Nat.le_refl _, Nat.le_refl _⟩ dX5_addBlock_4 (fun H locs hw hS => ?_)
    rw [← e5] at hw
    refine lv_if_ne (tgt := 21) hx hb dX5_addBlock_7 (by decide) (fun q6 => ?_) (fun q6 => ?_)
    · replace h := t_neg h q6
      refine lv_aload_n hx hb dX5_addBlock_21 rfl (lv_at hl 0 rfl) ?_
      refine r_get hx hb hts hown hK hw (v_mn (by decide)) rfl E_mn inX5 rfl 0 (by decide) k_205 rfl rfl dX5_addBlock_22 ?_
      obtain ⟨r8, y7, h⟩ := t_b1 h
      refine c_vi hx hb hml hown hts hK hw hS (fun _ h => h) (As := []) (rest := []) (c_X1_isInRange hcv (M0 := M4) (m := M4 7) (hm := rfl) y7) cf_X1_isInRange k_460 rfl rfl ⟨Nat.le_of_ble_eq_true rfl, Nat.le_of_ble_eq_true rfl⟩ (r_recv hK hw (v_tx (by decide)) E_tx rfl) rfl hl.1 rfl (Nat.le_of_ble_eq_true rfl) ⟨Nat.le_refl _, Nat.le_refl _⟩ dX5_addBlock_25 (fun H locs hw hS => ?_)
      refine lv_if_ne (tgt := 34) hx hb dX5_addBlock_28 (by decide) (fun q9 => ?_) (fun q9 => ?_)
      · replace h := t_neg h q9
        refine lv_aload_n hx hb dX5_addBlock_34 rfl (lv_at hl 0 rfl) ?_
        refine r_get hx hb hts hown hK hw (v_mn (by decide)) rfl E_mn inX5 rfl 1 (by decide) k_206 rfl rfl dX5_addBlock_35 ?_
        refine r_get hx hb hts hown hK hw (v_st (by decide) (by decide)) rfl (E_st (by decide)) inX4 rfl 2 (by decide) k_165 rfl rfl dX5_addBlock_38 ?_
        refine lv_bipush (v := nI 8) hx hb dX5_addBlock_41 (by decide) ?_
        refine lv_icmp_lt (tgt := 49) hx hb dX5_addBlock_43 (by decide) (fun q10 => ?_) (fun q10 => ?_)
        · replace h := t_pos h q10
          refine lv_aload_n hx hb dX5_addBlock_49 rfl (lv_at hl 0 rfl) ?_
          refine r_get hx hb hts hown hK hw (v_mn (by decide)) rfl E_mn inX5 rfl 4 (by decide) k_209 rfl rfl dX5_addBlock_50 ?_
          refine lv_aload_n hx hb dX5_addBlock_53 rfl (lv_at hl 0 rfl) ?_
          refine r_get hx hb hts hown hK hw (v_mn (by decide)) rfl E_mn inX5 rfl 1 (by decide) k_206 rfl rfl dX5_addBlock_54 ?_
          obtain ⟨r12, M13, y11, h⟩ := t_bd h
          refine c_vv hx hb hml hown hts hK hw hS (fun _ h => h) (As := [.ref (ad 0 0)]) (rest := []) (c_X2_record hcv (M := M4) y11) cf_X2_record k_231 rfl rfl ⟨Nat.le_of_ble_eq_true rfl, Nat.le_of_ble_eq_true rfl⟩ (r_recv hK hw (v_mn (by decide)) E_hi rfl) rfl hl.1 rfl (Nat.le_of_ble_eq_true rfl) ⟨Nat.le_refl _, Nat.le_refl _⟩ dX5_addBlock_57 (fun H locs hw hS => ?_)
          refine lv_aload_n hx hb dX5_addBlock_60 rfl (lv_at hl 0 rfl) ?_
          refine r_get hx hb hts hown hK hw (v_mn (by decide)) rfl E_mn inX5 rfl 1 (by decide) k_206 rfl rfl dX5_addBlock_61 ?_
          refine lv_aload_n hx hb dX5_addBlock_64 rfl (lv_at hl 0 rfl) ?_
          refine r_get hx hb hts hown hK hw (v_mn (by decide)) rfl E_mn inX5 rfl 0 (by decide) k_205 rfl rfl dX5_addBlock_65 ?_
          obtain ⟨r15, m16, y14, h⟩ := t_bd h
          obtain ⟨M17, e18, h⟩ := t_lt h
          refine c_vi hx hb hml hown hts hK hw hS (fun _ h => h) (As := [.ref (ad 7 0)]) (rest := []) (c_X4_appendBlock hcv (g := 0) (hg := (by decide)) (M0 := M13) (m := M13 0) (hm := rfl) (mz := M13 7) (hne := by omega) (hm2 := rfl) y14) cf_X4_appendBlock k_465 rfl rfl ⟨Nat.le_of_ble_eq_true rfl, Nat.le_of_ble_eq_true rfl⟩ (r_recv hK hw (v_st (by decide) (by decide)) (E_st (by decide)) rfl) rfl hl.1 rfl (Nat.le_of_ble_eq_true rfl) ⟨Nat.le_refl _, Nat.le_refl _⟩ dX5_addBlock_68 (fun H locs hw hS => ?_)
          rw [← e18] at hw
          refine lv_istore_n (lv' := [(1, .int r15), (0, .ref (ad 8 0))]) hx hb dX5_addBlock_71 rfl hl (by decide) rfl (fun ls hl => ?_)
          refine lv_aload_n hx hb dX5_addBlock_72 rfl (lv_at hl 1 rfl) ?_
          refine r_get hx hb hts hown hK hw (v_mn (by decide)) rfl E_mn inX5 rfl 1 (by decide) k_206 rfl rfl dX5_addBlock_73 ?_
          obtain ⟨r20, m21, y19, h⟩ := t_bd h
          obtain ⟨M22, e23, h⟩ := t_lt h
          refine c_vv hx hb hml hown hts hK hw hS (fun _ h => h) (As := []) (rest := []) (c_X4_settle hcv (g := 0) (hg := (by decide)) (M0 := M17) (m := M17 0) (hm := rfl) y19) cf_X4_settle k_250 rfl rfl ⟨Nat.le_of_ble_eq_true rfl, Nat.le_of_ble_eq_true rfl⟩ (r_recv hK hw (v_st (by decide) (by decide)) (E_st (by decide)) rfl) rfl hl.1 rfl (Nat.le_of_ble_eq_true rfl) ⟨Nat.le_refl _, Nat.le_refl _⟩ dX5_addBlock_76 (fun H locs hw hS => ?_)
          rw [← e23] at hw
          refine lv_iload_n hx hb dX5_addBlock_79 rfl (lv_at hl 0 rfl) ?_
          have e1 := (t_ret h).1
          have e2 := (t_ret h).2
          exact e_i hx hb hr hlk hw hS e1 e2 dX5_addBlock_80
        · replace h := t_neg h q10
          refine lv_bipush (v := -3) hx hb dX5_addBlock_46 (by decide) ?_
          have e1 := (t_ret h).1
          have e2 := (t_ret h).2
          exact e_i hx hb hr hlk hw hS e1 e2 dX5_addBlock_48
      · replace h := t_pos h q9
        refine lv_bipush (v := -2) hx hb dX5_addBlock_31 (by decide) ?_
        have e1 := (t_ret h).1
        have e2 := (t_ret h).2
        exact e_i hx hb hr hlk hw hS e1 e2 dX5_addBlock_33
    · replace h := t_pos h q6
      refine lv_bipush (v := -100) hx hb dX5_addBlock_10 (by decide) ?_
      refine lv_aload_n hx hb dX5_addBlock_12 rfl (lv_at hl 0 rfl) ?_
      refine r_get hx hb hts hown hK hw (v_mn (by decide)) rfl E_mn inX5 rfl 0 (by decide) k_205 rfl rfl dX5_addBlock_13 ?_
      refine r_get hx hb hts hown hK hw (v_tx (by decide)) rfl E_tx inX1 rfl 3 (by decide) k_28 rfl rfl dX5_addBlock_16 ?_
      refine lv_isub hx hb dX5_addBlock_19 ?_
      have e1 := (t_ret h).1
      have e2 := (t_ret h).2
      exact e_i hx hb hr hlk hw hS e1 e2 dX5_addBlock_20
  exact main _ _ hw hS ls hl

theorem cf_X5_ask : cfV RX5 yX5_ask cX5_ask 7 (some .int) 4 := ⟨⟨k_483, k_484, k_1, k_485⟩, by decide +kernel⟩
def f_X5_ask_L55 (p0 : Int32) (p1 : Int32) (p2 : Int32) (p3 : Int32) (M : MM) (s0 : Int32) : Option (Int32 × MM) :=
  (if s0 = (nI 0) then some ((-2 : Int32), M) else (if (M 0 0 3) < (nI 6) then bd (f_X2_record M) fun r4 M5 => bd (f_X4_appendQuestion (M5 0) p0 p1 p2 p3) fun r7 m8 => lt1 (gs M5 0 m8) fun M9 => bd (f_X4_settle (M9 0)) fun r12 m13 => lt1 (gs M9 0 m13) fun M14 => some (r7, M14) else some ((-3 : Int32), M)))
def f_X5_ask_L54 (p0 : Int32) (p1 : Int32) (p2 : Int32) (p3 : Int32) (M : MM) : Option (Int32 × MM) :=
  f_X5_ask_L55 p0 p1 p2 p3 M (nI 0)
def f_X5_ask_L33 (p0 : Int32) (p1 : Int32) (p2 : Int32) (p3 : Int32) (M : MM) (s2 : Int32) : Option (Int32 × MM) :=
  b1 (f_X5_isFromTo p2 (nI 0) s2) fun r2 => (if r2 = (nI 0) then f_X5_ask_L54 p0 p1 p2 p3 M else b1 (f_X5_isFromTo p3 (nI 0) (nI 99999)) fun r5 => (if r5 = (nI 0) then f_X5_ask_L54 p0 p1 p2 p3 M else f_X5_ask_L55 p0 p1 p2 p3 M (nI 1)))
def f_X5_ask (M : MM) (p0 : Int32) (p1 : Int32) (p2 : Int32) (p3 : Int32) : Option (Int32 × MM) :=
  b1 (f_X5_isFromTo p0 (nI 0) (nI 4)) fun r2 => (if r2 = (nI 0) then f_X5_ask_L54 p0 p1 p2 p3 M else b1 (f_X5_isFromTo p1 (nI 1) (nI 15)) fun r5 => (if r5 = (nI 0) then f_X5_ask_L54 p0 p1 p2 p3 M else (if p0 = (nI 1) then f_X5_ask_L33 p0 p1 p2 p3 M (nI 999) else f_X5_ask_L33 p0 p1 p2 p3 M (nI 0))))
set_option maxHeartbeats 4000000 in
set_option maxRecDepth 100000 in
theorem c_X5_ask {l : Launch} {D : va_G} {cy : Nat → ClassId} {ad : Nat → Nat → Nat} (hcv : CV ad) {M : MM} {p0 p1 p2 p3 : Int32} {r : Int32} {x : MM} (h : f_X5_ask M p0 p1 p2 p3 = some (r, x)) : Met l yX5_ask (.code yX5_ask cX5_ask 7 (some .int) :: TB) ({ frames := 4, cells := 0, slots := 0, locals := 124 } : Room) (PW D cy ad M [.ref (ad 8 0), .int p0, .int p1, .int p2, .int p3]) (QI D cy ad r x) 0 0 (AD ad) := by
  refine m_in (by decide +kernel) (Nat.le_of_ble_eq_true rfl) ?_
  intro p e s md args below meth c hC hw hS ls hl
  obtain ⟨hx, hb, hr, hml, hown, hts, hK, hlk⟩ := hC
  have hl : lv_has ls 7 [(0, .ref (ad 8 0)), (1, .int p0), (2, .int p1), (3, .int p2), (4, .int p3)] := hl
  have L55 : ∀ (M : MM) (s0 : Int32), f_X5_ask_L55 p0 p1 p2 p3 M s0 = some (r, x) → JL p l e ({ frames := 4, cells := 0, slots := 0, locals := 124 } : Room) s md args below meth c D cy ad (MQ below (QI D cy ad r x) args s 0 0 (AD ad)) (M) 7 [(0, .ref (ad 8 0)), (1, .int p0), (2, .int p1), (3, .int p2), (4, .int p3)] 55 [.int s0] := by
    intro M s0 h H locs hw hS ls hl
    unfold f_X5_ask_L55 at h
    refine lv_istore (lv' := [(5, .int s0), (0, .ref (ad 8 0)), (1, .int p0), (2, .int p1), (3, .int p2), (4, .int p3)]) hx hb dX5_ask_55 hl (by decide) rfl (fun ls hl => ?_)
    refine lv_iload hx hb dX5_ask_57 (lv_at hl 0 rfl) ?_
    refine lv_if_ne (tgt := 65) hx hb dX5_ask_59 (by decide) (fun q1 => ?_) (fun q1 => ?_)
    · replace h := t_neg h q1
      refine lv_aload_n hx hb dX5_ask_65 rfl (lv_at hl 1 rfl) ?_
      refine r_get hx hb hts hown hK hw (v_mn (by decide)) rfl E_mn inX5 rfl 1 (by decide) k_206 rfl rfl dX5_ask_66 ?_
      refine r_get hx hb hts hown hK hw (v_st (by decide) (by decide)) rfl (E_st (by decide)) inX4 rfl 3 (by decide) k_167 rfl rfl dX5_ask_69 ?_
      refine lv_bipush (v := nI 6) hx hb dX5_ask_72 (by decide) ?_
      refine lv_icmp_lt (tgt := 80) hx hb dX5_ask_74 (by decide) (fun q2 => ?_) (fun q2 => ?_)
      · replace h := t_pos h q2
        refine lv_aload_n hx hb dX5_ask_80 rfl (lv_at hl 1 rfl) ?_
        refine r_get hx hb hts hown hK hw (v_mn (by decide)) rfl E_mn inX5 rfl 4 (by decide) k_209 rfl rfl dX5_ask_81 ?_
        refine lv_aload_n hx hb dX5_ask_84 rfl (lv_at hl 1 rfl) ?_
        refine r_get hx hb hts hown hK hw (v_mn (by decide)) rfl E_mn inX5 rfl 1 (by decide) k_206 rfl rfl dX5_ask_85 ?_
        obtain ⟨r4, M5, y3, h⟩ := t_bd h
        refine c_vv hx hb hml hown hts hK hw hS (fun _ h => h) (As := [.ref (ad 0 0)]) (rest := []) (c_X2_record hcv (M := M) y3) cf_X2_record k_231 rfl rfl ⟨Nat.le_of_ble_eq_true rfl, Nat.le_of_ble_eq_true rfl⟩ (r_recv hK hw (v_mn (by decide)) E_hi rfl) rfl hl.1 rfl (Nat.le_of_ble_eq_true rfl) ⟨Nat.le_refl _, Nat.le_refl _⟩ dX5_ask_88 (fun H locs hw hS => ?_)
        refine lv_aload_n hx hb dX5_ask_91 rfl (lv_at hl 1 rfl) ?_
        refine r_get hx hb hts hown hK hw (v_mn (by decide)) rfl E_mn inX5 rfl 1 (by decide) k_206 rfl rfl dX5_ask_92 ?_
        refine lv_iload_n hx hb dX5_ask_95 rfl (lv_at hl 2 rfl) ?_
        refine lv_iload_n hx hb dX5_ask_96 rfl (lv_at hl 3 rfl) ?_
        refine lv_iload_n hx hb dX5_ask_97 rfl (lv_at hl 4 rfl) ?_
        refine lv_iload hx hb dX5_ask_98 (lv_at hl 5 rfl) ?_
        obtain ⟨r7, m8, y6, h⟩ := t_bd h
        obtain ⟨M9, e10, h⟩ := t_lt h
        refine c_vi hx hb hml hown hts hK hw hS (fun _ h => h) (As := [.int p0, .int p1, .int p2, .int p3]) (rest := []) (c_X4_appendQuestion hcv (g := 0) (hg := (by decide)) (M0 := M5) (m := M5 0) (hm := rfl) y6) cf_X4_appendQuestion k_487 rfl rfl ⟨Nat.le_of_ble_eq_true rfl, Nat.le_of_ble_eq_true rfl⟩ (r_recv hK hw (v_st (by decide) (by decide)) (E_st (by decide)) rfl) rfl hl.1 rfl (Nat.le_of_ble_eq_true rfl) ⟨Nat.le_refl _, Nat.le_refl _⟩ dX5_ask_100 (fun H locs hw hS => ?_)
        rw [← e10] at hw
        refine lv_istore (lv' := [(6, .int r7), (5, .int s0), (0, .ref (ad 8 0)), (1, .int p0), (2, .int p1), (3, .int p2), (4, .int p3)]) hx hb dX5_ask_103 hl (by decide) rfl (fun ls hl => ?_)
        refine lv_aload_n hx hb dX5_ask_105 rfl (lv_at hl 2 rfl) ?_
        refine r_get hx hb hts hown hK hw (v_mn (by decide)) rfl E_mn inX5 rfl 1 (by decide) k_206 rfl rfl dX5_ask_106 ?_
        obtain ⟨r12, m13, y11, h⟩ := t_bd h
        obtain ⟨M14, e15, h⟩ := t_lt h
        refine c_vv hx hb hml hown hts hK hw hS (fun _ h => h) (As := []) (rest := []) (c_X4_settle hcv (g := 0) (hg := (by decide)) (M0 := M9) (m := M9 0) (hm := rfl) y11) cf_X4_settle k_250 rfl rfl ⟨Nat.le_of_ble_eq_true rfl, Nat.le_of_ble_eq_true rfl⟩ (r_recv hK hw (v_st (by decide) (by decide)) (E_st (by decide)) rfl) rfl hl.1 rfl (Nat.le_of_ble_eq_true rfl) ⟨Nat.le_refl _, Nat.le_refl _⟩ dX5_ask_109 (fun H locs hw hS => ?_)
        rw [← e15] at hw
        refine lv_iload hx hb dX5_ask_112 (lv_at hl 0 rfl) ?_
        have e1 := (t_ret h).1
        have e2 := (t_ret h).2
        exact e_i hx hb hr hlk hw hS e1 e2 dX5_ask_114
      · replace h := t_neg h q2
        refine lv_bipush (v := -3) hx hb dX5_ask_77 (by decide) ?_
        have e1 := (t_ret h).1
        have e2 := (t_ret h).2
        exact e_i hx hb hr hlk hw hS e1 e2 dX5_ask_79
    · replace h := t_pos h q1
      refine lv_bipush (v := -2) hx hb dX5_ask_62 (by decide) ?_
      have e1 := (t_ret h).1
      have e2 := (t_ret h).2
      exact e_i hx hb hr hlk hw hS e1 e2 dX5_ask_64
  have L54 : ∀ (M : MM), f_X5_ask_L54 p0 p1 p2 p3 M = some (r, x) → JL p l e ({ frames := 4, cells := 0, slots := 0, locals := 124 } : Room) s md args below meth c D cy ad (MQ below (QI D cy ad r x) args s 0 0 (AD ad)) (M) 7 [(0, .ref (ad 8 0)), (1, .int p0), (2, .int p1), (3, .int p2), (4, .int p3)] 54 [] := by
    intro M h H locs hw hS ls hl
    unfold f_X5_ask_L54 at h
    refine lv_iconst (v := nI 0) hx hb dX5_ask_54 (by decide) ?_
    exact L55 M (nI 0) h H locs hw hS ls (lv_sub hl [0, 1, 2, 3, 4] rfl)
  have L33 : ∀ (M : MM) (s2 : Int32), f_X5_ask_L33 p0 p1 p2 p3 M s2 = some (r, x) → JL p l e ({ frames := 4, cells := 0, slots := 0, locals := 124 } : Room) s md args below meth c D cy ad (MQ below (QI D cy ad r x) args s 0 0 (AD ad)) (M) 7 [(0, .ref (ad 8 0)), (1, .int p0), (2, .int p1), (3, .int p2), (4, .int p3)] 33 [.int s2, .int (nI 0), .int p2] := by
    intro M s2 h H locs hw hS ls hl
    unfold f_X5_ask_L33 at h
    obtain ⟨r2, y1, h⟩ := t_b1 h
    refine c_si hx hb hml hown hts hK hw hS (fun _ h => h) (As := [.int p2, .int (nI 0), .int s2]) (rest := []) (c_X5_isFromTo hcv (M0 := M) y1) cf_X5_isFromTo k_228 rfl rfl ⟨Nat.le_of_ble_eq_true rfl, Nat.le_of_ble_eq_true rfl⟩ rfl hl.1 rfl (Nat.le_of_ble_eq_true rfl) ⟨Nat.le_refl _, Nat.le_refl _⟩ dX5_ask_33 (fun H locs hw hS => ?_)
    refine lv_if_eq (tgt := 54) hx hb dX5_ask_36 (by decide) (fun q3 => ?_) (fun q3 => ?_)
    · replace h := t_pos h q3
      exact L54 M h H locs hw hS ls (lv_sub hl [0, 1, 2, 3, 4] rfl)
    · replace h := t_neg h q3
      refine lv_iload hx hb dX5_ask_39 (lv_at hl 4 rfl) ?_
      refine lv_iconst (v := nI 0) hx hb dX5_ask_41 (by decide) ?_
      refine lv_ldc (v := nI 99999) hx hb hown (hts _ k_486) dX5_ask_42 ?_
      obtain ⟨r5, y4, h⟩ := t_b1 h
      refine c_si hx hb hml hown hts hK hw hS (fun _ h => h) (As := [.int p3, .int (nI 0), .int (nI 99999)]) (rest := []) (c_X5_isFromTo hcv (M0 := M) y4) cf_X5_isFromTo k_228 rfl rfl ⟨Nat.le_of_ble_eq_true rfl, Nat.le_of_ble_eq_true rfl⟩ rfl hl.1 rfl (Nat.le_of_ble_eq_true rfl) ⟨Nat.le_refl _, Nat.le_refl _⟩ dX5_ask_44 (fun H locs hw hS => ?_)
      refine lv_if_eq (tgt := 54) hx hb dX5_ask_47 (by decide) (fun q6 => ?_) (fun q6 => ?_)
      · replace h := t_pos h q6
        exact L54 M h H locs hw hS ls (lv_sub hl [0, 1, 2, 3, 4] rfl)
      · replace h := t_neg h q6
        refine lv_iconst (v := nI 1) hx hb dX5_ask_50 (by decide) ?_
        refine lv_goto (tgt := 55) hx hb dX5_ask_51 (by decide) ?_
        exact L55 M (nI 1) h H locs hw hS ls (lv_sub hl [0, 1, 2, 3, 4] rfl)
  unfold f_X5_ask at h
  have main : JL p l e ({ frames := 4, cells := 0, slots := 0, locals := 124 } : Room) s md args below meth c D cy ad (MQ below (QI D cy ad r x) args s 0 0 (AD ad)) (M) 7 [(0, .ref (ad 8 0)), (1, .int p0), (2, .int p1), (3, .int p2), (4, .int p3)] 0 [] := by
    intro H locs hw hS ls hl
    refine lv_iload_n hx hb dX5_ask_0 rfl (lv_at hl 1 rfl) ?_
    refine lv_iconst (v := nI 0) hx hb dX5_ask_1 (by decide) ?_
    refine lv_iconst (v := nI 4) hx hb dX5_ask_2 (by decide) ?_
    obtain ⟨r2, y1, h⟩ := t_b1 h
    refine c_si hx hb hml hown hts hK hw hS (fun _ h => h) (As := [.int p0, .int (nI 0), .int (nI 4)]) (rest := []) (c_X5_isFromTo hcv (M0 := M) y1) cf_X5_isFromTo k_228 rfl rfl ⟨Nat.le_of_ble_eq_true rfl, Nat.le_of_ble_eq_true rfl⟩ rfl hl.1 rfl (Nat.le_of_ble_eq_true rfl) ⟨Nat.le_refl _, Nat.le_refl _⟩ dX5_ask_3 (fun H locs hw hS => ?_)
    refine lv_if_eq (tgt := 54) hx hb dX5_ask_6 (by decide) (fun q3 => ?_) (fun q3 => ?_)
    · replace h := t_pos h q3
      exact L54 M h H locs hw hS ls (lv_sub hl [0, 1, 2, 3, 4] rfl)
    · replace h := t_neg h q3
      refine lv_iload_n hx hb dX5_ask_9 rfl (lv_at hl 2 rfl) ?_
      refine lv_iconst (v := nI 1) hx hb dX5_ask_10 (by decide) ?_
      refine lv_bipush (v := nI 15) hx hb dX5_ask_11 (by decide) ?_
      obtain ⟨r5, y4, h⟩ := t_b1 h
      refine c_si hx hb hml hown hts hK hw hS (fun _ h => h) (As := [.int p1, .int (nI 1), .int (nI 15)]) (rest := []) (c_X5_isFromTo hcv (M0 := M) y4) cf_X5_isFromTo k_228 rfl rfl ⟨Nat.le_of_ble_eq_true rfl, Nat.le_of_ble_eq_true rfl⟩ rfl hl.1 rfl (Nat.le_of_ble_eq_true rfl) ⟨Nat.le_refl _, Nat.le_refl _⟩ dX5_ask_13 (fun H locs hw hS => ?_)
      refine lv_if_eq (tgt := 54) hx hb dX5_ask_16 (by decide) (fun q6 => ?_) (fun q6 => ?_)
      · replace h := t_pos h q6
        exact L54 M h H locs hw hS ls (lv_sub hl [0, 1, 2, 3, 4] rfl)
      · replace h := t_neg h q6
        refine lv_iload_n hx hb dX5_ask_19 rfl (lv_at hl 3 rfl) ?_
        refine lv_iconst (v := nI 0) hx hb dX5_ask_20 (by decide) ?_
        refine lv_iload_n hx hb dX5_ask_21 rfl (lv_at hl 1 rfl) ?_
        refine lv_iconst (v := nI 1) hx hb dX5_ask_22 (by decide) ?_
        refine lv_icmp_ne (tgt := 32) hx hb dX5_ask_23 (by decide) (fun q7 => ?_) (fun q7 => ?_)
        · replace h := t_neg h q7
          refine lv_iconst (v := nI 0) hx hb dX5_ask_32 (by decide) ?_
          exact L33 M (nI 0) h H locs hw hS ls (lv_sub hl [0, 1, 2, 3, 4] rfl)
        · replace h := t_pos h q7
          refine lv_sipush (v := nI 999) hx hb dX5_ask_26 (by decide) ?_
          refine lv_goto (tgt := 33) hx hb dX5_ask_29 (by decide) ?_
          exact L33 M (nI 999) h H locs hw hS ls (lv_sub hl [0, 1, 2, 3, 4] rfl)
  exact main _ _ hw hS ls hl

theorem cf_X5_setPlan : cfV RX5 yX5_setPlan cX5_setPlan 3 (some .int) 1 := ⟨⟨k_225, k_226, k_1, k_227⟩, by decide +kernel⟩
def f_X5_setPlan (M : MM) (p0 : Int32) : Option (Int32 × MM) :=
  b1 (f_X5_isFromTo p0 (nI 0) (nI 2)) fun r2 => (if r2 = (nI 0) then some ((-2 : Int32), M) else (if (M 0 0 4) = p0 then some ((-5 : Int32), M) else bd (f_X2_record M) fun r6 M7 => lt1 (gs M7 0 (up (M7 0) 0 4 p0)) fun M9 => bd (f_X4_settle (M9 0)) fun r11 m12 => lt1 (gs M9 0 m12) fun M13 => some ((M 0 0 4), M13)))
set_option maxHeartbeats 4000000 in
set_option maxRecDepth 100000 in
theorem c_X5_setPlan {l : Launch} {D : va_G} {cy : Nat → ClassId} {ad : Nat → Nat → Nat} (hcv : CV ad) {M : MM} {p0 : Int32} {r : Int32} {x : MM} (h : f_X5_setPlan M p0 = some (r, x)) : Met l yX5_setPlan (.code yX5_setPlan cX5_setPlan 3 (some .int) :: TB) ({ frames := 4, cells := 0, slots := 0, locals := 124 } : Room) (PW D cy ad M [.ref (ad 8 0), .int p0]) (QI D cy ad r x) 0 0 (AD ad) := by
  refine m_in (by decide +kernel) (Nat.le_of_ble_eq_true rfl) ?_
  intro p e s md args below meth c hC hw hS ls hl
  obtain ⟨hx, hb, hr, hml, hown, hts, hK, hlk⟩ := hC
  have hl : lv_has ls 3 [(0, .ref (ad 8 0)), (1, .int p0)] := hl
  unfold f_X5_setPlan at h
  have main : JL p l e ({ frames := 4, cells := 0, slots := 0, locals := 124 } : Room) s md args below meth c D cy ad (MQ below (QI D cy ad r x) args s 0 0 (AD ad)) (M) 3 [(0, .ref (ad 8 0)), (1, .int p0)] 0 [] := by
    intro H locs hw hS ls hl
    refine lv_iload_n hx hb dX5_setPlan_0 rfl (lv_at hl 1 rfl) ?_
    refine lv_iconst (v := nI 0) hx hb dX5_setPlan_1 (by decide) ?_
    refine lv_iconst (v := nI 2) hx hb dX5_setPlan_2 (by decide) ?_
    obtain ⟨r2, y1, h⟩ := t_b1 h
    refine c_si hx hb hml hown hts hK hw hS (fun _ h => h) (As := [.int p0, .int (nI 0), .int (nI 2)]) (rest := []) (c_X5_isFromTo hcv (M0 := M) y1) cf_X5_isFromTo k_228 rfl rfl ⟨Nat.le_of_ble_eq_true rfl, Nat.le_of_ble_eq_true rfl⟩ rfl hl.1 rfl (Nat.le_of_ble_eq_true rfl) ⟨Nat.le_refl _, Nat.le_refl _⟩ dX5_setPlan_3 (fun H locs hw hS => ?_)
    refine lv_if_ne (tgt := 12) hx hb dX5_setPlan_6 (by decide) (fun q3 => ?_) (fun q3 => ?_)
    · replace h := t_neg h q3
      refine lv_aload_n hx hb dX5_setPlan_12 rfl (lv_at hl 0 rfl) ?_
      refine r_get hx hb hts hown hK hw (v_mn (by decide)) rfl E_mn inX5 rfl 1 (by decide) k_206 rfl rfl dX5_setPlan_13 ?_
      refine r_get hx hb hts hown hK hw (v_st (by decide) (by decide)) rfl (E_st (by decide)) inX4 rfl 4 (by decide) k_169 rfl rfl dX5_setPlan_16 ?_
      refine lv_istore_n (lv' := [(2, .int (M 0 0 4)), (0, .ref (ad 8 0)), (1, .int p0)]) hx hb dX5_setPlan_19 rfl hl (by decide) rfl (fun ls hl => ?_)
      refine lv_iload_n hx hb dX5_setPlan_20 rfl (lv_at hl 0 rfl) ?_
      refine lv_iload_n hx hb dX5_setPlan_21 rfl (lv_at hl 2 rfl) ?_
      refine lv_icmp_ne (tgt := 28) hx hb dX5_setPlan_22 (by decide) (fun q4 => ?_) (fun q4 => ?_)
      · replace h := t_neg h q4
        refine lv_aload_n hx hb dX5_setPlan_28 rfl (lv_at hl 1 rfl) ?_
        refine r_get hx hb hts hown hK hw (v_mn (by decide)) rfl E_mn inX5 rfl 4 (by decide) k_209 rfl rfl dX5_setPlan_29 ?_
        refine lv_aload_n hx hb dX5_setPlan_32 rfl (lv_at hl 1 rfl) ?_
        refine r_get hx hb hts hown hK hw (v_mn (by decide)) rfl E_mn inX5 rfl 1 (by decide) k_206 rfl rfl dX5_setPlan_33 ?_
        obtain ⟨r6, M7, y5, h⟩ := t_bd h
        refine c_vv hx hb hml hown hts hK hw hS (fun _ h => h) (As := [.ref (ad 0 0)]) (rest := []) (c_X2_record hcv (M := M) y5) cf_X2_record k_231 rfl rfl ⟨Nat.le_of_ble_eq_true rfl, Nat.le_of_ble_eq_true rfl⟩ (r_recv hK hw (v_mn (by decide)) E_hi rfl) rfl hl.1 rfl (Nat.le_of_ble_eq_true rfl) ⟨Nat.le_refl _, Nat.le_refl _⟩ dX5_setPlan_36 (fun H locs hw hS => ?_)
        refine lv_aload_n hx hb dX5_setPlan_39 rfl (lv_at hl 1 rfl) ?_
        refine r_get hx hb hts hown hK hw (v_mn (by decide)) rfl E_mn inX5 rfl 1 (by decide) k_206 rfl rfl dX5_setPlan_40 ?_
        refine lv_iload_n hx hb dX5_setPlan_43 rfl (lv_at hl 2 rfl) ?_
        obtain ⟨M9, e8, h⟩ := t_lt h
        refine r_put hx hb hts hown hK hcv hw hS (v_st (by decide) (by decide)) rfl (E_st (by decide)) inX4 rfl tyX4 tyX4_ok nmX4 4 (by decide) k_169 rfl rfl rfl rfl (Nat.le_of_ble_eq_true rfl) (E_st (by decide)) e8.symm dX5_setPlan_44 (fun H locs hw hS => ?_)
        refine lv_aload_n hx hb dX5_setPlan_47 rfl (lv_at hl 1 rfl) ?_
        refine r_get hx hb hts hown hK hw (v_mn (by decide)) rfl E_mn inX5 rfl 1 (by decide) k_206 rfl rfl dX5_setPlan_48 ?_
        obtain ⟨r11, m12, y10, h⟩ := t_bd h
        obtain ⟨M13, e14, h⟩ := t_lt h
        refine c_vv hx hb hml hown hts hK hw hS (fun _ h => h) (As := []) (rest := []) (c_X4_settle hcv (g := 0) (hg := (by decide)) (M0 := M9) (m := M9 0) (hm := rfl) y10) cf_X4_settle k_250 rfl rfl ⟨Nat.le_of_ble_eq_true rfl, Nat.le_of_ble_eq_true rfl⟩ (r_recv hK hw (v_st (by decide) (by decide)) (E_st (by decide)) rfl) rfl hl.1 rfl (Nat.le_of_ble_eq_true rfl) ⟨Nat.le_refl _, Nat.le_refl _⟩ dX5_setPlan_51 (fun H locs hw hS => ?_)
        rw [← e14] at hw
        refine lv_iload_n hx hb dX5_setPlan_54 rfl (lv_at hl 0 rfl) ?_
        have e1 := (t_ret h).1
        have e2 := (t_ret h).2
        exact e_i hx hb hr hlk hw hS e1 e2 dX5_setPlan_55
      · replace h := t_pos h q4
        refine lv_bipush (v := -5) hx hb dX5_setPlan_25 (by decide) ?_
        have e1 := (t_ret h).1
        have e2 := (t_ret h).2
        exact e_i hx hb hr hlk hw hS e1 e2 dX5_setPlan_27
    · replace h := t_pos h q3
      refine lv_bipush (v := -2) hx hb dX5_setPlan_9 (by decide) ?_
      have e1 := (t_ret h).1
      have e2 := (t_ret h).2
      exact e_i hx hb hr hlk hw hS e1 e2 dX5_setPlan_11
  exact main _ _ hw hS ls hl

theorem cf_X5_read : cfV RX5 yX5_read cX5_read 4 (some .int) 1 := ⟨⟨k_294, k_295, k_1, k_296⟩, by decide +kernel⟩
def f_X5_read_L44 (p0 : Int32) : Nat → MM → Int32 → Int32 → Option (Int32 × MM)
  | 0, _, _, _ => none
  | n + 1, M, x2, x3 => (if p0 ≤ x3 then some (x2, M) else bd (f_X4_readByPlan (M 0)) fun r3 m4 => lt1 (gs M 0 m4) fun M5 => (if r3 = (nI 0) then some (x2, M5) else f_X5_read_L44 p0 n M5 (x2 + (nI 1)) (x3 + (nI 1))))
def f_X5_read (M : MM) (p0 : Int32) : Option (Int32 × MM) :=
  b1 (f_X5_isFromTo p0 (nI 1) (nI 128)) fun r2 => (if r2 = (nI 0) then some ((-2 : Int32), M) else b1 (f_X4_nextBlock (M 0)) fun r5 => (if r5 = (-5 : Int32) then some ((-5 : Int32), M) else bd (f_X2_record M) fun r8 M9 => f_X5_read_L44 p0 FU M9 (nI 0) (nI 0)))
set_option maxHeartbeats 4000000 in
set_option maxRecDepth 100000 in
theorem c_X5_read {l : Launch} {D : va_G} {cy : Nat → ClassId} {ad : Nat → Nat → Nat} (hcv : CV ad) {M : MM} {p0 : Int32} {r : Int32} {x : MM} (h : f_X5_read M p0 = some (r, x)) : Met l yX5_read (.code yX5_read cX5_read 4 (some .int) :: TB) ({ frames := 5, cells := 0, slots := 0, locals := 124 } : Room) (PW D cy ad M [.ref (ad 8 0), .int p0]) (QI D cy ad r x) 0 0 (AD ad) := by
  refine m_in (by decide +kernel) (Nat.le_of_ble_eq_true rfl) ?_
  intro p e s md args below meth c hC hw hS ls hl
  obtain ⟨hx, hb, hr, hml, hown, hts, hK, hlk⟩ := hC
  have hl : lv_has ls 4 [(0, .ref (ad 8 0)), (1, .int p0)] := hl
  have L44 : ∀ (n : Nat), ∀ (M : MM) (x2 : Int32) (x3 : Int32), f_X5_read_L44 p0 n M x2 x3 = some (r, x) → JL p l e ({ frames := 5, cells := 0, slots := 0, locals := 124 } : Room) s md args below meth c D cy ad (MQ below (QI D cy ad r x) args s 0 0 (AD ad)) (M) 4 [(0, .ref (ad 8 0)), (1, .int p0), (2, .int x2), (3, .int x3)] 44 [] := by
    intro n
    induction n with
    | zero =>
      intro M x2 x3 h
      cases h
    | succ n ih =>
      intro M x2 x3 h H locs hw hS ls hl
      rw [f_X5_read_L44.eq_2] at h
      refine lv_iload_n hx hb dX5_read_44 rfl (lv_at hl 3 rfl) ?_
      refine lv_iload_n hx hb dX5_read_45 rfl (lv_at hl 1 rfl) ?_
      refine lv_icmp_ge (tgt := 68) hx hb dX5_read_46 (by decide) (fun q1 => ?_) (fun q1 => ?_)
      · replace h := t_pos h q1
        refine lv_iload_n hx hb dX5_read_68 rfl (lv_at hl 2 rfl) ?_
        have e1 := (t_ret h).1
        have e2 := (t_ret h).2
        exact e_i hx hb hr hlk hw hS e1 e2 dX5_read_69
      · replace h := t_neg h q1
        refine lv_aload_n hx hb dX5_read_49 rfl (lv_at hl 0 rfl) ?_
        refine r_get hx hb hts hown hK hw (v_mn (by decide)) rfl E_mn inX5 rfl 1 (by decide) k_206 rfl rfl dX5_read_50 ?_
        obtain ⟨r3, m4, y2, h⟩ := t_bd h
        obtain ⟨M5, e6, h⟩ := t_lt h
        refine c_vi hx hb hml hown hts hK hw hS (fun _ h => h) (As := []) (rest := []) (c_X4_readByPlan hcv (g := 0) (hg := (by decide)) (M0 := M) (m := M 0) (hm := rfl) y2) cf_X4_readByPlan k_318 rfl rfl ⟨Nat.le_of_ble_eq_true rfl, Nat.le_of_ble_eq_true rfl⟩ (r_recv hK hw (v_st (by decide) (by decide)) (E_st (by decide)) rfl) rfl hl.1 rfl (Nat.le_of_ble_eq_true rfl) ⟨Nat.le_refl _, Nat.le_refl _⟩ dX5_read_53 (fun H locs hw hS => ?_)
        rw [← e6] at hw
        refine lv_if_eq (tgt := 68) hx hb dX5_read_56 (by decide) (fun q7 => ?_) (fun q7 => ?_)
        · replace h := t_pos h q7
          refine lv_iload_n hx hb dX5_read_68 rfl (lv_at hl 2 rfl) ?_
          have e1 := (t_ret h).1
          have e2 := (t_ret h).2
          exact e_i hx hb hr hlk hw hS e1 e2 dX5_read_69
        · replace h := t_neg h q7
          refine lv_iinc (v := (x2 + (nI 1))) (lv' := [(2, .int (x2 + (nI 1))), (0, .ref (ad 8 0)), (1, .int p0), (3, .int x3)]) hx hb dX5_read_59 hl (k := 2) rfl rfl (by decide) rfl (fun ls hl => ?_)
          refine lv_iinc (v := (x3 + (nI 1))) (lv' := [(3, .int (x3 + (nI 1))), (2, .int (x2 + (nI 1))), (0, .ref (ad 8 0)), (1, .int p0)]) hx hb dX5_read_62 hl (k := 3) rfl rfl (by decide) rfl (fun ls hl => ?_)
          refine lv_goto (tgt := 44) hx hb dX5_read_65 (by decide) ?_
          exact ih M5 (x2 + (nI 1)) (x3 + (nI 1)) h H locs hw hS ls (lv_sub hl [2, 3, 1, 0] rfl)
  unfold f_X5_read at h
  have main : JL p l e ({ frames := 5, cells := 0, slots := 0, locals := 124 } : Room) s md args below meth c D cy ad (MQ below (QI D cy ad r x) args s 0 0 (AD ad)) (M) 4 [(0, .ref (ad 8 0)), (1, .int p0)] 0 [] := by
    intro H locs hw hS ls hl
    refine lv_iload_n hx hb dX5_read_0 rfl (lv_at hl 1 rfl) ?_
    refine lv_iconst (v := nI 1) hx hb dX5_read_1 (by decide) ?_
    refine lv_sipush (v := nI 128) hx hb dX5_read_2 (by decide) ?_
    obtain ⟨r2, y1, h⟩ := t_b1 h
    refine c_si hx hb hml hown hts hK hw hS (fun _ h => h) (As := [.int p0, .int (nI 1), .int (nI 128)]) (rest := []) (c_X5_isFromTo hcv (M0 := M) y1) cf_X5_isFromTo k_228 rfl rfl ⟨Nat.le_of_ble_eq_true rfl, Nat.le_of_ble_eq_true rfl⟩ rfl hl.1 rfl (Nat.le_of_ble_eq_true rfl) ⟨Nat.le_refl _, Nat.le_refl _⟩ dX5_read_5 (fun H locs hw hS => ?_)
    refine lv_if_ne (tgt := 14) hx hb dX5_read_8 (by decide) (fun q3 => ?_) (fun q3 => ?_)
    · replace h := t_neg h q3
      refine lv_aload_n hx hb dX5_read_14 rfl (lv_at hl 0 rfl) ?_
      refine r_get hx hb hts hown hK hw (v_mn (by decide)) rfl E_mn inX5 rfl 1 (by decide) k_206 rfl rfl dX5_read_15 ?_
      obtain ⟨r5, y4, h⟩ := t_b1 h
      refine c_vi hx hb hml hown hts hK hw hS (fun _ h => h) (As := []) (rest := []) (c_X4_nextBlock hcv (g := 0) (hg := (by decide)) (M0 := M) (m := M 0) (hm := rfl) y4) cf_X4_nextBlock k_297 rfl rfl ⟨Nat.le_of_ble_eq_true rfl, Nat.le_of_ble_eq_true rfl⟩ (r_recv hK hw (v_st (by decide) (by decide)) (E_st (by decide)) rfl) rfl hl.1 rfl (Nat.le_of_ble_eq_true rfl) ⟨Nat.le_refl _, Nat.le_refl _⟩ dX5_read_18 (fun H locs hw hS => ?_)
      refine lv_bipush (v := -5) hx hb dX5_read_21 (by decide) ?_
      refine lv_icmp_ne (tgt := 29) hx hb dX5_read_23 (by decide) (fun q6 => ?_) (fun q6 => ?_)
      · replace h := t_neg h q6
        refine lv_aload_n hx hb dX5_read_29 rfl (lv_at hl 0 rfl) ?_
        refine r_get hx hb hts hown hK hw (v_mn (by decide)) rfl E_mn inX5 rfl 4 (by decide) k_209 rfl rfl dX5_read_30 ?_
        refine lv_aload_n hx hb dX5_read_33 rfl (lv_at hl 0 rfl) ?_
        refine r_get hx hb hts hown hK hw (v_mn (by decide)) rfl E_mn inX5 rfl 1 (by decide) k_206 rfl rfl dX5_read_34 ?_
        obtain ⟨r8, M9, y7, h⟩ := t_bd h
        refine c_vv hx hb hml hown hts hK hw hS (fun _ h => h) (As := [.ref (ad 0 0)]) (rest := []) (c_X2_record hcv (M := M) y7) cf_X2_record k_231 rfl rfl ⟨Nat.le_of_ble_eq_true rfl, Nat.le_of_ble_eq_true rfl⟩ (r_recv hK hw (v_mn (by decide)) E_hi rfl) rfl hl.1 rfl (Nat.le_of_ble_eq_true rfl) ⟨Nat.le_refl _, Nat.le_refl _⟩ dX5_read_37 (fun H locs hw hS => ?_)
        refine lv_iconst (v := nI 0) hx hb dX5_read_40 (by decide) ?_
        refine lv_istore_n (lv' := [(2, .int (nI 0)), (0, .ref (ad 8 0)), (1, .int p0)]) hx hb dX5_read_41 rfl hl (by decide) rfl (fun ls hl => ?_)
        refine lv_iconst (v := nI 0) hx hb dX5_read_42 (by decide) ?_
        refine lv_istore_n (lv' := [(3, .int (nI 0)), (2, .int (nI 0)), (0, .ref (ad 8 0)), (1, .int p0)]) hx hb dX5_read_43 rfl hl (by decide) rfl (fun ls hl => ?_)
        exact L44 FU M9 (nI 0) (nI 0) h H locs hw hS ls (lv_sub hl [2, 3, 1, 0] rfl)
      · replace h := t_pos h q6
        refine lv_bipush (v := -5) hx hb dX5_read_26 (by decide) ?_
        have e1 := (t_ret h).1
        have e2 := (t_ret h).2
        exact e_i hx hb hr hlk hw hS e1 e2 dX5_read_28
    · replace h := t_pos h q3
      refine lv_bipush (v := -2) hx hb dX5_read_11 (by decide) ?_
      have e1 := (t_ret h).1
      have e2 := (t_ret h).2
      exact e_i hx hb hr hlk hw hS e1 e2 dX5_read_13
  exact main _ _ hw hS ls hl

theorem cf_X5_readOn : cfV RX5 yX5_readOn cX5_readOn 1 (some .int) 0 := ⟨⟨k_334, k_335, k_1, k_336⟩, by decide +kernel⟩
def f_X5_readOn (M : MM) : Option (Int32 × MM) :=
  b1 (f_X4_openQuestions (M 0)) fun r2 => (if r2 = (nI 0) then some ((-4 : Int32), M) else b1 (f_X4_nextBlock (M 0)) fun r5 => (if r5 = (-5 : Int32) then some ((-5 : Int32), M) else bd (f_X2_record M) fun r8 M9 => bd (f_X4_readWhileOpen (M9 0)) fun r11 m12 => lt1 (gs M9 0 m12) fun M13 => some (r11, M13)))
set_option maxHeartbeats 4000000 in
set_option maxRecDepth 100000 in
theorem c_X5_readOn {l : Launch} {D : va_G} {cy : Nat → ClassId} {ad : Nat → Nat → Nat} (hcv : CV ad) {M : MM} {r : Int32} {x : MM} (h : f_X5_readOn M = some (r, x)) : Met l yX5_readOn (.code yX5_readOn cX5_readOn 1 (some .int) :: TB) ({ frames := 6, cells := 0, slots := 0, locals := 141 } : Room) (PW D cy ad M [.ref (ad 8 0)]) (QI D cy ad r x) 0 0 (AD ad) := by
  refine m_in (by decide +kernel) (Nat.le_of_ble_eq_true rfl) ?_
  intro p e s md args below meth c hC hw hS ls hl
  obtain ⟨hx, hb, hr, hml, hown, hts, hK, hlk⟩ := hC
  have hl : lv_has ls 1 [(0, .ref (ad 8 0))] := hl
  unfold f_X5_readOn at h
  have main : JL p l e ({ frames := 6, cells := 0, slots := 0, locals := 141 } : Room) s md args below meth c D cy ad (MQ below (QI D cy ad r x) args s 0 0 (AD ad)) (M) 1 [(0, .ref (ad 8 0))] 0 [] := by
    intro H locs hw hS ls hl
    refine lv_aload_n hx hb dX5_readOn_0 rfl (lv_at hl 0 rfl) ?_
    refine r_get hx hb hts hown hK hw (v_mn (by decide)) rfl E_mn inX5 rfl 1 (by decide) k_206 rfl rfl dX5_readOn_1 ?_
    obtain ⟨r2, y1, h⟩ := t_b1 h
    refine c_vi hx hb hml hown hts hK hw hS (fun _ h => h) (As := []) (rest := []) (c_X4_openQuestions hcv (g := 0) (hg := (by decide)) (M0 := M) (m := M 0) (hm := rfl) y1) cf_X4_openQuestions k_337 rfl rfl ⟨Nat.le_of_ble_eq_true rfl, Nat.le_of_ble_eq_true rfl⟩ (r_recv hK hw (v_st (by decide) (by decide)) (E_st (by decide)) rfl) rfl hl.1 rfl (Nat.le_of_ble_eq_true rfl) ⟨Nat.le_refl _, Nat.le_refl _⟩ dX5_readOn_4 (fun H locs hw hS => ?_)
    refine lv_if_ne (tgt := 13) hx hb dX5_readOn_7 (by decide) (fun q3 => ?_) (fun q3 => ?_)
    · replace h := t_neg h q3
      refine lv_aload_n hx hb dX5_readOn_13 rfl (lv_at hl 0 rfl) ?_
      refine r_get hx hb hts hown hK hw (v_mn (by decide)) rfl E_mn inX5 rfl 1 (by decide) k_206 rfl rfl dX5_readOn_14 ?_
      obtain ⟨r5, y4, h⟩ := t_b1 h
      refine c_vi hx hb hml hown hts hK hw hS (fun _ h => h) (As := []) (rest := []) (c_X4_nextBlock hcv (g := 0) (hg := (by decide)) (M0 := M) (m := M 0) (hm := rfl) y4) cf_X4_nextBlock k_297 rfl rfl ⟨Nat.le_of_ble_eq_true rfl, Nat.le_of_ble_eq_true rfl⟩ (r_recv hK hw (v_st (by decide) (by decide)) (E_st (by decide)) rfl) rfl hl.1 rfl (Nat.le_of_ble_eq_true rfl) ⟨Nat.le_refl _, Nat.le_refl _⟩ dX5_readOn_17 (fun H locs hw hS => ?_)
      refine lv_bipush (v := -5) hx hb dX5_readOn_20 (by decide) ?_
      refine lv_icmp_ne (tgt := 28) hx hb dX5_readOn_22 (by decide) (fun q6 => ?_) (fun q6 => ?_)
      · replace h := t_neg h q6
        refine lv_aload_n hx hb dX5_readOn_28 rfl (lv_at hl 0 rfl) ?_
        refine r_get hx hb hts hown hK hw (v_mn (by decide)) rfl E_mn inX5 rfl 4 (by decide) k_209 rfl rfl dX5_readOn_29 ?_
        refine lv_aload_n hx hb dX5_readOn_32 rfl (lv_at hl 0 rfl) ?_
        refine r_get hx hb hts hown hK hw (v_mn (by decide)) rfl E_mn inX5 rfl 1 (by decide) k_206 rfl rfl dX5_readOn_33 ?_
        obtain ⟨r8, M9, y7, h⟩ := t_bd h
        refine c_vv hx hb hml hown hts hK hw hS (fun _ h => h) (As := [.ref (ad 0 0)]) (rest := []) (c_X2_record hcv (M := M) y7) cf_X2_record k_231 rfl rfl ⟨Nat.le_of_ble_eq_true rfl, Nat.le_of_ble_eq_true rfl⟩ (r_recv hK hw (v_mn (by decide)) E_hi rfl) rfl hl.1 rfl (Nat.le_of_ble_eq_true rfl) ⟨Nat.le_refl _, Nat.le_refl _⟩ dX5_readOn_36 (fun H locs hw hS => ?_)
        refine lv_aload_n hx hb dX5_readOn_39 rfl (lv_at hl 0 rfl) ?_
        refine r_get hx hb hts hown hK hw (v_mn (by decide)) rfl E_mn inX5 rfl 1 (by decide) k_206 rfl rfl dX5_readOn_40 ?_
        obtain ⟨r11, m12, y10, h⟩ := t_bd h
        obtain ⟨M13, e14, h⟩ := t_lt h
        refine c_vi hx hb hml hown hts hK hw hS (fun _ h => h) (As := []) (rest := []) (c_X4_readWhileOpen hcv (g := 0) (hg := (by decide)) (M0 := M9) (m := M9 0) (hm := rfl) y10) cf_X4_readWhileOpen k_341 rfl rfl ⟨Nat.le_of_ble_eq_true rfl, Nat.le_of_ble_eq_true rfl⟩ (r_recv hK hw (v_st (by decide) (by decide)) (E_st (by decide)) rfl) rfl hl.1 rfl (Nat.le_of_ble_eq_true rfl) ⟨Nat.le_refl _, Nat.le_refl _⟩ dX5_readOn_43 (fun H locs hw hS => ?_)
        rw [← e14] at hw
        have e1 := (t_ret h).1
        have e2 := (t_ret h).2
        exact e_i hx hb hr hlk hw hS e1 e2 dX5_readOn_46
      · replace h := t_pos h q6
        refine lv_bipush (v := -5) hx hb dX5_readOn_25 (by decide) ?_
        have e1 := (t_ret h).1
        have e2 := (t_ret h).2
        exact e_i hx hb hr hlk hw hS e1 e2 dX5_readOn_27
    · replace h := t_pos h q3
      refine lv_bipush (v := -4) hx hb dX5_readOn_10 (by decide) ?_
      have e1 := (t_ret h).1
      have e2 := (t_ret h).2
      exact e_i hx hb hr hlk hw hS e1 e2 dX5_readOn_12
  exact main _ _ hw hS ls hl

theorem cf_X5_type : cfV RX5 yX5_type cX5_type 2 (some .int) 1 := ⟨⟨k_423, k_424, k_1, k_425⟩, by decide +kernel⟩
def f_X5_type (M : MM) (p0 : Int32) : Option (Int32 × MM) :=
  (if (M 7 0 2) < (nI 80) then bd (f_X1_append (M 7) p0) fun r3 m4 => lt1 (gs M 7 m4) fun M5 => some ((M5 7 0 2), M5) else some ((-3 : Int32), M))
set_option maxHeartbeats 4000000 in
set_option maxRecDepth 100000 in
theorem c_X5_type {l : Launch} {D : va_G} {cy : Nat → ClassId} {ad : Nat → Nat → Nat} (hcv : CV ad) {M : MM} {p0 : Int32} {r : Int32} {x : MM} (h : f_X5_type M p0 = some (r, x)) : Met l yX5_type (.code yX5_type cX5_type 2 (some .int) :: TB) ({ frames := 1, cells := 0, slots := 0, locals := 21 } : Room) (PW D cy ad M [.ref (ad 8 0), .int p0]) (QI D cy ad r x) 0 0 (AD ad) := by
  refine m_in (by decide +kernel) (Nat.le_of_ble_eq_true rfl) ?_
  intro p e s md args below meth c hC hw hS ls hl
  obtain ⟨hx, hb, hr, hml, hown, hts, hK, hlk⟩ := hC
  have hl : lv_has ls 2 [(0, .ref (ad 8 0)), (1, .int p0)] := hl
  unfold f_X5_type at h
  have main : JL p l e ({ frames := 1, cells := 0, slots := 0, locals := 21 } : Room) s md args below meth c D cy ad (MQ below (QI D cy ad r x) args s 0 0 (AD ad)) (M) 2 [(0, .ref (ad 8 0)), (1, .int p0)] 0 [] := by
    intro H locs hw hS ls hl
    refine lv_aload_n hx hb dX5_type_0 rfl (lv_at hl 0 rfl) ?_
    refine r_get hx hb hts hown hK hw (v_mn (by decide)) rfl E_mn inX5 rfl 0 (by decide) k_205 rfl rfl dX5_type_1 ?_
    refine r_get hx hb hts hown hK hw (v_tx (by decide)) rfl E_tx inX1 rfl 2 (by decide) k_27 rfl rfl dX5_type_4 ?_
    refine lv_bipush (v := nI 80) hx hb dX5_type_7 (by decide) ?_
    refine lv_icmp_lt (tgt := 15) hx hb dX5_type_9 (by decide) (fun q1 => ?_) (fun q1 => ?_)
    · replace h := t_pos h q1
      refine lv_aload_n hx hb dX5_type_15 rfl (lv_at hl 0 rfl) ?_
      refine r_get hx hb hts hown hK hw (v_mn (by decide)) rfl E_mn inX5 rfl 0 (by decide) k_205 rfl rfl dX5_type_16 ?_
      refine lv_iload_n hx hb dX5_type_19 rfl (lv_at hl 1 rfl) ?_
      obtain ⟨r3, m4, y2, h⟩ := t_bd h
      obtain ⟨M5, e6, h⟩ := t_lt h
      refine c_vv hx hb hml hown hts hK hw hS (fun _ h => h) (As := [.int p0]) (rest := []) (c_X1_append hcv (M0 := M) (m := M 7) (hm := rfl) y2) cf_X1_append k_426 rfl rfl ⟨Nat.le_of_ble_eq_true rfl, Nat.le_of_ble_eq_true rfl⟩ (r_recv hK hw (v_tx (by decide)) E_tx rfl) rfl hl.1 rfl (Nat.le_of_ble_eq_true rfl) ⟨Nat.le_refl _, Nat.le_refl _⟩ dX5_type_20 (fun H locs hw hS => ?_)
      rw [← e6] at hw
      refine lv_aload_n hx hb dX5_type_23 rfl (lv_at hl 0 rfl) ?_
      refine r_get hx hb hts hown hK hw (v_mn (by decide)) rfl E_mn inX5 rfl 0 (by decide) k_205 rfl rfl dX5_type_24 ?_
      refine r_get hx hb hts hown hK hw (v_tx (by decide)) rfl E_tx inX1 rfl 2 (by decide) k_27 rfl rfl dX5_type_27 ?_
      have e1 := (t_ret h).1
      have e2 := (t_ret h).2
      exact e_i hx hb hr hlk hw hS e1 e2 dX5_type_30
    · replace h := t_neg h q1
      refine lv_bipush (v := -3) hx hb dX5_type_12 (by decide) ?_
      have e1 := (t_ret h).1
      have e2 := (t_ret h).2
      exact e_i hx hb hr hlk hw hS e1 e2 dX5_type_14
  exact main _ _ hw hS ls hl

theorem cf_X5_clearText : cfV RX5 yX5_clearText cX5_clearText 2 (some .int) 0 := ⟨⟨k_479, k_480, k_1, k_481⟩, by decide +kernel⟩
def f_X5_clearText (M : MM) : Option (Int32 × MM) :=
  lt1 (gs M 7 (up (M 7) 0 2 (nI 0))) fun M2 => some ((M 7 0 2), M2)
set_option maxHeartbeats 4000000 in
set_option maxRecDepth 100000 in
theorem c_X5_clearText {l : Launch} {D : va_G} {cy : Nat → ClassId} {ad : Nat → Nat → Nat} (hcv : CV ad) {M : MM} {r : Int32} {x : MM} (h : f_X5_clearText M = some (r, x)) : Met l yX5_clearText (.code yX5_clearText cX5_clearText 2 (some .int) :: TB) ({ frames := 0, cells := 0, slots := 0, locals := 0 } : Room) (PW D cy ad M [.ref (ad 8 0)]) (QI D cy ad r x) 0 0 (AD ad) := by
  refine m_in (by decide +kernel) (Nat.le_of_ble_eq_true rfl) ?_
  intro p e s md args below meth c hC hw hS ls hl
  obtain ⟨hx, hb, hr, hml, hown, hts, hK, hlk⟩ := hC
  have hl : lv_has ls 2 [(0, .ref (ad 8 0))] := hl
  unfold f_X5_clearText at h
  have main : JL p l e ({ frames := 0, cells := 0, slots := 0, locals := 0 } : Room) s md args below meth c D cy ad (MQ below (QI D cy ad r x) args s 0 0 (AD ad)) (M) 2 [(0, .ref (ad 8 0))] 0 [] := by
    intro H locs hw hS ls hl
    refine lv_aload_n hx hb dX5_clearText_0 rfl (lv_at hl 0 rfl) ?_
    refine r_get hx hb hts hown hK hw (v_mn (by decide)) rfl E_mn inX5 rfl 0 (by decide) k_205 rfl rfl dX5_clearText_1 ?_
    refine r_get hx hb hts hown hK hw (v_tx (by decide)) rfl E_tx inX1 rfl 2 (by decide) k_27 rfl rfl dX5_clearText_4 ?_
    refine lv_istore_n (lv' := [(1, .int (M 7 0 2)), (0, .ref (ad 8 0))]) hx hb dX5_clearText_7 rfl hl (by decide) rfl (fun ls hl => ?_)
    refine lv_aload_n hx hb dX5_clearText_8 rfl (lv_at hl 1 rfl) ?_
    refine r_get hx hb hts hown hK hw (v_mn (by decide)) rfl E_mn inX5 rfl 0 (by decide) k_205 rfl rfl dX5_clearText_9 ?_
    refine lv_iconst (v := nI 0) hx hb dX5_clearText_12 (by decide) ?_
    obtain ⟨M2, e1, h⟩ := t_lt h
    refine r_put hx hb hts hown hK hcv hw hS (v_tx (by decide)) rfl E_tx inX1 rfl tyX1 tyX1_ok nmX1 2 (by decide) k_27 rfl rfl rfl rfl (Nat.le_of_ble_eq_true rfl) E_tx e1.symm dX5_clearText_13 (fun H locs hw hS => ?_)
    refine lv_iload_n hx hb dX5_clearText_16 rfl (lv_at hl 0 rfl) ?_
    have e1 := (t_ret h).1
    have e2 := (t_ret h).2
    exact e_i hx hb hr hlk hw hS e1 e2 dX5_clearText_17
  exact main _ _ hw hS ls hl

theorem cf_X5_block : cfV RX5 yX5_block cX5_block 4 (some .int) 2 := ⟨⟨k_348, k_349, k_1, k_350⟩, by decide +kernel⟩
def f_X5_block (M : MM) (p0 : Int32) (p1 : Int32) : Option (Int32) :=
  b1 (f_X4_hasBlock (M 0) p0) fun r2 => (if r2 = (nI 0) then some (-1 : Int32) else gd p0 8 ((if p1 = (nI 0) then some (M 0 (3 + p0.toNatClampNeg) 1) else (if p1 = (nI 1) then some (M 0 (3 + p0.toNatClampNeg) 2) else (if p1 = (nI 2) then some (M 0 (3 + p0.toNatClampNeg) 3) else (if p1 = (nI 3) then some (M 0 (3 + p0.toNatClampNeg) 4) else (if p1 = (nI 4) then some (M 0 (3 + p0.toNatClampNeg) 5) else (if p1 = (nI 5) then b1 (f_X4_weight (M 0) p0.toNatClampNeg) fun r13 => some r13 else (if p1 = (nI 6) then some (M 0 (3 + p0.toNatClampNeg) 6) else (some (-2 : Int32)))))))))))
set_option maxHeartbeats 4000000 in
set_option maxRecDepth 100000 in
theorem c_X5_block {l : Launch} {D : va_G} {cy : Nat → ClassId} {ad : Nat → Nat → Nat} (hcv : CV ad) {M : MM} {p0 p1 : Int32} {r : Int32} (h : f_X5_block M p0 p1 = some r) : Met l yX5_block (.code yX5_block cX5_block 4 (some .int) :: TB) ({ frames := 2, cells := 0, slots := 0, locals := 45 } : Room) (PW D cy ad M [.ref (ad 8 0), .int p0, .int p1]) (QI D cy ad r M) 0 0 (AD ad) := by
  refine m_in (by decide +kernel) (Nat.le_of_ble_eq_true rfl) ?_
  intro p e s md args below meth c hC hw hS ls hl
  obtain ⟨hx, hb, hr, hml, hown, hts, hK, hlk⟩ := hC
  have hl : lv_has ls 4 [(0, .ref (ad 8 0)), (1, .int p0), (2, .int p1)] := hl
  unfold f_X5_block at h
  have main : JL p l e ({ frames := 2, cells := 0, slots := 0, locals := 45 } : Room) s md args below meth c D cy ad (MQ below (QI D cy ad r M) args s 0 0 (AD ad)) (M) 4 [(0, .ref (ad 8 0)), (1, .int p0), (2, .int p1)] 0 [] := by
    intro H locs hw hS ls hl
    refine lv_aload_n hx hb dX5_block_0 rfl (lv_at hl 0 rfl) ?_
    refine r_get hx hb hts hown hK hw (v_mn (by decide)) rfl E_mn inX5 rfl 1 (by decide) k_206 rfl rfl dX5_block_1 ?_
    refine lv_iload_n hx hb dX5_block_4 rfl (lv_at hl 1 rfl) ?_
    obtain ⟨r2, y1, h⟩ := t_b1 h
    refine c_vi hx hb hml hown hts hK hw hS (fun _ h => h) (As := [.int p0]) (rest := []) (c_X4_hasBlock hcv (g := 0) (hg := (by decide)) (M0 := M) (m := M 0) (hm := rfl) y1) cf_X4_hasBlock k_351 rfl rfl ⟨Nat.le_of_ble_eq_true rfl, Nat.le_of_ble_eq_true rfl⟩ (r_recv hK hw (v_st (by decide) (by decide)) (E_st (by decide)) rfl) rfl hl.1 rfl (Nat.le_of_ble_eq_true rfl) ⟨Nat.le_refl _, Nat.le_refl _⟩ dX5_block_5 (fun H locs hw hS => ?_)
    refine lv_if_ne (tgt := 13) hx hb dX5_block_8 (by decide) (fun q3 => ?_) (fun q3 => ?_)
    · replace h := t_neg h q3
      refine lv_aload_n hx hb dX5_block_13 rfl (lv_at hl 0 rfl) ?_
      refine r_get hx hb hts hown hK hw (v_mn (by decide)) rfl E_mn inX5 rfl 1 (by decide) k_206 rfl rfl dX5_block_14 ?_
      refine r_get hx hb hts hown hK hw (v_st (by decide) (by decide)) rfl (E_st (by decide)) inX4 rfl 0 (by decide) k_161 rfl rfl dX5_block_17 ?_
      refine lv_iload_n hx hb dX5_block_20 rfl (lv_at hl 1 rfl) ?_
      obtain ⟨q4, h⟩ := t_gd h
      refine r_aald hx hb hK hw (v_st (by decide) (by decide)) (t0 := 2) rfl (E_ba (by decide)) (v := .ref (ad 0 (3 + p0.toNatClampNeg))) rfl q4 dX5_block_21 ?_
      refine lv_astore_n (lv' := [(3, .ref (ad 0 (3 + p0.toNatClampNeg))), (0, .ref (ad 8 0)), (1, .int p0), (2, .int p1)]) hx hb dX5_block_22 rfl hl (by decide) rfl (fun ls hl => ?_)
      refine lv_iload_n hx hb dX5_block_23 rfl (lv_at hl 3 rfl) ?_
      by_cases q5 : p1 = (nI 0)
      · replace h := t_pos h q5
        refine lv_tableIn (off := 44) (tgt := 68) hx hb dX5_block_24 (by rw [q5]; decide) (by rw [q5]; decide) (by rw [q5]; rfl) (by decide) ?_
        refine lv_aload_n hx hb dX5_block_68 rfl (lv_at hl 0 rfl) ?_
        refine r_get hx hb hts hown hK hw (v_bk (by decide) (vin q4)) rfl (E_bk (by decide) (vin q4)) inX0 rfl 1 (by decide) k_76 rfl rfl dX5_block_69 ?_
        have e1 := Option.some.inj h
        exact e_i hx hb hr hlk hw hS e1 rfl dX5_block_72
      · replace h := t_neg h q5
        by_cases q6 : p1 = (nI 1)
        · replace h := t_pos h q6
          refine lv_tableIn (off := 49) (tgt := 73) hx hb dX5_block_24 (by rw [q6]; decide) (by rw [q6]; decide) (by rw [q6]; rfl) (by decide) ?_
          refine lv_aload_n hx hb dX5_block_73 rfl (lv_at hl 0 rfl) ?_
          refine r_get hx hb hts hown hK hw (v_bk (by decide) (vin q4)) rfl (E_bk (by decide) (vin q4)) inX0 rfl 2 (by decide) k_80 rfl rfl dX5_block_74 ?_
          have e1 := Option.some.inj h
          exact e_i hx hb hr hlk hw hS e1 rfl dX5_block_77
        · replace h := t_neg h q6
          by_cases q7 : p1 = (nI 2)
          · replace h := t_pos h q7
            refine lv_tableIn (off := 54) (tgt := 78) hx hb dX5_block_24 (by rw [q7]; decide) (by rw [q7]; decide) (by rw [q7]; rfl) (by decide) ?_
            refine lv_aload_n hx hb dX5_block_78 rfl (lv_at hl 0 rfl) ?_
            refine r_get hx hb hts hown hK hw (v_bk (by decide) (vin q4)) rfl (E_bk (by decide) (vin q4)) inX0 rfl 3 (by decide) k_84 rfl rfl dX5_block_79 ?_
            have e1 := Option.some.inj h
            exact e_i hx hb hr hlk hw hS e1 rfl dX5_block_82
          · replace h := t_neg h q7
            by_cases q8 : p1 = (nI 3)
            · replace h := t_pos h q8
              refine lv_tableIn (off := 59) (tgt := 83) hx hb dX5_block_24 (by rw [q8]; decide) (by rw [q8]; decide) (by rw [q8]; rfl) (by decide) ?_
              refine lv_aload_n hx hb dX5_block_83 rfl (lv_at hl 0 rfl) ?_
              refine r_get hx hb hts hown hK hw (v_bk (by decide) (vin q4)) rfl (E_bk (by decide) (vin q4)) inX0 rfl 4 (by decide) k_87 rfl rfl dX5_block_84 ?_
              have e1 := Option.some.inj h
              exact e_i hx hb hr hlk hw hS e1 rfl dX5_block_87
            · replace h := t_neg h q8
              by_cases q9 : p1 = (nI 4)
              · replace h := t_pos h q9
                refine lv_tableIn (off := 64) (tgt := 88) hx hb dX5_block_24 (by rw [q9]; decide) (by rw [q9]; decide) (by rw [q9]; rfl) (by decide) ?_
                refine lv_aload_n hx hb dX5_block_88 rfl (lv_at hl 0 rfl) ?_
                refine r_get hx hb hts hown hK hw (v_bk (by decide) (vin q4)) rfl (E_bk (by decide) (vin q4)) inX0 rfl 5 (by decide) k_90 rfl rfl dX5_block_89 ?_
                have e1 := Option.some.inj h
                exact e_i hx hb hr hlk hw hS e1 rfl dX5_block_92
              · replace h := t_neg h q9
                by_cases q10 : p1 = (nI 5)
                · replace h := t_pos h q10
                  refine lv_tableIn (off := 69) (tgt := 93) hx hb dX5_block_24 (by rw [q10]; decide) (by rw [q10]; decide) (by rw [q10]; rfl) (by decide) ?_
                  refine lv_aload_n hx hb dX5_block_93 rfl (lv_at hl 1 rfl) ?_
                  refine r_get hx hb hts hown hK hw (v_mn (by decide)) rfl E_mn inX5 rfl 1 (by decide) k_206 rfl rfl dX5_block_94 ?_
                  refine lv_aload_n hx hb dX5_block_97 rfl (lv_at hl 0 rfl) ?_
                  obtain ⟨r13, y12, h⟩ := t_b1 h
                  refine c_vi hx hb hml hown hts hK hw hS (fun _ h => h) (As := [.ref (ad 0 (3 + p0.toNatClampNeg))]) (rest := []) (c_X4_weight hcv (g := 0) (hg := (by decide)) (i := p0.toNatClampNeg) (hi := (vin q4)) (M0 := M) (m := M 0) (hm := rfl) y12) cf_X4_weight k_352 rfl rfl ⟨Nat.le_of_ble_eq_true rfl, Nat.le_of_ble_eq_true rfl⟩ (r_recv hK hw (v_st (by decide) (by decide)) (E_st (by decide)) rfl) rfl hl.1 rfl (Nat.le_of_ble_eq_true rfl) ⟨Nat.le_refl _, Nat.le_refl _⟩ dX5_block_98 (fun H locs hw hS => ?_)
                  have e1 := Option.some.inj h
                  exact e_i hx hb hr hlk hw hS e1 rfl dX5_block_101
                · replace h := t_neg h q10
                  by_cases q11 : p1 = (nI 6)
                  · replace h := t_pos h q11
                    refine lv_tableIn (off := 78) (tgt := 102) hx hb dX5_block_24 (by rw [q11]; decide) (by rw [q11]; decide) (by rw [q11]; rfl) (by decide) ?_
                    refine lv_aload_n hx hb dX5_block_102 rfl (lv_at hl 0 rfl) ?_
                    refine r_get hx hb hts hown hK hw (v_bk (by decide) (vin q4)) rfl (E_bk (by decide) (vin q4)) inX0 rfl 6 (by decide) k_93 rfl rfl dX5_block_103 ?_
                    have e1 := Option.some.inj h
                    exact e_i hx hb hr hlk hw hS e1 rfl dX5_block_106
                  · replace h := t_neg h q11
                    refine lv_tableOut (tgt := 107) hx hb dX5_block_24 (tab_out (lo := 0) (n := 7) (by decide) (lt_s (lt_s (lt_s (lt_s (lt_s (lt_s (lt_s lt_0 q5) q6) q7) q8) q9) q10) q11)) (by decide) ?_
                    refine lv_bipush (v := -2) hx hb dX5_block_107 (by decide) ?_
                    have e1 := Option.some.inj h
                    exact e_i hx hb hr hlk hw hS e1 rfl dX5_block_109
    · replace h := t_pos h q3
      refine lv_iconst (v := -1) hx hb dX5_block_11 (by decide) ?_
      have e1 := Option.some.inj h
      exact e_i hx hb hr hlk hw hS e1 rfl dX5_block_12
  exact main _ _ hw hS ls hl

theorem cf_X5_value : cfV RX5 yX5_value cX5_value 4 (some .int) 2 := ⟨⟨k_354, k_355, k_1, k_356⟩, by decide +kernel⟩
def f_X5_value (M : MM) (p0 : Int32) (p1 : Int32) : Option (Int32) :=
  b1 (f_X4_hasRow (M 0) p0 p1) fun r2 => (if r2 = (nI 0) then some (-1 : Int32) else gd p0 8 ((if (M 0 (3 + p0.toNatClampNeg) 5) ≤ p1 then some (-4 : Int32) else gd p1 16 (some (M 0 (11 + p0.toNatClampNeg) p1.toNatClampNeg)))))
set_option maxHeartbeats 4000000 in
set_option maxRecDepth 100000 in
theorem c_X5_value {l : Launch} {D : va_G} {cy : Nat → ClassId} {ad : Nat → Nat → Nat} (hcv : CV ad) {M : MM} {p0 p1 : Int32} {r : Int32} (h : f_X5_value M p0 p1 = some r) : Met l yX5_value (.code yX5_value cX5_value 4 (some .int) :: TB) ({ frames := 3, cells := 0, slots := 0, locals := 65 } : Room) (PW D cy ad M [.ref (ad 8 0), .int p0, .int p1]) (QI D cy ad r M) 0 0 (AD ad) := by
  refine m_in (by decide +kernel) (Nat.le_of_ble_eq_true rfl) ?_
  intro p e s md args below meth c hC hw hS ls hl
  obtain ⟨hx, hb, hr, hml, hown, hts, hK, hlk⟩ := hC
  have hl : lv_has ls 4 [(0, .ref (ad 8 0)), (1, .int p0), (2, .int p1)] := hl
  unfold f_X5_value at h
  have main : JL p l e ({ frames := 3, cells := 0, slots := 0, locals := 65 } : Room) s md args below meth c D cy ad (MQ below (QI D cy ad r M) args s 0 0 (AD ad)) (M) 4 [(0, .ref (ad 8 0)), (1, .int p0), (2, .int p1)] 0 [] := by
    intro H locs hw hS ls hl
    refine lv_aload_n hx hb dX5_value_0 rfl (lv_at hl 0 rfl) ?_
    refine r_get hx hb hts hown hK hw (v_mn (by decide)) rfl E_mn inX5 rfl 1 (by decide) k_206 rfl rfl dX5_value_1 ?_
    refine lv_iload_n hx hb dX5_value_4 rfl (lv_at hl 1 rfl) ?_
    refine lv_iload_n hx hb dX5_value_5 rfl (lv_at hl 2 rfl) ?_
    obtain ⟨r2, y1, h⟩ := t_b1 h
    refine c_vi hx hb hml hown hts hK hw hS (fun _ h => h) (As := [.int p0, .int p1]) (rest := []) (c_X4_hasRow hcv (g := 0) (hg := (by decide)) (M0 := M) (m := M 0) (hm := rfl) y1) cf_X4_hasRow k_357 rfl rfl ⟨Nat.le_of_ble_eq_true rfl, Nat.le_of_ble_eq_true rfl⟩ (r_recv hK hw (v_st (by decide) (by decide)) (E_st (by decide)) rfl) rfl hl.1 rfl (Nat.le_of_ble_eq_true rfl) ⟨Nat.le_refl _, Nat.le_refl _⟩ dX5_value_6 (fun H locs hw hS => ?_)
    refine lv_if_ne (tgt := 14) hx hb dX5_value_9 (by decide) (fun q3 => ?_) (fun q3 => ?_)
    · replace h := t_neg h q3
      refine lv_aload_n hx hb dX5_value_14 rfl (lv_at hl 0 rfl) ?_
      refine r_get hx hb hts hown hK hw (v_mn (by decide)) rfl E_mn inX5 rfl 1 (by decide) k_206 rfl rfl dX5_value_15 ?_
      refine r_get hx hb hts hown hK hw (v_st (by decide) (by decide)) rfl (E_st (by decide)) inX4 rfl 0 (by decide) k_161 rfl rfl dX5_value_18 ?_
      refine lv_iload_n hx hb dX5_value_21 rfl (lv_at hl 1 rfl) ?_
      obtain ⟨q4, h⟩ := t_gd h
      refine r_aald hx hb hK hw (v_st (by decide) (by decide)) (t0 := 2) rfl (E_ba (by decide)) (v := .ref (ad 0 (3 + p0.toNatClampNeg))) rfl q4 dX5_value_22 ?_
      refine lv_astore_n (lv' := [(3, .ref (ad 0 (3 + p0.toNatClampNeg))), (0, .ref (ad 8 0)), (1, .int p0), (2, .int p1)]) hx hb dX5_value_23 rfl hl (by decide) rfl (fun ls hl => ?_)
      refine lv_iload_n hx hb dX5_value_24 rfl (lv_at hl 3 rfl) ?_
      refine lv_aload_n hx hb dX5_value_25 rfl (lv_at hl 0 rfl) ?_
      refine r_get hx hb hts hown hK hw (v_bk (by decide) (vin q4)) rfl (E_bk (by decide) (vin q4)) inX0 rfl 5 (by decide) k_90 rfl rfl dX5_value_26 ?_
      refine lv_icmp_ge (tgt := 41) hx hb dX5_value_29 (by decide) (fun q5 => ?_) (fun q5 => ?_)
      · replace h := t_pos h q5
        refine lv_bipush (v := -4) hx hb dX5_value_41 (by decide) ?_
        have e1 := Option.some.inj h
        exact e_i hx hb hr hlk hw hS e1 rfl dX5_value_43
      · replace h := t_neg h q5
        refine lv_aload_n hx hb dX5_value_32 rfl (lv_at hl 0 rfl) ?_
        refine r_get hx hb hts hown hK hw (v_bk (by decide) (vin q4)) rfl (E_bk (by decide) (vin q4)) inX0 rfl 0 (by decide) k_73 rfl rfl dX5_value_33 ?_
        refine lv_iload_n hx hb dX5_value_36 rfl (lv_at hl 3 rfl) ?_
        obtain ⟨q6, h⟩ := t_gd h
        refine r_iald hx hb hK hw (v_va (by decide) (vin q4)) rfl (E_va (by decide) (vin q4)) q6 dX5_value_37 ?_
        refine lv_goto (tgt := 43) hx hb dX5_value_38 (by decide) ?_
        have e1 := Option.some.inj h
        exact e_i hx hb hr hlk hw hS e1 rfl dX5_value_43
    · replace h := t_pos h q3
      refine lv_iconst (v := -1) hx hb dX5_value_12 (by decide) ?_
      have e1 := Option.some.inj h
      exact e_i hx hb hr hlk hw hS e1 rfl dX5_value_13
  exact main _ _ hw hS ls hl

theorem cf_X5_question : cfV RX5 yX5_question cX5_question 4 (some .int) 2 := ⟨⟨k_362, k_363, k_1, k_364⟩, by decide +kernel⟩
def f_X5_question (M : MM) (p0 : Int32) (p1 : Int32) : Option (Int32) :=
  b1 (f_X4_hasQuestion (M 0) p0) fun r2 => (if r2 = (nI 0) then some (-1 : Int32) else gd p0 6 ((if p1 = (nI 0) then some (M 0 (19 + p0.toNatClampNeg) 0) else (if p1 = (nI 1) then some (M 0 (19 + p0.toNatClampNeg) 1) else (if p1 = (nI 2) then some (M 0 (19 + p0.toNatClampNeg) 2) else (if p1 = (nI 3) then some (M 0 (19 + p0.toNatClampNeg) 3) else (if p1 = (nI 4) then (if (M 0 (19 + p0.toNatClampNeg) 4) = (nI 0) then some (nI 0) else some (nI 1)) else (if p1 = (nI 5) then b1 (f_X4_answer (M 0) p0.toNatClampNeg (nI 0)) fun r30 => some r30 else (if p1 = (nI 6) then b1 (f_X4_answer (M 0) p0.toNatClampNeg (nI 1)) fun r28 => some r28 else (if p1 = (nI 7) then b1 (f_X4_answer (M 0) p0.toNatClampNeg (nI 2)) fun r26 => some r26 else (if p1 = (nI 8) then (if (M 0 (19 + p0.toNatClampNeg) 4) = (nI 0) then some (-5 : Int32) else some (M 0 (19 + p0.toNatClampNeg) 5)) else (if p1 = (nI 9) then (if (M 0 (19 + p0.toNatClampNeg) 4) = (nI 0) then some (-5 : Int32) else some (M 0 (19 + p0.toNatClampNeg) 6)) else (if p1 = (nI 10) then (if (M 0 (19 + p0.toNatClampNeg) 4) = (nI 0) then some (-5 : Int32) else some (M 0 (19 + p0.toNatClampNeg) 7)) else (if p1 = (nI 11) then b1 (f_X4_rows (M 0) (M 0 (19 + p0.toNatClampNeg) 1)) fun r21 => some r21 else (if p1 = (nI 12) then b1 (f_X4_readRows (M 0) (M 0 (19 + p0.toNatClampNeg) 1)) fun r19 => some r19 else (some (-2 : Int32)))))))))))))))))
set_option maxHeartbeats 4000000 in
set_option maxRecDepth 100000 in
theorem c_X5_question {l : Launch} {D : va_G} {cy : Nat → ClassId} {ad : Nat → Nat → Nat} (hcv : CV ad) {M : MM} {p0 p1 : Int32} {r : Int32} (h : f_X5_question M p0 p1 = some r) : Met l yX5_question (.code yX5_question cX5_question 4 (some .int) :: TB) ({ frames := 3, cells := 0, slots := 0, locals := 76 } : Room) (PW D cy ad M [.ref (ad 8 0), .int p0, .int p1]) (QI D cy ad r M) 0 0 (AD ad) := by
  refine m_in (by decide +kernel) (Nat.le_of_ble_eq_true rfl) ?_
  intro p e s md args below meth c hC hw hS ls hl
  obtain ⟨hx, hb, hr, hml, hown, hts, hK, hlk⟩ := hC
  have hl : lv_has ls 4 [(0, .ref (ad 8 0)), (1, .int p0), (2, .int p1)] := hl
  unfold f_X5_question at h
  have main : JL p l e ({ frames := 3, cells := 0, slots := 0, locals := 76 } : Room) s md args below meth c D cy ad (MQ below (QI D cy ad r M) args s 0 0 (AD ad)) (M) 4 [(0, .ref (ad 8 0)), (1, .int p0), (2, .int p1)] 0 [] := by
    intro H locs hw hS ls hl
    refine lv_aload_n hx hb dX5_question_0 rfl (lv_at hl 0 rfl) ?_
    refine r_get hx hb hts hown hK hw (v_mn (by decide)) rfl E_mn inX5 rfl 1 (by decide) k_206 rfl rfl dX5_question_1 ?_
    refine lv_iload_n hx hb dX5_question_4 rfl (lv_at hl 1 rfl) ?_
    obtain ⟨r2, y1, h⟩ := t_b1 h
    refine c_vi hx hb hml hown hts hK hw hS (fun _ h => h) (As := [.int p0]) (rest := []) (c_X4_hasQuestion hcv (g := 0) (hg := (by decide)) (M0 := M) (m := M 0) (hm := rfl) y1) cf_X4_hasQuestion k_365 rfl rfl ⟨Nat.le_of_ble_eq_true rfl, Nat.le_of_ble_eq_true rfl⟩ (r_recv hK hw (v_st (by decide) (by decide)) (E_st (by decide)) rfl) rfl hl.1 rfl (Nat.le_of_ble_eq_true rfl) ⟨Nat.le_refl _, Nat.le_refl _⟩ dX5_question_5 (fun H locs hw hS => ?_)
    refine lv_if_ne (tgt := 13) hx hb dX5_question_8 (by decide) (fun q3 => ?_) (fun q3 => ?_)
    · replace h := t_neg h q3
      refine lv_aload_n hx hb dX5_question_13 rfl (lv_at hl 0 rfl) ?_
      refine r_get hx hb hts hown hK hw (v_mn (by decide)) rfl E_mn inX5 rfl 1 (by decide) k_206 rfl rfl dX5_question_14 ?_
      refine r_get hx hb hts hown hK hw (v_st (by decide) (by decide)) rfl (E_st (by decide)) inX4 rfl 1 (by decide) k_163 rfl rfl dX5_question_17 ?_
      refine lv_iload_n hx hb dX5_question_20 rfl (lv_at hl 1 rfl) ?_
      obtain ⟨q4, h⟩ := t_gd h
      refine r_aald hx hb hK hw (v_st (by decide) (by decide)) (t0 := 3) rfl (E_qa (by decide)) (v := .ref (ad 0 (19 + p0.toNatClampNeg))) rfl q4 dX5_question_21 ?_
      refine lv_astore_n (lv' := [(3, .ref (ad 0 (19 + p0.toNatClampNeg))), (0, .ref (ad 8 0)), (1, .int p0), (2, .int p1)]) hx hb dX5_question_22 rfl hl (by decide) rfl (fun ls hl => ?_)
      refine lv_iload_n hx hb dX5_question_23 rfl (lv_at hl 3 rfl) ?_
      by_cases q5 : p1 = (nI 0)
      · replace h := t_pos h q5
        refine lv_tableIn (off := 68) (tgt := 92) hx hb dX5_question_24 (by rw [q5]; decide) (by rw [q5]; decide) (by rw [q5]; rfl) (by decide) ?_
        refine lv_aload_n hx hb dX5_question_92 rfl (lv_at hl 0 rfl) ?_
        refine r_get hx hb hts hown hK hw (v_qu (by decide) (vin q4)) rfl (E_qu (by decide)) inX3 rfl 0 (by decide) k_122 rfl rfl dX5_question_93 ?_
        have e1 := Option.some.inj h
        exact e_i hx hb hr hlk hw hS e1 rfl dX5_question_96
      · replace h := t_neg h q5
        by_cases q6 : p1 = (nI 1)
        · replace h := t_pos h q6
          refine lv_tableIn (off := 73) (tgt := 97) hx hb dX5_question_24 (by rw [q6]; decide) (by rw [q6]; decide) (by rw [q6]; rfl) (by decide) ?_
          refine lv_aload_n hx hb dX5_question_97 rfl (lv_at hl 0 rfl) ?_
          refine r_get hx hb hts hown hK hw (v_qu (by decide) (vin q4)) rfl (E_qu (by decide)) inX3 rfl 1 (by decide) k_125 rfl rfl dX5_question_98 ?_
          have e1 := Option.some.inj h
          exact e_i hx hb hr hlk hw hS e1 rfl dX5_question_101
        · replace h := t_neg h q6
          by_cases q7 : p1 = (nI 2)
          · replace h := t_pos h q7
            refine lv_tableIn (off := 78) (tgt := 102) hx hb dX5_question_24 (by rw [q7]; decide) (by rw [q7]; decide) (by rw [q7]; rfl) (by decide) ?_
            refine lv_aload_n hx hb dX5_question_102 rfl (lv_at hl 0 rfl) ?_
            refine r_get hx hb hts hown hK hw (v_qu (by decide) (vin q4)) rfl (E_qu (by decide)) inX3 rfl 2 (by decide) k_128 rfl rfl dX5_question_103 ?_
            have e1 := Option.some.inj h
            exact e_i hx hb hr hlk hw hS e1 rfl dX5_question_106
          · replace h := t_neg h q7
            by_cases q8 : p1 = (nI 3)
            · replace h := t_pos h q8
              refine lv_tableIn (off := 83) (tgt := 107) hx hb dX5_question_24 (by rw [q8]; decide) (by rw [q8]; decide) (by rw [q8]; rfl) (by decide) ?_
              refine lv_aload_n hx hb dX5_question_107 rfl (lv_at hl 0 rfl) ?_
              refine r_get hx hb hts hown hK hw (v_qu (by decide) (vin q4)) rfl (E_qu (by decide)) inX3 rfl 3 (by decide) k_131 rfl rfl dX5_question_108 ?_
              have e1 := Option.some.inj h
              exact e_i hx hb hr hlk hw hS e1 rfl dX5_question_111
            · replace h := t_neg h q8
              by_cases q9 : p1 = (nI 4)
              · replace h := t_pos h q9
                refine lv_tableIn (off := 88) (tgt := 112) hx hb dX5_question_24 (by rw [q9]; decide) (by rw [q9]; decide) (by rw [q9]; rfl) (by decide) ?_
                refine lv_aload_n hx hb dX5_question_112 rfl (lv_at hl 0 rfl) ?_
                refine r_get hx hb hts hown hK hw (v_qu (by decide) (vin q4)) rfl (E_qu (by decide)) inX3 rfl 4 (by decide) k_134 rfl rfl dX5_question_113 ?_
                refine lv_if_eq (tgt := 123) hx hb dX5_question_116 (by decide) (fun q31 => ?_) (fun q31 => ?_)
                · replace h := t_pos h q31
                  refine lv_iconst (v := nI 0) hx hb dX5_question_123 (by decide) ?_
                  have e1 := Option.some.inj h
                  exact e_i hx hb hr hlk hw hS e1 rfl dX5_question_124
                · replace h := t_neg h q31
                  refine lv_iconst (v := nI 1) hx hb dX5_question_119 (by decide) ?_
                  refine lv_goto (tgt := 124) hx hb dX5_question_120 (by decide) ?_
                  have e1 := Option.some.inj h
                  exact e_i hx hb hr hlk hw hS e1 rfl dX5_question_124
              · replace h := t_neg h q9
                by_cases q10 : p1 = (nI 5)
                · replace h := t_pos h q10
                  refine lv_tableIn (off := 101) (tgt := 125) hx hb dX5_question_24 (by rw [q10]; decide) (by rw [q10]; decide) (by rw [q10]; rfl) (by decide) ?_
                  refine lv_aload_n hx hb dX5_question_125 rfl (lv_at hl 1 rfl) ?_
                  refine r_get hx hb hts hown hK hw (v_mn (by decide)) rfl E_mn inX5 rfl 1 (by decide) k_206 rfl rfl dX5_question_126 ?_
                  refine lv_aload_n hx hb dX5_question_129 rfl (lv_at hl 0 rfl) ?_
                  refine lv_iconst (v := nI 0) hx hb dX5_question_130 (by decide) ?_
                  obtain ⟨r30, y29, h⟩ := t_b1 h
                  refine c_vi hx hb hml hown hts hK hw hS (fun _ h => h) (As := [.ref (ad 0 (19 + p0.toNatClampNeg)), .int (nI 0)]) (rest := []) (c_X4_answer hcv (g := 0) (hg := (by decide)) (i := p0.toNatClampNeg) (hi := (vin q4)) (M0 := M) (m := M 0) (hm := rfl) y29) cf_X4_answer k_369 rfl rfl ⟨Nat.le_of_ble_eq_true rfl, Nat.le_of_ble_eq_true rfl⟩ (r_recv hK hw (v_st (by decide) (by decide)) (E_st (by decide)) rfl) rfl hl.1 rfl (Nat.le_of_ble_eq_true rfl) ⟨Nat.le_refl _, Nat.le_refl _⟩ dX5_question_131 (fun H locs hw hS => ?_)
                  have e1 := Option.some.inj h
                  exact e_i hx hb hr hlk hw hS e1 rfl dX5_question_134
                · replace h := t_neg h q10
                  by_cases q11 : p1 = (nI 6)
                  · replace h := t_pos h q11
                    refine lv_tableIn (off := 111) (tgt := 135) hx hb dX5_question_24 (by rw [q11]; decide) (by rw [q11]; decide) (by rw [q11]; rfl) (by decide) ?_
                    refine lv_aload_n hx hb dX5_question_135 rfl (lv_at hl 1 rfl) ?_
                    refine r_get hx hb hts hown hK hw (v_mn (by decide)) rfl E_mn inX5 rfl 1 (by decide) k_206 rfl rfl dX5_question_136 ?_
                    refine lv_aload_n hx hb dX5_question_139 rfl (lv_at hl 0 rfl) ?_
                    refine lv_iconst (v := nI 1) hx hb dX5_question_140 (by decide) ?_
                    obtain ⟨r28, y27, h⟩ := t_b1 h
                    refine c_vi hx hb hml hown hts hK hw hS (fun _ h => h) (As := [.ref (ad 0 (19 + p0.toNatClampNeg)), .int (nI 1)]) (rest := []) (c_X4_answer hcv (g := 0) (hg := (by decide)) (i := p0.toNatClampNeg) (hi := (vin q4)) (M0 := M) (m := M 0) (hm := rfl) y27) cf_X4_answer k_369 rfl rfl ⟨Nat.le_of_ble_eq_true rfl, Nat.le_of_ble_eq_true rfl⟩ (r_recv hK hw (v_st (by decide) (by decide)) (E_st (by decide)) rfl) rfl hl.1 rfl (Nat.le_of_ble_eq_true rfl) ⟨Nat.le_refl _, Nat.le_refl _⟩ dX5_question_141 (fun H locs hw hS => ?_)
                    have e1 := Option.some.inj h
                    exact e_i hx hb hr hlk hw hS e1 rfl dX5_question_144
                  · replace h := t_neg h q11
                    by_cases q12 : p1 = (nI 7)
                    · replace h := t_pos h q12
                      refine lv_tableIn (off := 121) (tgt := 145) hx hb dX5_question_24 (by rw [q12]; decide) (by rw [q12]; decide) (by rw [q12]; rfl) (by decide) ?_
                      refine lv_aload_n hx hb dX5_question_145 rfl (lv_at hl 1 rfl) ?_
                      refine r_get hx hb hts hown hK hw (v_mn (by decide)) rfl E_mn inX5 rfl 1 (by decide) k_206 rfl rfl dX5_question_146 ?_
                      refine lv_aload_n hx hb dX5_question_149 rfl (lv_at hl 0 rfl) ?_
                      refine lv_iconst (v := nI 2) hx hb dX5_question_150 (by decide) ?_
                      obtain ⟨r26, y25, h⟩ := t_b1 h
                      refine c_vi hx hb hml hown hts hK hw hS (fun _ h => h) (As := [.ref (ad 0 (19 + p0.toNatClampNeg)), .int (nI 2)]) (rest := []) (c_X4_answer hcv (g := 0) (hg := (by decide)) (i := p0.toNatClampNeg) (hi := (vin q4)) (M0 := M) (m := M 0) (hm := rfl) y25) cf_X4_answer k_369 rfl rfl ⟨Nat.le_of_ble_eq_true rfl, Nat.le_of_ble_eq_true rfl⟩ (r_recv hK hw (v_st (by decide) (by decide)) (E_st (by decide)) rfl) rfl hl.1 rfl (Nat.le_of_ble_eq_true rfl) ⟨Nat.le_refl _, Nat.le_refl _⟩ dX5_question_151 (fun H locs hw hS => ?_)
                      have e1 := Option.some.inj h
                      exact e_i hx hb hr hlk hw hS e1 rfl dX5_question_154
                    · replace h := t_neg h q12
                      by_cases q13 : p1 = (nI 8)
                      · replace h := t_pos h q13
                        refine lv_tableIn (off := 131) (tgt := 155) hx hb dX5_question_24 (by rw [q13]; decide) (by rw [q13]; decide) (by rw [q13]; rfl) (by decide) ?_
                        refine lv_aload_n hx hb dX5_question_155 rfl (lv_at hl 0 rfl) ?_
                        refine r_get hx hb hts hown hK hw (v_qu (by decide) (vin q4)) rfl (E_qu (by decide)) inX3 rfl 4 (by decide) k_134 rfl rfl dX5_question_156 ?_
                        refine lv_if_eq (tgt := 169) hx hb dX5_question_159 (by decide) (fun q24 => ?_) (fun q24 => ?_)
                        · replace h := t_pos h q24
                          refine lv_bipush (v := -5) hx hb dX5_question_169 (by decide) ?_
                          have e1 := Option.some.inj h
                          exact e_i hx hb hr hlk hw hS e1 rfl dX5_question_171
                        · replace h := t_neg h q24
                          refine lv_aload_n hx hb dX5_question_162 rfl (lv_at hl 0 rfl) ?_
                          refine r_get hx hb hts hown hK hw (v_qu (by decide) (vin q4)) rfl (E_qu (by decide)) inX3 rfl 5 (by decide) k_137 rfl rfl dX5_question_163 ?_
                          refine lv_goto (tgt := 171) hx hb dX5_question_166 (by decide) ?_
                          have e1 := Option.some.inj h
                          exact e_i hx hb hr hlk hw hS e1 rfl dX5_question_171
                      · replace h := t_neg h q13
                        by_cases q14 : p1 = (nI 9)
                        · replace h := t_pos h q14
                          refine lv_tableIn (off := 148) (tgt := 172) hx hb dX5_question_24 (by rw [q14]; decide) (by rw [q14]; decide) (by rw [q14]; rfl) (by decide) ?_
                          refine lv_aload_n hx hb dX5_question_172 rfl (lv_at hl 0 rfl) ?_
                          refine r_get hx hb hts hown hK hw (v_qu (by decide) (vin q4)) rfl (E_qu (by decide)) inX3 rfl 4 (by decide) k_134 rfl rfl dX5_question_173 ?_
                          refine lv_if_eq (tgt := 186) hx hb dX5_question_176 (by decide) (fun q23 => ?_) (fun q23 => ?_)
                          · replace h := t_pos h q23
                            refine lv_bipush (v := -5) hx hb dX5_question_186 (by decide) ?_
                            have e1 := Option.some.inj h
                            exact e_i hx hb hr hlk hw hS e1 rfl dX5_question_188
                          · replace h := t_neg h q23
                            refine lv_aload_n hx hb dX5_question_179 rfl (lv_at hl 0 rfl) ?_
                            refine r_get hx hb hts hown hK hw (v_qu (by decide) (vin q4)) rfl (E_qu (by decide)) inX3 rfl 6 (by decide) k_140 rfl rfl dX5_question_180 ?_
                            refine lv_goto (tgt := 188) hx hb dX5_question_183 (by decide) ?_
                            have e1 := Option.some.inj h
                            exact e_i hx hb hr hlk hw hS e1 rfl dX5_question_188
                        · replace h := t_neg h q14
                          by_cases q15 : p1 = (nI 10)
                          · replace h := t_pos h q15
                            refine lv_tableIn (off := 165) (tgt := 189) hx hb dX5_question_24 (by rw [q15]; decide) (by rw [q15]; decide) (by rw [q15]; rfl) (by decide) ?_
                            refine lv_aload_n hx hb dX5_question_189 rfl (lv_at hl 0 rfl) ?_
                            refine r_get hx hb hts hown hK hw (v_qu (by decide) (vin q4)) rfl (E_qu (by decide)) inX3 rfl 4 (by decide) k_134 rfl rfl dX5_question_190 ?_
                            refine lv_if_eq (tgt := 203) hx hb dX5_question_193 (by decide) (fun q22 => ?_) (fun q22 => ?_)
                            · replace h := t_pos h q22
                              refine lv_bipush (v := -5) hx hb dX5_question_203 (by decide) ?_
                              have e1 := Option.some.inj h
                              exact e_i hx hb hr hlk hw hS e1 rfl dX5_question_205
                            · replace h := t_neg h q22
                              refine lv_aload_n hx hb dX5_question_196 rfl (lv_at hl 0 rfl) ?_
                              refine r_get hx hb hts hown hK hw (v_qu (by decide) (vin q4)) rfl (E_qu (by decide)) inX3 rfl 7 (by decide) k_142 rfl rfl dX5_question_197 ?_
                              refine lv_goto (tgt := 205) hx hb dX5_question_200 (by decide) ?_
                              have e1 := Option.some.inj h
                              exact e_i hx hb hr hlk hw hS e1 rfl dX5_question_205
                          · replace h := t_neg h q15
                            by_cases q16 : p1 = (nI 11)
                            · replace h := t_pos h q16
                              refine lv_tableIn (off := 182) (tgt := 206) hx hb dX5_question_24 (by rw [q16]; decide) (by rw [q16]; decide) (by rw [q16]; rfl) (by decide) ?_
                              refine lv_aload_n hx hb dX5_question_206 rfl (lv_at hl 1 rfl) ?_
                              refine r_get hx hb hts hown hK hw (v_mn (by decide)) rfl E_mn inX5 rfl 1 (by decide) k_206 rfl rfl dX5_question_207 ?_
                              refine lv_aload_n hx hb dX5_question_210 rfl (lv_at hl 0 rfl) ?_
                              refine r_get hx hb hts hown hK hw (v_qu (by decide) (vin q4)) rfl (E_qu (by decide)) inX3 rfl 1 (by decide) k_125 rfl rfl dX5_question_211 ?_
                              obtain ⟨r21, y20, h⟩ := t_b1 h
                              refine c_vi hx hb hml hown hts hK hw hS (fun _ h => h) (As := [.int (M 0 (19 + p0.toNatClampNeg) 1)]) (rest := []) (c_X4_rows hcv (g := 0) (hg := (by decide)) (M0 := M) (m := M 0) (hm := rfl) y20) cf_X4_rows k_370 rfl rfl ⟨Nat.le_of_ble_eq_true rfl, Nat.le_of_ble_eq_true rfl⟩ (r_recv hK hw (v_st (by decide) (by decide)) (E_st (by decide)) rfl) rfl hl.1 rfl (Nat.le_of_ble_eq_true rfl) ⟨Nat.le_refl _, Nat.le_refl _⟩ dX5_question_214 (fun H locs hw hS => ?_)
                              have e1 := Option.some.inj h
                              exact e_i hx hb hr hlk hw hS e1 rfl dX5_question_217
                            · replace h := t_neg h q16
                              by_cases q17 : p1 = (nI 12)
                              · replace h := t_pos h q17
                                refine lv_tableIn (off := 194) (tgt := 218) hx hb dX5_question_24 (by rw [q17]; decide) (by rw [q17]; decide) (by rw [q17]; rfl) (by decide) ?_
                                refine lv_aload_n hx hb dX5_question_218 rfl (lv_at hl 1 rfl) ?_
                                refine r_get hx hb hts hown hK hw (v_mn (by decide)) rfl E_mn inX5 rfl 1 (by decide) k_206 rfl rfl dX5_question_219 ?_
                                refine lv_aload_n hx hb dX5_question_222 rfl (lv_at hl 0 rfl) ?_
                                refine r_get hx hb hts hown hK hw (v_qu (by decide) (vin q4)) rfl (E_qu (by decide)) inX3 rfl 1 (by decide) k_125 rfl rfl dX5_question_223 ?_
                                obtain ⟨r19, y18, h⟩ := t_b1 h
                                refine c_vi hx hb hml hown hts hK hw hS (fun _ h => h) (As := [.int (M 0 (19 + p0.toNatClampNeg) 1)]) (rest := []) (c_X4_readRows hcv (g := 0) (hg := (by decide)) (M0 := M) (m := M 0) (hm := rfl) y18) cf_X4_readRows k_371 rfl rfl ⟨Nat.le_of_ble_eq_true rfl, Nat.le_of_ble_eq_true rfl⟩ (r_recv hK hw (v_st (by decide) (by decide)) (E_st (by decide)) rfl) rfl hl.1 rfl (Nat.le_of_ble_eq_true rfl) ⟨Nat.le_refl _, Nat.le_refl _⟩ dX5_question_226 (fun H locs hw hS => ?_)
                                have e1 := Option.some.inj h
                                exact e_i hx hb hr hlk hw hS e1 rfl dX5_question_229
                              · replace h := t_neg h q17
                                refine lv_tableOut (tgt := 230) hx hb dX5_question_24 (tab_out (lo := 0) (n := 13) (by decide) (lt_s (lt_s (lt_s (lt_s (lt_s (lt_s (lt_s (lt_s (lt_s (lt_s (lt_s (lt_s (lt_s lt_0 q5) q6) q7) q8) q9) q10) q11) q12) q13) q14) q15) q16) q17)) (by decide) ?_
                                refine lv_bipush (v := -2) hx hb dX5_question_230 (by decide) ?_
                                have e1 := Option.some.inj h
                                exact e_i hx hb hr hlk hw hS e1 rfl dX5_question_232
    · replace h := t_pos h q3
      refine lv_iconst (v := -1) hx hb dX5_question_11 (by decide) ?_
      have e1 := Option.some.inj h
      exact e_i hx hb hr hlk hw hS e1 rfl dX5_question_12
  exact main _ _ hw hS ls hl

theorem cf_X5_next : cfV RX5 yX5_next cX5_next 3 (some .int) 1 := ⟨⟨k_376, k_377, k_1, k_378⟩, by decide +kernel⟩
def f_X5_next (M : MM) (p0 : Int32) : Option (Int32) :=
  b1 (f_X5_isFromTo p0 (nI 0) (nI 1)) fun r2 => (if r2 = (nI 0) then some (-2 : Int32) else b1 (f_X4_nextBlock (M 0)) fun r5 => b1 (f_X4_hasBlock (M 0) r5) fun r7 => (if r7 = (nI 0) then some (-5 : Int32) else (if p0 = (nI 0) then some r5 else gd r5 8 (some (M 0 (3 + r5.toNatClampNeg) 5)))))
set_option maxHeartbeats 4000000 in
set_option maxRecDepth 100000 in
theorem c_X5_next {l : Launch} {D : va_G} {cy : Nat → ClassId} {ad : Nat → Nat → Nat} (hcv : CV ad) {M : MM} {p0 : Int32} {r : Int32} (h : f_X5_next M p0 = some r) : Met l yX5_next (.code yX5_next cX5_next 3 (some .int) :: TB) ({ frames := 4, cells := 0, slots := 0, locals := 90 } : Room) (PW D cy ad M [.ref (ad 8 0), .int p0]) (QI D cy ad r M) 0 0 (AD ad) := by
  refine m_in (by decide +kernel) (Nat.le_of_ble_eq_true rfl) ?_
  intro p e s md args below meth c hC hw hS ls hl
  obtain ⟨hx, hb, hr, hml, hown, hts, hK, hlk⟩ := hC
  have hl : lv_has ls 3 [(0, .ref (ad 8 0)), (1, .int p0)] := hl
  unfold f_X5_next at h
  have main : JL p l e ({ frames := 4, cells := 0, slots := 0, locals := 90 } : Room) s md args below meth c D cy ad (MQ below (QI D cy ad r M) args s 0 0 (AD ad)) (M) 3 [(0, .ref (ad 8 0)), (1, .int p0)] 0 [] := by
    intro H locs hw hS ls hl
    refine lv_iload_n hx hb dX5_next_0 rfl (lv_at hl 1 rfl) ?_
    refine lv_iconst (v := nI 0) hx hb dX5_next_1 (by decide) ?_
    refine lv_iconst (v := nI 1) hx hb dX5_next_2 (by decide) ?_
    obtain ⟨r2, y1, h⟩ := t_b1 h
    refine c_si hx hb hml hown hts hK hw hS (fun _ h => h) (As := [.int p0, .int (nI 0), .int (nI 1)]) (rest := []) (c_X5_isFromTo hcv (M0 := M) y1) cf_X5_isFromTo k_228 rfl rfl ⟨Nat.le_of_ble_eq_true rfl, Nat.le_of_ble_eq_true rfl⟩ rfl hl.1 rfl (Nat.le_of_ble_eq_true rfl) ⟨Nat.le_refl _, Nat.le_refl _⟩ dX5_next_3 (fun H locs hw hS => ?_)
    refine lv_if_ne (tgt := 12) hx hb dX5_next_6 (by decide) (fun q3 => ?_) (fun q3 => ?_)
    · replace h := t_neg h q3
      refine lv_aload_n hx hb dX5_next_12 rfl (lv_at hl 0 rfl) ?_
      refine r_get hx hb hts hown hK hw (v_mn (by decide)) rfl E_mn inX5 rfl 1 (by decide) k_206 rfl rfl dX5_next_13 ?_
      obtain ⟨r5, y4, h⟩ := t_b1 h
      refine c_vi hx hb hml hown hts hK hw hS (fun _ h => h) (As := []) (rest := []) (c_X4_nextBlock hcv (g := 0) (hg := (by decide)) (M0 := M) (m := M 0) (hm := rfl) y4) cf_X4_nextBlock k_297 rfl rfl ⟨Nat.le_of_ble_eq_true rfl, Nat.le_of_ble_eq_true rfl⟩ (r_recv hK hw (v_st (by decide) (by decide)) (E_st (by decide)) rfl) rfl hl.1 rfl (Nat.le_of_ble_eq_true rfl) ⟨Nat.le_refl _, Nat.le_refl _⟩ dX5_next_16 (fun H locs hw hS => ?_)
      refine lv_istore_n (lv' := [(2, .int r5), (0, .ref (ad 8 0)), (1, .int p0)]) hx hb dX5_next_19 rfl hl (by decide) rfl (fun ls hl => ?_)
      refine lv_aload_n hx hb dX5_next_20 rfl (lv_at hl 1 rfl) ?_
      refine r_get hx hb hts hown hK hw (v_mn (by decide)) rfl E_mn inX5 rfl 1 (by decide) k_206 rfl rfl dX5_next_21 ?_
      refine lv_iload_n hx hb dX5_next_24 rfl (lv_at hl 0 rfl) ?_
      obtain ⟨r7, y6, h⟩ := t_b1 h
      refine c_vi hx hb hml hown hts hK hw hS (fun _ h => h) (As := [.int r5]) (rest := []) (c_X4_hasBlock hcv (g := 0) (hg := (by decide)) (M0 := M) (m := M 0) (hm := rfl) y6) cf_X4_hasBlock k_351 rfl rfl ⟨Nat.le_of_ble_eq_true rfl, Nat.le_of_ble_eq_true rfl⟩ (r_recv hK hw (v_st (by decide) (by decide)) (E_st (by decide)) rfl) rfl hl.1 rfl (Nat.le_of_ble_eq_true rfl) ⟨Nat.le_refl _, Nat.le_refl _⟩ dX5_next_25 (fun H locs hw hS => ?_)
      refine lv_if_ne (tgt := 34) hx hb dX5_next_28 (by decide) (fun q8 => ?_) (fun q8 => ?_)
      · replace h := t_neg h q8
        refine lv_iload_n hx hb dX5_next_34 rfl (lv_at hl 2 rfl) ?_
        refine lv_if_ne (tgt := 42) hx hb dX5_next_35 (by decide) (fun q9 => ?_) (fun q9 => ?_)
        · replace h := t_neg h q9
          refine lv_aload_n hx hb dX5_next_42 rfl (lv_at hl 1 rfl) ?_
          refine r_get hx hb hts hown hK hw (v_mn (by decide)) rfl E_mn inX5 rfl 1 (by decide) k_206 rfl rfl dX5_next_43 ?_
          refine r_get hx hb hts hown hK hw (v_st (by decide) (by decide)) rfl (E_st (by decide)) inX4 rfl 0 (by decide) k_161 rfl rfl dX5_next_46 ?_
          refine lv_iload_n hx hb dX5_next_49 rfl (lv_at hl 0 rfl) ?_
          obtain ⟨q10, h⟩ := t_gd h
          refine r_aald hx hb hK hw (v_st (by decide) (by decide)) (t0 := 2) rfl (E_ba (by decide)) (v := .ref (ad 0 (3 + r5.toNatClampNeg))) rfl q10 dX5_next_50 ?_
          refine r_get hx hb hts hown hK hw (v_bk (by decide) (vin q10)) rfl (E_bk (by decide) (vin q10)) inX0 rfl 5 (by decide) k_90 rfl rfl dX5_next_51 ?_
          have e1 := Option.some.inj h
          exact e_i hx hb hr hlk hw hS e1 rfl dX5_next_54
        · replace h := t_pos h q9
          refine lv_iload_n hx hb dX5_next_38 rfl (lv_at hl 0 rfl) ?_
          refine lv_goto (tgt := 54) hx hb dX5_next_39 (by decide) ?_
          have e1 := Option.some.inj h
          exact e_i hx hb hr hlk hw hS e1 rfl dX5_next_54
      · replace h := t_pos h q8
        refine lv_bipush (v := -5) hx hb dX5_next_31 (by decide) ?_
        have e1 := Option.some.inj h
        exact e_i hx hb hr hlk hw hS e1 rfl dX5_next_33
    · replace h := t_pos h q3
      refine lv_bipush (v := -2) hx hb dX5_next_9 (by decide) ?_
      have e1 := Option.some.inj h
      exact e_i hx hb hr hlk hw hS e1 rfl dX5_next_11
  exact main _ _ hw hS ls hl

theorem cf_X5_stopsIn : cfV RX5 yX5_stopsIn cX5_stopsIn 4 (some .int) 1 := ⟨⟨k_380, k_381, k_1, k_382⟩, by decide +kernel⟩
def f_X5_stopsIn_L54 (p0 : Int32) : Nat → MM → Nat → Int32 → Option (Int32 × MM)
  | 0, _, _, _ => none
  | n + 1, M, i2, x3 => (if (nI 128) < x3 then some ((-5 : Int32), M) else bd (f_X4_readByPlan (M 1)) fun r3 m4 => lt1 (gs M 1 m4) fun M5 => (if r3 = (nI 0) then some ((-5 : Int32), M5) else (if (M5 1 (19 + i2) 4) = (nI 0) then f_X5_stopsIn_L54 p0 n M5 i2 (x3 + (nI 1)) else some (x3, M5))))
def f_X5_stopsIn (M : MM) (p0 : Int32) : Option (Int32 × MM) :=
  b1 (f_X4_hasQuestion (M 0) p0) fun r2 => (if r2 = (nI 0) then some ((-1 : Int32), M) else gd p0 6 ((if (M 0 (19 + p0.toNatClampNeg) 4) = (nI 0) then bd (f_X4_copyFrom (M 1) (M 0)) fun r7 m8 => lt1 (gs M 1 m8) fun M9 => gd p0 6 (f_X5_stopsIn_L54 p0 FU M9 p0.toNatClampNeg (nI 1)) else some ((-4 : Int32), M))))
set_option maxHeartbeats 4000000 in
set_option maxRecDepth 100000 in
theorem c_X5_stopsIn {l : Launch} {D : va_G} {cy : Nat → ClassId} {ad : Nat → Nat → Nat} (hcv : CV ad) {M : MM} {p0 : Int32} {r : Int32} {x : MM} (h : f_X5_stopsIn M p0 = some (r, x)) : Met l yX5_stopsIn (.code yX5_stopsIn cX5_stopsIn 4 (some .int) :: TB) ({ frames := 5, cells := 0, slots := 0, locals := 119 } : Room) (PW D cy ad M [.ref (ad 8 0), .int p0]) (QI D cy ad r x) 0 0 (AD ad) := by
  refine m_in (by decide +kernel) (Nat.le_of_ble_eq_true rfl) ?_
  intro p e s md args below meth c hC hw hS ls hl
  obtain ⟨hx, hb, hr, hml, hown, hts, hK, hlk⟩ := hC
  have hl : lv_has ls 4 [(0, .ref (ad 8 0)), (1, .int p0)] := hl
  have L54 : ∀ (n : Nat), ∀ (M : MM) (i2 : Nat) (hi2 : i2 < 6) (x3 : Int32), f_X5_stopsIn_L54 p0 n M i2 x3 = some (r, x) → JL p l e ({ frames := 5, cells := 0, slots := 0, locals := 119 } : Room) s md args below meth c D cy ad (MQ below (QI D cy ad r x) args s 0 0 (AD ad)) (M) 4 [(0, .ref (ad 8 0)), (2, .ref (ad 1 (19 + i2))), (3, .int x3)] 54 [] := by
    intro n
    induction n with
    | zero =>
      intro M i2 hi2 x3 h
      cases h
    | succ n ih =>
      intro M i2 hi2 x3 h H locs hw hS ls hl
      rw [f_X5_stopsIn_L54.eq_2] at h
      refine lv_iload_n hx hb dX5_stopsIn_54 rfl (lv_at hl 2 rfl) ?_
      refine lv_sipush (v := nI 128) hx hb dX5_stopsIn_55 (by decide) ?_
      refine lv_icmp_gt (tgt := 86) hx hb dX5_stopsIn_58 (by decide) (fun q1 => ?_) (fun q1 => ?_)
      · replace h := t_pos h q1
        refine lv_bipush (v := -5) hx hb dX5_stopsIn_86 (by decide) ?_
        have e1 := (t_ret h).1
        have e2 := (t_ret h).2
        exact e_i hx hb hr hlk hw hS e1 e2 dX5_stopsIn_88
      · replace h := t_neg h q1
        refine lv_aload_n hx hb dX5_stopsIn_61 rfl (lv_at hl 0 rfl) ?_
        refine r_get hx hb hts hown hK hw (v_mn (by decide)) rfl E_mn inX5 rfl 2 (by decide) k_207 rfl rfl dX5_stopsIn_62 ?_
        obtain ⟨r3, m4, y2, h⟩ := t_bd h
        obtain ⟨M5, e6, h⟩ := t_lt h
        refine c_vi hx hb hml hown hts hK hw hS (fun _ h => h) (As := []) (rest := []) (c_X4_readByPlan hcv (g := 1) (hg := (by decide)) (M0 := M) (m := M 1) (hm := rfl) y2) cf_X4_readByPlan k_318 rfl rfl ⟨Nat.le_of_ble_eq_true rfl, Nat.le_of_ble_eq_true rfl⟩ (r_recv hK hw (v_st (by decide) (by decide)) (E_st (by decide)) rfl) rfl hl.1 rfl (Nat.le_of_ble_eq_true rfl) ⟨Nat.le_refl _, Nat.le_refl _⟩ dX5_stopsIn_65 (fun H locs hw hS => ?_)
        rw [← e6] at hw
        refine lv_if_eq (tgt := 86) hx hb dX5_stopsIn_68 (by decide) (fun q7 => ?_) (fun q7 => ?_)
        · replace h := t_pos h q7
          refine lv_bipush (v := -5) hx hb dX5_stopsIn_86 (by decide) ?_
          have e1 := (t_ret h).1
          have e2 := (t_ret h).2
          exact e_i hx hb hr hlk hw hS e1 e2 dX5_stopsIn_88
        · replace h := t_neg h q7
          refine lv_aload_n hx hb dX5_stopsIn_71 rfl (lv_at hl 1 rfl) ?_
          refine r_get hx hb hts hown hK hw (v_qu (by decide) hi2) rfl (E_qu (by decide)) inX3 rfl 4 (by decide) k_134 rfl rfl dX5_stopsIn_72 ?_
          refine lv_if_eq (tgt := 80) hx hb dX5_stopsIn_75 (by decide) (fun q8 => ?_) (fun q8 => ?_)
          · replace h := t_pos h q8
            refine lv_iinc (v := (x3 + (nI 1))) (lv' := [(3, .int (x3 + (nI 1))), (0, .ref (ad 8 0)), (2, .ref (ad 1 (19 + i2)))]) hx hb dX5_stopsIn_80 hl (k := 2) rfl rfl (by decide) rfl (fun ls hl => ?_)
            refine lv_goto (tgt := 54) hx hb dX5_stopsIn_83 (by decide) ?_
            exact ih M5 i2 hi2 (x3 + (nI 1)) h H locs hw hS ls (lv_sub hl [1, 2, 0] rfl)
          · replace h := t_neg h q8
            refine lv_iload_n hx hb dX5_stopsIn_78 rfl (lv_at hl 2 rfl) ?_
            have e1 := (t_ret h).1
            have e2 := (t_ret h).2
            exact e_i hx hb hr hlk hw hS e1 e2 dX5_stopsIn_79
  unfold f_X5_stopsIn at h
  have main : JL p l e ({ frames := 5, cells := 0, slots := 0, locals := 119 } : Room) s md args below meth c D cy ad (MQ below (QI D cy ad r x) args s 0 0 (AD ad)) (M) 4 [(0, .ref (ad 8 0)), (1, .int p0)] 0 [] := by
    intro H locs hw hS ls hl
    refine lv_aload_n hx hb dX5_stopsIn_0 rfl (lv_at hl 0 rfl) ?_
    refine r_get hx hb hts hown hK hw (v_mn (by decide)) rfl E_mn inX5 rfl 1 (by decide) k_206 rfl rfl dX5_stopsIn_1 ?_
    refine lv_iload_n hx hb dX5_stopsIn_4 rfl (lv_at hl 1 rfl) ?_
    obtain ⟨r2, y1, h⟩ := t_b1 h
    refine c_vi hx hb hml hown hts hK hw hS (fun _ h => h) (As := [.int p0]) (rest := []) (c_X4_hasQuestion hcv (g := 0) (hg := (by decide)) (M0 := M) (m := M 0) (hm := rfl) y1) cf_X4_hasQuestion k_365 rfl rfl ⟨Nat.le_of_ble_eq_true rfl, Nat.le_of_ble_eq_true rfl⟩ (r_recv hK hw (v_st (by decide) (by decide)) (E_st (by decide)) rfl) rfl hl.1 rfl (Nat.le_of_ble_eq_true rfl) ⟨Nat.le_refl _, Nat.le_refl _⟩ dX5_stopsIn_5 (fun H locs hw hS => ?_)
    refine lv_if_ne (tgt := 13) hx hb dX5_stopsIn_8 (by decide) (fun q3 => ?_) (fun q3 => ?_)
    · replace h := t_neg h q3
      refine lv_aload_n hx hb dX5_stopsIn_13 rfl (lv_at hl 0 rfl) ?_
      refine r_get hx hb hts hown hK hw (v_mn (by decide)) rfl E_mn inX5 rfl 1 (by decide) k_206 rfl rfl dX5_stopsIn_14 ?_
      refine r_get hx hb hts hown hK hw (v_st (by decide) (by decide)) rfl (E_st (by decide)) inX4 rfl 1 (by decide) k_163 rfl rfl dX5_stopsIn_17 ?_
      refine lv_iload_n hx hb dX5_stopsIn_20 rfl (lv_at hl 1 rfl) ?_
      obtain ⟨q4, h⟩ := t_gd h
      refine r_aald hx hb hK hw (v_st (by decide) (by decide)) (t0 := 3) rfl (E_qa (by decide)) (v := .ref (ad 0 (19 + p0.toNatClampNeg))) rfl q4 dX5_stopsIn_21 ?_
      refine r_get hx hb hts hown hK hw (v_qu (by decide) (vin q4)) rfl (E_qu (by decide)) inX3 rfl 4 (by decide) k_134 rfl rfl dX5_stopsIn_22 ?_
      refine lv_if_eq (tgt := 31) hx hb dX5_stopsIn_25 (by decide) (fun q5 => ?_) (fun q5 => ?_)
      · replace h := t_pos h q5
        refine lv_aload_n hx hb dX5_stopsIn_31 rfl (lv_at hl 0 rfl) ?_
        refine r_get hx hb hts hown hK hw (v_mn (by decide)) rfl E_mn inX5 rfl 2 (by decide) k_207 rfl rfl dX5_stopsIn_32 ?_
        refine lv_aload_n hx hb dX5_stopsIn_35 rfl (lv_at hl 0 rfl) ?_
        refine r_get hx hb hts hown hK hw (v_mn (by decide)) rfl E_mn inX5 rfl 1 (by decide) k_206 rfl rfl dX5_stopsIn_36 ?_
        obtain ⟨r7, m8, y6, h⟩ := t_bd h
        obtain ⟨M9, e10, h⟩ := t_lt h
        refine c_vv hx hb hml hown hts hK hw hS (fun _ h => h) (As := [.ref (ad 0 0)]) (rest := []) (c_X4_copyFrom hcv (g := 1) (hg := (by decide)) (g2 := 0) (hg2 := (by decide)) (M0 := M) (m := M 1) (hm := rfl) (mz := M 0) (hne := by omega) (hm2 := rfl) y6) cf_X4_copyFrom k_383 rfl rfl ⟨Nat.le_of_ble_eq_true rfl, Nat.le_of_ble_eq_true rfl⟩ (r_recv hK hw (v_st (by decide) (by decide)) (E_st (by decide)) rfl) rfl hl.1 rfl (Nat.le_of_ble_eq_true rfl) ⟨Nat.le_refl _, Nat.le_refl _⟩ dX5_stopsIn_39 (fun H locs hw hS => ?_)
        rw [← e10] at hw
        refine lv_aload_n hx hb dX5_stopsIn_42 rfl (lv_at hl 0 rfl) ?_
        refine r_get hx hb hts hown hK hw (v_mn (by decide)) rfl E_mn inX5 rfl 2 (by decide) k_207 rfl rfl dX5_stopsIn_43 ?_
        refine r_get hx hb hts hown hK hw (v_st (by decide) (by decide)) rfl (E_st (by decide)) inX4 rfl 1 (by decide) k_163 rfl rfl dX5_stopsIn_46 ?_
        refine lv_iload_n hx hb dX5_stopsIn_49 rfl (lv_at hl 1 rfl) ?_
        obtain ⟨q11, h⟩ := t_gd h
        refine r_aald hx hb hK hw (v_st (by decide) (by decide)) (t0 := 3) rfl (E_qa (by decide)) (v := .ref (ad 1 (19 + p0.toNatClampNeg))) rfl q11 dX5_stopsIn_50 ?_
        refine lv_astore_n (lv' := [(2, .ref (ad 1 (19 + p0.toNatClampNeg))), (0, .ref (ad 8 0)), (1, .int p0)]) hx hb dX5_stopsIn_51 rfl hl (by decide) rfl (fun ls hl => ?_)
        refine lv_iconst (v := nI 1) hx hb dX5_stopsIn_52 (by decide) ?_
        refine lv_istore_n (lv' := [(3, .int (nI 1)), (2, .ref (ad 1 (19 + p0.toNatClampNeg))), (0, .ref (ad 8 0)), (1, .int p0)]) hx hb dX5_stopsIn_53 rfl hl (by decide) rfl (fun ls hl => ?_)
        exact L54 FU M9 p0.toNatClampNeg (vin q11) (nI 1) h H locs hw hS ls (lv_sub hl [2, 1, 0] rfl)
      · replace h := t_neg h q5
        refine lv_bipush (v := -4) hx hb dX5_stopsIn_28 (by decide) ?_
        have e1 := (t_ret h).1
        have e2 := (t_ret h).2
        exact e_i hx hb hr hlk hw hS e1 e2 dX5_stopsIn_30
    · replace h := t_pos h q3
      refine lv_iconst (v := -1) hx hb dX5_stopsIn_11 (by decide) ?_
      have e1 := (t_ret h).1
      have e2 := (t_ret h).2
      exact e_i hx hb hr hlk hw hS e1 e2 dX5_stopsIn_12
  exact main _ _ hw hS ls hl

theorem cf_X5_best : cfV RX5 yX5_best cX5_best 6 (some .int) 1 := ⟨⟨k_385, k_386, k_1, k_387⟩, by decide +kernel⟩
def f_X5_best_L98 (p0 : Int32) (M : MM) (x2 : Int32) (x3 : Int32) : Option (Int32 × MM) :=
  (if x2 = (-5 : Int32) then some ((-5 : Int32), M) else (if p0 = (nI 0) then some (x2, M) else some (x3, M)))
def f_X5_best_L35 (p0 : Int32) : Nat → MM → Int32 → Int32 → Int32 → Option (Int32 × MM)
  | 0, _, _, _, _ => none
  | n + 1, M, x2, x3, x4 => (if (nI 2) < x4 then f_X5_best_L98 p0 M x2 x3 else bd (f_X4_copyFrom (M 1) (M 0)) fun r3 m4 => lt1 (gs M 1 m4) fun M5 => lt1 (gs M5 1 (up (M5 1) 0 4 x4)) fun M8 => bd (f_X4_readWhileOpen (M8 1)) fun r10 m11 => lt1 (gs M8 1 m11) fun M12 => b1 (f_X4_openQuestions (M12 1)) fun r15 => (if r15 = (nI 0) then (if x3 ≤ r10 then f_X5_best_L35 p0 n M12 x2 x3 (x4 + (nI 1)) else f_X5_best_L35 p0 n M12 x4 r10 (x4 + (nI 1))) else f_X5_best_L35 p0 n M12 x2 x3 (x4 + (nI 1))))
def f_X5_best (M : MM) (p0 : Int32) : Option (Int32 × MM) :=
  b1 (f_X5_isFromTo p0 (nI 0) (nI 1)) fun r2 => (if r2 = (nI 0) then some ((-2 : Int32), M) else b1 (f_X4_openQuestions (M 0)) fun r5 => (if r5 = (nI 0) then some ((-4 : Int32), M) else f_X5_best_L35 p0 FU M (-5 : Int32) (nI 129) (nI 0)))
set_option maxHeartbeats 4000000 in
set_option maxRecDepth 100000 in
theorem c_X5_best {l : Launch} {D : va_G} {cy : Nat → ClassId} {ad : Nat → Nat → Nat} (hcv : CV ad) {M : MM} {p0 : Int32} {r : Int32} {x : MM} (h : f_X5_best M p0 = some (r, x)) : Met l yX5_best (.code yX5_best cX5_best 6 (some .int) :: TB) ({ frames := 6, cells := 0, slots := 0, locals := 141 } : Room) (PW D cy ad M [.ref (ad 8 0), .int p0]) (QI D cy ad r x) 0 0 (AD ad) := by
  refine m_in (by decide +kernel) (Nat.le_of_ble_eq_true rfl) ?_
  intro p e s md args below meth c hC hw hS ls hl
  obtain ⟨hx, hb, hr, hml, hown, hts, hK, hlk⟩ := hC
  have hl : lv_has ls 6 [(0, .ref (ad 8 0)), (1, .int p0)] := hl
  have L98 : ∀ (M : MM) (x2 : Int32) (x3 : Int32), f_X5_best_L98 p0 M x2 x3 = some (r, x) → JL p l e ({ frames := 6, cells := 0, slots := 0, locals := 141 } : Room) s md args below meth c D cy ad (MQ below (QI D cy ad r x) args s 0 0 (AD ad)) (M) 6 [(1, .int p0), (2, .int x2), (3, .int x3)] 98 [] := by
    intro M x2 x3 h H locs hw hS ls hl
    unfold f_X5_best_L98 at h
    refine lv_iload_n hx hb dX5_best_98 rfl (lv_at hl 1 rfl) ?_
    refine lv_bipush (v := -5) hx hb dX5_best_99 (by decide) ?_
    refine lv_icmp_ne (tgt := 107) hx hb dX5_best_101 (by decide) (fun q1 => ?_) (fun q1 => ?_)
    · replace h := t_neg h q1
      refine lv_iload_n hx hb dX5_best_107 rfl (lv_at hl 0 rfl) ?_
      refine lv_if_ne (tgt := 115) hx hb dX5_best_108 (by decide) (fun q2 => ?_) (fun q2 => ?_)
      · replace h := t_neg h q2
        refine lv_iload_n hx hb dX5_best_115 rfl (lv_at hl 2 rfl) ?_
        have e1 := (t_ret h).1
        have e2 := (t_ret h).2
        exact e_i hx hb hr hlk hw hS e1 e2 dX5_best_116
      · replace h := t_pos h q2
        refine lv_iload_n hx hb dX5_best_111 rfl (lv_at hl 1 rfl) ?_
        refine lv_goto (tgt := 116) hx hb dX5_best_112 (by decide) ?_
        have e1 := (t_ret h).1
        have e2 := (t_ret h).2
        exact e_i hx hb hr hlk hw hS e1 e2 dX5_best_116
    · replace h := t_pos h q1
      refine lv_bipush (v := -5) hx hb dX5_best_104 (by decide) ?_
      have e1 := (t_ret h).1
      have e2 := (t_ret h).2
      exact e_i hx hb hr hlk hw hS e1 e2 dX5_best_106
  have L35 : ∀ (n : Nat), ∀ (M : MM) (x2 : Int32) (x3 : Int32) (x4 : Int32), f_X5_best_L35 p0 n M x2 x3 x4 = some (r, x) → JL p l e ({ frames := 6, cells := 0, slots := 0, locals := 141 } : Room) s md args below meth c D cy ad (MQ below (QI D cy ad r x) args s 0 0 (AD ad)) (M) 6 [(0, .ref (ad 8 0)), (1, .int p0), (2, .int x2), (3, .int x3), (4, .int x4)] 35 [] := by
    intro n
    induction n with
    | zero =>
      intro M x2 x3 x4 h
      cases h
    | succ n ih =>
      intro M x2 x3 x4 h H locs hw hS ls hl
      rw [f_X5_best_L35.eq_2] at h
      refine lv_iload hx hb dX5_best_35 (lv_at hl 4 rfl) ?_
      refine lv_iconst (v := nI 2) hx hb dX5_best_37 (by decide) ?_
      refine lv_icmp_gt (tgt := 98) hx hb dX5_best_38 (by decide) (fun q1 => ?_) (fun q1 => ?_)
      · replace h := t_pos h q1
        exact L98 M x2 x3 h H locs hw hS ls (lv_sub hl [1, 2, 3] rfl)
      · replace h := t_neg h q1
        refine lv_aload_n hx hb dX5_best_41 rfl (lv_at hl 0 rfl) ?_
        refine r_get hx hb hts hown hK hw (v_mn (by decide)) rfl E_mn inX5 rfl 2 (by decide) k_207 rfl rfl dX5_best_42 ?_
        refine lv_aload_n hx hb dX5_best_45 rfl (lv_at hl 0 rfl) ?_
        refine r_get hx hb hts hown hK hw (v_mn (by decide)) rfl E_mn inX5 rfl 1 (by decide) k_206 rfl rfl dX5_best_46 ?_
        obtain ⟨r3, m4, y2, h⟩ := t_bd h
        obtain ⟨M5, e6, h⟩ := t_lt h
        refine c_vv hx hb hml hown hts hK hw hS (fun _ h => h) (As := [.ref (ad 0 0)]) (rest := []) (c_X4_copyFrom hcv (g := 1) (hg := (by decide)) (g2 := 0) (hg2 := (by decide)) (M0 := M) (m := M 1) (hm := rfl) (mz := M 0) (hne := by omega) (hm2 := rfl) y2) cf_X4_copyFrom k_383 rfl rfl ⟨Nat.le_of_ble_eq_true rfl, Nat.le_of_ble_eq_true rfl⟩ (r_recv hK hw (v_st (by decide) (by decide)) (E_st (by decide)) rfl) rfl hl.1 rfl (Nat.le_of_ble_eq_true rfl) ⟨Nat.le_refl _, Nat.le_refl _⟩ dX5_best_49 (fun H locs hw hS => ?_)
        rw [← e6] at hw
        refine lv_aload_n hx hb dX5_best_52 rfl (lv_at hl 0 rfl) ?_
        refine r_get hx hb hts hown hK hw (v_mn (by decide)) rfl E_mn inX5 rfl 2 (by decide) k_207 rfl rfl dX5_best_53 ?_
        refine lv_iload hx hb dX5_best_56 (lv_at hl 4 rfl) ?_
        obtain ⟨M8, e7, h⟩ := t_lt h
        refine r_put hx hb hts hown hK hcv hw hS (v_st (by decide) (by decide)) rfl (E_st (by decide)) inX4 rfl tyX4 tyX4_ok nmX4 4 (by decide) k_169 rfl rfl rfl rfl (Nat.le_of_ble_eq_true rfl) (E_st (by decide)) e7.symm dX5_best_58 (fun H locs hw hS => ?_)
        refine lv_aload_n hx hb dX5_best_61 rfl (lv_at hl 0 rfl) ?_
        refine r_get hx hb hts hown hK hw (v_mn (by decide)) rfl E_mn inX5 rfl 2 (by decide) k_207 rfl rfl dX5_best_62 ?_
        obtain ⟨r10, m11, y9, h⟩ := t_bd h
        obtain ⟨M12, e13, h⟩ := t_lt h
        refine c_vi hx hb hml hown hts hK hw hS (fun _ h => h) (As := []) (rest := []) (c_X4_readWhileOpen hcv (g := 1) (hg := (by decide)) (M0 := M8) (m := M8 1) (hm := rfl) y9) cf_X4_readWhileOpen k_341 rfl rfl ⟨Nat.le_of_ble_eq_true rfl, Nat.le_of_ble_eq_true rfl⟩ (r_recv hK hw (v_st (by decide) (by decide)) (E_st (by decide)) rfl) rfl hl.1 rfl (Nat.le_of_ble_eq_true rfl) ⟨Nat.le_refl _, Nat.le_refl _⟩ dX5_best_65 (fun H locs hw hS => ?_)
        rw [← e13] at hw
        refine lv_istore (lv' := [(5, .int r10), (0, .ref (ad 8 0)), (1, .int p0), (2, .int x2), (3, .int x3), (4, .int x4)]) hx hb dX5_best_68 hl (by decide) rfl (fun ls hl => ?_)
        refine lv_aload_n hx hb dX5_best_70 rfl (lv_at hl 1 rfl) ?_
        refine r_get hx hb hts hown hK hw (v_mn (by decide)) rfl E_mn inX5 rfl 2 (by decide) k_207 rfl rfl dX5_best_71 ?_
        obtain ⟨r15, y14, h⟩ := t_b1 h
        refine c_vi hx hb hml hown hts hK hw hS (fun _ h => h) (As := []) (rest := []) (c_X4_openQuestions hcv (g := 1) (hg := (by decide)) (M0 := M12) (m := M12 1) (hm := rfl) y14) cf_X4_openQuestions k_337 rfl rfl ⟨Nat.le_of_ble_eq_true rfl, Nat.le_of_ble_eq_true rfl⟩ (r_recv hK hw (v_st (by decide) (by decide)) (E_st (by decide)) rfl) rfl hl.1 rfl (Nat.le_of_ble_eq_true rfl) ⟨Nat.le_refl _, Nat.le_refl _⟩ dX5_best_74 (fun H locs hw hS => ?_)
        refine lv_if_ne (tgt := 92) hx hb dX5_best_77 (by decide) (fun q16 => ?_) (fun q16 => ?_)
        · replace h := t_neg h q16
          refine lv_iinc (v := (x4 + (nI 1))) (lv' := [(4, .int (x4 + (nI 1))), (5, .int r10), (0, .ref (ad 8 0)), (1, .int p0), (2, .int x2), (3, .int x3)]) hx hb dX5_best_92 hl (k := 5) rfl rfl (by decide) rfl (fun ls hl => ?_)
          refine lv_goto (tgt := 35) hx hb dX5_best_95 (by decide) ?_
          exact ih M12 x2 x3 (x4 + (nI 1)) h H locs hw hS ls (lv_sub hl [2, 3, 4, 5, 0] rfl)
        · replace h := t_pos h q16
          refine lv_iload hx hb dX5_best_80 (lv_at hl 0 rfl) ?_
          refine lv_iload_n hx hb dX5_best_82 rfl (lv_at hl 4 rfl) ?_
          refine lv_icmp_ge (tgt := 92) hx hb dX5_best_83 (by decide) (fun q17 => ?_) (fun q17 => ?_)
          · replace h := t_pos h q17
            refine lv_iinc (v := (x4 + (nI 1))) (lv' := [(4, .int (x4 + (nI 1))), (5, .int r10), (0, .ref (ad 8 0)), (1, .int p0), (2, .int x2), (3, .int x3)]) hx hb dX5_best_92 hl (k := 5) rfl rfl (by decide) rfl (fun ls hl => ?_)
            refine lv_goto (tgt := 35) hx hb dX5_best_95 (by decide) ?_
            exact ih M12 x2 x3 (x4 + (nI 1)) h H locs hw hS ls (lv_sub hl [2, 3, 4, 5, 0] rfl)
          · replace h := t_neg h q17
            refine lv_iload hx hb dX5_best_86 (lv_at hl 5 rfl) ?_
            refine lv_istore_n (lv' := [(2, .int x4), (5, .int r10), (0, .ref (ad 8 0)), (1, .int p0), (3, .int x3), (4, .int x4)]) hx hb dX5_best_88 rfl hl (by decide) rfl (fun ls hl => ?_)
            refine lv_iload hx hb dX5_best_89 (lv_at hl 1 rfl) ?_
            refine lv_istore_n (lv' := [(3, .int r10), (2, .int x4), (5, .int r10), (0, .ref (ad 8 0)), (1, .int p0), (4, .int x4)]) hx hb dX5_best_91 rfl hl (by decide) rfl (fun ls hl => ?_)
            refine lv_iinc (v := (x4 + (nI 1))) (lv' := [(4, .int (x4 + (nI 1))), (3, .int r10), (2, .int x4), (5, .int r10), (0, .ref (ad 8 0)), (1, .int p0)]) hx hb dX5_best_92 hl (k := 5) rfl rfl (by decide) rfl (fun ls hl => ?_)
            refine lv_goto (tgt := 35) hx hb dX5_best_95 (by decide) ?_
            exact ih M12 x4 r10 (x4 + (nI 1)) h H locs hw hS ls (lv_sub hl [4, 5, 2, 1, 0] rfl)
  unfold f_X5_best at h
  have main : JL p l e ({ frames := 6, cells := 0, slots := 0, locals := 141 } : Room) s md args below meth c D cy ad (MQ below (QI D cy ad r x) args s 0 0 (AD ad)) (M) 6 [(0, .ref (ad 8 0)), (1, .int p0)] 0 [] := by
    intro H locs hw hS ls hl
    refine lv_iload_n hx hb dX5_best_0 rfl (lv_at hl 1 rfl) ?_
    refine lv_iconst (v := nI 0) hx hb dX5_best_1 (by decide) ?_
    refine lv_iconst (v := nI 1) hx hb dX5_best_2 (by decide) ?_
    obtain ⟨r2, y1, h⟩ := t_b1 h
    refine c_si hx hb hml hown hts hK hw hS (fun _ h => h) (As := [.int p0, .int (nI 0), .int (nI 1)]) (rest := []) (c_X5_isFromTo hcv (M0 := M) y1) cf_X5_isFromTo k_228 rfl rfl ⟨Nat.le_of_ble_eq_true rfl, Nat.le_of_ble_eq_true rfl⟩ rfl hl.1 rfl (Nat.le_of_ble_eq_true rfl) ⟨Nat.le_refl _, Nat.le_refl _⟩ dX5_best_3 (fun H locs hw hS => ?_)
    refine lv_if_ne (tgt := 12) hx hb dX5_best_6 (by decide) (fun q3 => ?_) (fun q3 => ?_)
    · replace h := t_neg h q3
      refine lv_aload_n hx hb dX5_best_12 rfl (lv_at hl 0 rfl) ?_
      refine r_get hx hb hts hown hK hw (v_mn (by decide)) rfl E_mn inX5 rfl 1 (by decide) k_206 rfl rfl dX5_best_13 ?_
      obtain ⟨r5, y4, h⟩ := t_b1 h
      refine c_vi hx hb hml hown hts hK hw hS (fun _ h => h) (As := []) (rest := []) (c_X4_openQuestions hcv (g := 0) (hg := (by decide)) (M0 := M) (m := M 0) (hm := rfl) y4) cf_X4_openQuestions k_337 rfl rfl ⟨Nat.le_of_ble_eq_true rfl, Nat.le_of_ble_eq_true rfl⟩ (r_recv hK hw (v_st (by decide) (by decide)) (E_st (by decide)) rfl) rfl hl.1 rfl (Nat.le_of_ble_eq_true rfl) ⟨Nat.le_refl _, Nat.le_refl _⟩ dX5_best_16 (fun H locs hw hS => ?_)
      refine lv_if_ne (tgt := 25) hx hb dX5_best_19 (by decide) (fun q6 => ?_) (fun q6 => ?_)
      · replace h := t_neg h q6
        refine lv_bipush (v := -5) hx hb dX5_best_25 (by decide) ?_
        refine lv_istore_n (lv' := [(2, .int (-5 : Int32)), (0, .ref (ad 8 0)), (1, .int p0)]) hx hb dX5_best_27 rfl hl (by decide) rfl (fun ls hl => ?_)
        refine lv_sipush (v := nI 129) hx hb dX5_best_28 (by decide) ?_
        refine lv_istore_n (lv' := [(3, .int (nI 129)), (2, .int (-5 : Int32)), (0, .ref (ad 8 0)), (1, .int p0)]) hx hb dX5_best_31 rfl hl (by decide) rfl (fun ls hl => ?_)
        refine lv_iconst (v := nI 0) hx hb dX5_best_32 (by decide) ?_
        refine lv_istore (lv' := [(4, .int (nI 0)), (3, .int (nI 129)), (2, .int (-5 : Int32)), (0, .ref (ad 8 0)), (1, .int p0)]) hx hb dX5_best_33 hl (by decide) rfl (fun ls hl => ?_)
        exact L35 FU M (-5 : Int32) (nI 129) (nI 0) h H locs hw hS ls (lv_sub hl [3, 4, 2, 1, 0] rfl)
      · replace h := t_pos h q6
        refine lv_bipush (v := -4) hx hb dX5_best_22 (by decide) ?_
        have e1 := (t_ret h).1
        have e2 := (t_ret h).2
        exact e_i hx hb hr hlk hw hS e1 e2 dX5_best_24
    · replace h := t_pos h q3
      refine lv_bipush (v := -2) hx hb dX5_best_9 (by decide) ?_
      have e1 := (t_ret h).1
      have e2 := (t_ret h).2
      exact e_i hx hb hr hlk hw hS e1 e2 dX5_best_11
  exact main _ _ hw hS ls hl

theorem cf_X5_count : cfV RX5 yX5_count cX5_count 2 (some .int) 1 := ⟨⟨k_389, k_390, k_1, k_391⟩, by decide +kernel⟩
def f_X5_count (M : MM) (p0 : Int32) : Option (Int32) :=
  (if p0 = (nI 0) then some (M 0 0 2) else (if p0 = (nI 1) then some (M 0 0 3) else (if p0 = (nI 2) then b1 (f_X4_openQuestions (M 0)) fun r15 => some r15 else (if p0 = (nI 3) then some (M 0 0 4) else (if p0 = (nI 4) then b1 (f_X4_rows (M 0) (nI 15)) fun r13 => some r13 else (if p0 = (nI 5) then b1 (f_X4_readRows (M 0) (nI 15)) fun r11 => some r11 else (if p0 = (nI 6) then some (M 0 0 5) else (if p0 = (nI 7) then some (M 8 1 2) else (if p0 = (nI 8) then some (M 7 0 2) else (some (-2 : Int32)))))))))))
set_option maxHeartbeats 4000000 in
set_option maxRecDepth 100000 in
theorem c_X5_count {l : Launch} {D : va_G} {cy : Nat → ClassId} {ad : Nat → Nat → Nat} (hcv : CV ad) {M : MM} {p0 : Int32} {r : Int32} (h : f_X5_count M p0 = some r) : Met l yX5_count (.code yX5_count cX5_count 2 (some .int) :: TB) ({ frames := 2, cells := 0, slots := 0, locals := 44 } : Room) (PW D cy ad M [.ref (ad 8 0), .int p0]) (QI D cy ad r M) 0 0 (AD ad) := by
  refine m_in (by decide +kernel) (Nat.le_of_ble_eq_true rfl) ?_
  intro p e s md args below meth c hC hw hS ls hl
  obtain ⟨hx, hb, hr, hml, hown, hts, hK, hlk⟩ := hC
  have hl : lv_has ls 2 [(0, .ref (ad 8 0)), (1, .int p0)] := hl
  unfold f_X5_count at h
  have main : JL p l e ({ frames := 2, cells := 0, slots := 0, locals := 44 } : Room) s md args below meth c D cy ad (MQ below (QI D cy ad r M) args s 0 0 (AD ad)) (M) 2 [(0, .ref (ad 8 0)), (1, .int p0)] 0 [] := by
    intro H locs hw hS ls hl
    refine lv_iload_n hx hb dX5_count_0 rfl (lv_at hl 1 rfl) ?_
    by_cases q1 : p0 = (nI 0)
    · replace h := t_pos h q1
      refine lv_tableIn (off := 51) (tgt := 52) hx hb dX5_count_1 (by rw [q1]; decide) (by rw [q1]; decide) (by rw [q1]; rfl) (by decide) ?_
      refine lv_aload_n hx hb dX5_count_52 rfl (lv_at hl 0 rfl) ?_
      refine r_get hx hb hts hown hK hw (v_mn (by decide)) rfl E_mn inX5 rfl 1 (by decide) k_206 rfl rfl dX5_count_53 ?_
      refine r_get hx hb hts hown hK hw (v_st (by decide) (by decide)) rfl (E_st (by decide)) inX4 rfl 2 (by decide) k_165 rfl rfl dX5_count_56 ?_
      have e1 := Option.some.inj h
      exact e_i hx hb hr hlk hw hS e1 rfl dX5_count_59
    · replace h := t_neg h q1
      by_cases q2 : p0 = (nI 1)
      · replace h := t_pos h q2
        refine lv_tableIn (off := 59) (tgt := 60) hx hb dX5_count_1 (by rw [q2]; decide) (by rw [q2]; decide) (by rw [q2]; rfl) (by decide) ?_
        refine lv_aload_n hx hb dX5_count_60 rfl (lv_at hl 0 rfl) ?_
        refine r_get hx hb hts hown hK hw (v_mn (by decide)) rfl E_mn inX5 rfl 1 (by decide) k_206 rfl rfl dX5_count_61 ?_
        refine r_get hx hb hts hown hK hw (v_st (by decide) (by decide)) rfl (E_st (by decide)) inX4 rfl 3 (by decide) k_167 rfl rfl dX5_count_64 ?_
        have e1 := Option.some.inj h
        exact e_i hx hb hr hlk hw hS e1 rfl dX5_count_67
      · replace h := t_neg h q2
        by_cases q3 : p0 = (nI 2)
        · replace h := t_pos h q3
          refine lv_tableIn (off := 67) (tgt := 68) hx hb dX5_count_1 (by rw [q3]; decide) (by rw [q3]; decide) (by rw [q3]; rfl) (by decide) ?_
          refine lv_aload_n hx hb dX5_count_68 rfl (lv_at hl 0 rfl) ?_
          refine r_get hx hb hts hown hK hw (v_mn (by decide)) rfl E_mn inX5 rfl 1 (by decide) k_206 rfl rfl dX5_count_69 ?_
          obtain ⟨r15, y14, h⟩ := t_b1 h
          refine c_vi hx hb hml hown hts hK hw hS (fun _ h => h) (As := []) (rest := []) (c_X4_openQuestions hcv (g := 0) (hg := (by decide)) (M0 := M) (m := M 0) (hm := rfl) y14) cf_X4_openQuestions k_337 rfl rfl ⟨Nat.le_of_ble_eq_true rfl, Nat.le_of_ble_eq_true rfl⟩ (r_recv hK hw (v_st (by decide) (by decide)) (E_st (by decide)) rfl) rfl hl.1 rfl (Nat.le_of_ble_eq_true rfl) ⟨Nat.le_refl _, Nat.le_refl _⟩ dX5_count_72 (fun H locs hw hS => ?_)
          have e1 := Option.some.inj h
          exact e_i hx hb hr hlk hw hS e1 rfl dX5_count_75
        · replace h := t_neg h q3
          by_cases q4 : p0 = (nI 3)
          · replace h := t_pos h q4
            refine lv_tableIn (off := 75) (tgt := 76) hx hb dX5_count_1 (by rw [q4]; decide) (by rw [q4]; decide) (by rw [q4]; rfl) (by decide) ?_
            refine lv_aload_n hx hb dX5_count_76 rfl (lv_at hl 0 rfl) ?_
            refine r_get hx hb hts hown hK hw (v_mn (by decide)) rfl E_mn inX5 rfl 1 (by decide) k_206 rfl rfl dX5_count_77 ?_
            refine r_get hx hb hts hown hK hw (v_st (by decide) (by decide)) rfl (E_st (by decide)) inX4 rfl 4 (by decide) k_169 rfl rfl dX5_count_80 ?_
            have e1 := Option.some.inj h
            exact e_i hx hb hr hlk hw hS e1 rfl dX5_count_83
          · replace h := t_neg h q4
            by_cases q5 : p0 = (nI 4)
            · replace h := t_pos h q5
              refine lv_tableIn (off := 83) (tgt := 84) hx hb dX5_count_1 (by rw [q5]; decide) (by rw [q5]; decide) (by rw [q5]; rfl) (by decide) ?_
              refine lv_aload_n hx hb dX5_count_84 rfl (lv_at hl 0 rfl) ?_
              refine r_get hx hb hts hown hK hw (v_mn (by decide)) rfl E_mn inX5 rfl 1 (by decide) k_206 rfl rfl dX5_count_85 ?_
              refine lv_bipush (v := nI 15) hx hb dX5_count_88 (by decide) ?_
              obtain ⟨r13, y12, h⟩ := t_b1 h
              refine c_vi hx hb hml hown hts hK hw hS (fun _ h => h) (As := [.int (nI 15)]) (rest := []) (c_X4_rows hcv (g := 0) (hg := (by decide)) (M0 := M) (m := M 0) (hm := rfl) y12) cf_X4_rows k_370 rfl rfl ⟨Nat.le_of_ble_eq_true rfl, Nat.le_of_ble_eq_true rfl⟩ (r_recv hK hw (v_st (by decide) (by decide)) (E_st (by decide)) rfl) rfl hl.1 rfl (Nat.le_of_ble_eq_true rfl) ⟨Nat.le_refl _, Nat.le_refl _⟩ dX5_count_90 (fun H locs hw hS => ?_)
              have e1 := Option.some.inj h
              exact e_i hx hb hr hlk hw hS e1 rfl dX5_count_93
            · replace h := t_neg h q5
              by_cases q6 : p0 = (nI 5)
              · replace h := t_pos h q6
                refine lv_tableIn (off := 93) (tgt := 94) hx hb dX5_count_1 (by rw [q6]; decide) (by rw [q6]; decide) (by rw [q6]; rfl) (by decide) ?_
                refine lv_aload_n hx hb dX5_count_94 rfl (lv_at hl 0 rfl) ?_
                refine r_get hx hb hts hown hK hw (v_mn (by decide)) rfl E_mn inX5 rfl 1 (by decide) k_206 rfl rfl dX5_count_95 ?_
                refine lv_bipush (v := nI 15) hx hb dX5_count_98 (by decide) ?_
                obtain ⟨r11, y10, h⟩ := t_b1 h
                refine c_vi hx hb hml hown hts hK hw hS (fun _ h => h) (As := [.int (nI 15)]) (rest := []) (c_X4_readRows hcv (g := 0) (hg := (by decide)) (M0 := M) (m := M 0) (hm := rfl) y10) cf_X4_readRows k_371 rfl rfl ⟨Nat.le_of_ble_eq_true rfl, Nat.le_of_ble_eq_true rfl⟩ (r_recv hK hw (v_st (by decide) (by decide)) (E_st (by decide)) rfl) rfl hl.1 rfl (Nat.le_of_ble_eq_true rfl) ⟨Nat.le_refl _, Nat.le_refl _⟩ dX5_count_100 (fun H locs hw hS => ?_)
                have e1 := Option.some.inj h
                exact e_i hx hb hr hlk hw hS e1 rfl dX5_count_103
              · replace h := t_neg h q6
                by_cases q7 : p0 = (nI 6)
                · replace h := t_pos h q7
                  refine lv_tableIn (off := 103) (tgt := 104) hx hb dX5_count_1 (by rw [q7]; decide) (by rw [q7]; decide) (by rw [q7]; rfl) (by decide) ?_
                  refine lv_aload_n hx hb dX5_count_104 rfl (lv_at hl 0 rfl) ?_
                  refine r_get hx hb hts hown hK hw (v_mn (by decide)) rfl E_mn inX5 rfl 1 (by decide) k_206 rfl rfl dX5_count_105 ?_
                  refine r_get hx hb hts hown hK hw (v_st (by decide) (by decide)) rfl (E_st (by decide)) inX4 rfl 5 (by decide) k_171 rfl rfl dX5_count_108 ?_
                  have e1 := Option.some.inj h
                  exact e_i hx hb hr hlk hw hS e1 rfl dX5_count_111
                · replace h := t_neg h q7
                  by_cases q8 : p0 = (nI 7)
                  · replace h := t_pos h q8
                    refine lv_tableIn (off := 111) (tgt := 112) hx hb dX5_count_1 (by rw [q8]; decide) (by rw [q8]; decide) (by rw [q8]; rfl) (by decide) ?_
                    refine lv_aload_n hx hb dX5_count_112 rfl (lv_at hl 0 rfl) ?_
                    refine r_get hx hb hts hown hK hw (v_mn (by decide)) rfl E_mn inX5 rfl 4 (by decide) k_209 rfl rfl dX5_count_113 ?_
                    refine r_get hx hb hts hown hK hw (v_mn (by decide)) rfl E_hi inX2 rfl 2 (by decide) k_197 rfl rfl dX5_count_116 ?_
                    have e1 := Option.some.inj h
                    exact e_i hx hb hr hlk hw hS e1 rfl dX5_count_119
                  · replace h := t_neg h q8
                    by_cases q9 : p0 = (nI 8)
                    · replace h := t_pos h q9
                      refine lv_tableIn (off := 119) (tgt := 120) hx hb dX5_count_1 (by rw [q9]; decide) (by rw [q9]; decide) (by rw [q9]; rfl) (by decide) ?_
                      refine lv_aload_n hx hb dX5_count_120 rfl (lv_at hl 0 rfl) ?_
                      refine r_get hx hb hts hown hK hw (v_mn (by decide)) rfl E_mn inX5 rfl 0 (by decide) k_205 rfl rfl dX5_count_121 ?_
                      refine r_get hx hb hts hown hK hw (v_tx (by decide)) rfl E_tx inX1 rfl 2 (by decide) k_27 rfl rfl dX5_count_124 ?_
                      have e1 := Option.some.inj h
                      exact e_i hx hb hr hlk hw hS e1 rfl dX5_count_127
                    · replace h := t_neg h q9
                      refine lv_tableOut (tgt := 128) hx hb dX5_count_1 (tab_out (lo := 0) (n := 9) (by decide) (lt_s (lt_s (lt_s (lt_s (lt_s (lt_s (lt_s (lt_s (lt_s lt_0 q1) q2) q3) q4) q5) q6) q7) q8) q9)) (by decide) ?_
                      refine lv_bipush (v := -2) hx hb dX5_count_128 (by decide) ?_
                      have e1 := Option.some.inj h
                      exact e_i hx hb hr hlk hw hS e1 rfl dX5_count_130
  exact main _ _ hw hS ls hl

