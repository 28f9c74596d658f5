/-! ROWS over the world: an instruction's row turns W behind it into W at it -/
section WR
variable {p : Program} {l : Launch} {e : Env} {R : Room} {s : State} {m : MethodId} {args : Array Value} {below : List Frame} {meth : Method} {c : Code} {H : Heap} {locs : List Loc} {cells slots : Nat} {Q : State → Prop}
variable {cc : ByteArray} {pc : Nat} {ls : Array Slot} {rest : List Value} {D : va_G} {cy : Nat → ClassId} {ad : Nat → Nat → Nat} {M : MM} {g c' : Nat} {f : Nat → Int32}
theorem r_get (hx : p.tables.exec = Jvm.exec) (hb : c.code = cc) (hts : ∀ w ∈ TB, w.before args s = true) {own ref C : String} (hown : s.vm.findClass own = some m.cls) (hK : KD D cy s) (hw : WH D cy ad M H) (hq : (g, c') ∈ vids) (hf : M g c' = f) {ci N index : Nat} {fs : List Value} {T : u_T} (hE : E cy ad (g, c') f = .inr (ci, fs)) (hin : ∀ w ∈ u_ws C T N, w ∈ TB) (hc : vwCl[ci]? = some (C, T, N)) (k : Nat) (hk : k < N) (hl : Cond.fieldLink own index ref (T k).2.1 (T k).2.2.1 ∈ TB) (hsame : ref = (T k).1) {v : Value} (hv : fs[k]? = some v) (hdg : decode cc pc = .ok (.getfield index, 3))
    (kk : W p l e R s m args below meth c H locs cells slots Q (F0 m (pc + 3) ls (v :: rest))) : W p l e R s m args below meth c H locs cells slots Q (F0 m pc ls (.ref (ad g c') :: rest)) := by
  obtain ⟨n, h1, -⟩ := wl_at (cy := cy) (ad := ad) (M := M) hq
  rw [hf, hE] at h1
  exact va_get (D := D) hx hb hts hin hown hK.1 hw n h1 hc k hk (hts _ hl) (fun x hx => by rw [hsame]; exact hx) hv hdg kk
theorem r_put (hx : p.tables.exec = Jvm.exec) (hb : c.code = cc) (hts : ∀ w ∈ TB, w.before args s = true) {own ref C : String} (hown : s.vm.findClass own = some m.cls) (hK : KD D cy s) (hcv : CV ad) (hw : WH D cy ad M H) (hS : va_S (AD ad) s.heap H locs) (hq : (g, c') ∈ vids) (hf : M g c' = f) {ci N index : Nat} {fs : List Value} {T : u_T} (hE : E cy ad (g, c') f = .inr (ci, fs)) (hin : ∀ w ∈ u_ws C T N, w ∈ TB) (hc : vwCl[ci]? = some (C, T, N)) (ty0 : Nat → FieldType) (hty : ∀ k, k < N → parseFieldDescriptor (T k).2.2.1 = some (ty0 k)) (hnm : ∀ a, a < N → ∀ b, b < N → a ≠ b → (T a).2.1 ≠ (T b).2.1) (k : Nat) (hk : k < N) (hl : Cond.fieldLink own index ref (T k).2.1 (T k).2.2.1 ∈ TB) (hsame : ref = (T k).1) (hfin : (T k).2.2.2 = false) {v : Int32} (hn : narrow (ty0 k) (.int v) = .int v) (hfit : fits (ty0 k) (.int v) = true) (hlen : k < fs.length) (hE2 : E cy ad (g, c') (upd f k v) = .inr (ci, fs.set k (.int v))) {M2 : MM} (hM2 : gs M g (up (M g) c' k v) = M2) (hdg : decode cc pc = .ok (.putfield index, 3))
    (kk : ∀ (H1 : Heap) (locs1 : List Loc), WH D cy ad M2 H1 → va_S (AD ad) s.heap H1 locs1 → W p l e R s m args below meth c H1 locs1 cells slots Q (F0 m (pc + 3) ls rest)) : W p l e R s m args below meth c H locs cells slots Q (F0 m pc ls (.int v :: .ref (ad g c') :: rest)) := by
  obtain ⟨n, h1, h2⟩ := wl_at (cy := cy) (ad := ad) (M := M) hq
  rw [hf, hE] at h1
  refine va_put (D := D) (ty := ty0 k) hx hb hts hin ty0 hty hnm hown hK.1 hw (wl_D hcv) hS n h1 hc k hk (hts _ hl) (fun x hx => by rw [hsame]; exact hx) hfin (hty k hk) hn hfit hlen hdg (fun H1 locs1 hP hD hS1 => ?_)
  refine kk H1 locs1 ?_ hS1
  rw [← hE2, wl_set h2] at hP
  rw [← hM2, up_sc, hf]
  exact hP
theorem r_iald (hx : p.tables.exec = Jvm.exec) (hb : c.code = cc) (hK : KD D cy s) (hw : WH D cy ad M H) (hq : (g, c') ∈ vids) (hf : M g c' = f) {n : Nat} (hE : E cy ad (g, c') f = .inl (cy 0, n, .inl f)) {i : Int32} (hin : vp_in i n) (hdg : decode cc pc = .ok (.iaload, 1))
    (kk : W p l e R s m args below meth c H locs cells slots Q (F0 m (pc + 1) ls (.int (f i.toNatClampNeg) :: rest))) : W p l e R s m args below meth c H locs cells slots Q (F0 m pc ls (.int i :: .ref (ad g c') :: rest)) := by
  obtain ⟨k, h1, -⟩ := wl_at (cy := cy) (ad := ad) (M := M) hq
  rw [hf, hE] at h1
  exact va_iald (D := D) hx hb hK.1 hw k 0 h1 rfl hin hdg kk
theorem r_cald (hx : p.tables.exec = Jvm.exec) (hb : c.code = cc) (hK : KD D cy s) (hw : WH D cy ad M H) (hq : (g, c') ∈ vids) (hf : M g c' = f) {n : Nat} (hE : E cy ad (g, c') f = .inl (cy 1, n, .inl f)) {i : Int32} (hin : vp_in i n) (hdg : decode cc pc = .ok (.caload, 1))
    (kk : W p l e R s m args below meth c H locs cells slots Q (F0 m (pc + 1) ls (.int (f i.toNatClampNeg) :: rest))) : W p l e R s m args below meth c H locs cells slots Q (F0 m pc ls (.int i :: .ref (ad g c') :: rest)) := by
  obtain ⟨k, h1, -⟩ := wl_at (cy := cy) (ad := ad) (M := M) hq
  rw [hf, hE] at h1
  exact va_cald (D := D) hx hb hK.1 hw k 1 h1 rfl hin hdg kk
theorem r_aald (hx : p.tables.exec = Jvm.exec) (hb : c.code = cc) (hK : KD D cy s) (hw : WH D cy ad M H) (hq : (g, c') ∈ vids) {n t0 : Nat} {C : String} {fr : Nat → Option Nat} (ht : (tyl cy)[t0]? = some (cy t0, .object C)) (hE : E cy ad (g, c') (M g c') = .inl (cy t0, n, rfs fr)) {i : Int32} {v : Value} (hv : va_rf (fr i.toNatClampNeg) = v) (hin : vp_in i n) (hdg : decode cc pc = .ok (.aaload, 1))
    (kk : W p l e R s m args below meth c H locs cells slots Q (F0 m (pc + 1) ls (v :: rest))) : W p l e R s m args below meth c H locs cells slots Q (F0 m pc ls (.int i :: .ref (ad g c') :: rest)) := by
  obtain ⟨k, h1, -⟩ := wl_at (cy := cy) (ad := ad) (M := M) hq
  rw [hE] at h1
  subst hv
  exact va_aldq (D := D) hx hb hK.1 hw k t0 h1 ht hin hdg kk
theorem r_iast (hx : p.tables.exec = Jvm.exec) (hb : c.code = cc) (hK : KD D cy s) (hcv : CV ad) (hw : WH D cy ad M H) (hS : va_S (AD ad) s.heap H locs) (hq : (g, c') ∈ vids) (hf : M g c' = f) {n : Nat} (hE : ∀ f, E cy ad (g, c') f = .inl (cy 0, n, .inl f)) {i x : Int32} (hin : vp_in i n) {M2 : MM} (hM2 : gs M g (up (M g) c' i.toNatClampNeg x) = M2) (hdg : decode cc pc = .ok (.iastore, 1))
    (kk : ∀ (H1 : Heap) (locs1 : List Loc), WH D cy ad M2 H1 → va_S (AD ad) s.heap H1 locs1 → W p l e R s m args below meth c H1 locs1 cells slots Q (F0 m (pc + 1) ls rest)) : W p l e R s m args below meth c H locs cells slots Q (F0 m pc ls (.int x :: .int i :: .ref (ad g c') :: rest)) := by
  obtain ⟨k, h1, h2⟩ := wl_at (cy := cy) (ad := ad) (M := M) hq
  rw [hf, hE] at h1
  refine va_iast (D := D) hx hb hK.1 hw (wl_D hcv) hS k 0 h1 rfl hin hdg (fun H1 locs1 hP hD hS1 => ?_)
  refine kk H1 locs1 ?_ hS1
  rw [← hE, wl_set h2] at hP
  rw [← hM2, up_sc, hf]
  exact hP
theorem r_cast (hx : p.tables.exec = Jvm.exec) (hb : c.code = cc) (hK : KD D cy s) (hcv : CV ad) (hw : WH D cy ad M H) (hS : va_S (AD ad) s.heap H locs) (hq : (g, c') ∈ vids) (hf : M g c' = f) {n : Nat} (hE : ∀ f, E cy ad (g, c') f = .inl (cy 1, n, .inl f)) {i x : Int32} (hin : vp_in i n) {M2 : MM} (hM2 : gs M g (up (M g) c' i.toNatClampNeg (vp_nar .char x)) = M2) (hdg : decode cc pc = .ok (.castore, 1))
    (kk : ∀ (H1 : Heap) (locs1 : List Loc), WH D cy ad M2 H1 → va_S (AD ad) s.heap H1 locs1 → W p l e R s m args below meth c H1 locs1 cells slots Q (F0 m (pc + 1) ls rest)) : W p l e R s m args below meth c H locs cells slots Q (F0 m pc ls (.int x :: .int i :: .ref (ad g c') :: rest)) := by
  obtain ⟨k, h1, h2⟩ := wl_at (cy := cy) (ad := ad) (M := M) hq
  rw [hf, hE] at h1
  refine va_cast (D := D) hx hb hK.1 hw (wl_D hcv) hS k 1 h1 rfl hin hdg (fun H1 locs1 hP hD hS1 => ?_)
  refine kk H1 locs1 ?_ hS1
  rw [← hE, wl_set h2] at hP
  rw [← hM2, up_sc, hf]
  exact hP
/-- System.arraycopy between two int rows -/
theorem r_copy (hx : p.tables.exec = Jvm.exec) (hb : c.code = cc) (hts : ∀ w ∈ TB, w.before args s = true) (hml : c.maxLocals = ls.size) {own : String} {index : Nat} (hown : s.vm.findClass own = some m.cls) (hl : Cond.methodLink own index arraycopyName ∈ TB) (hnat : Cond.native arraycopyName ∈ TB) (hstat : Cond.static arraycopyName ∈ TB) (hini : Cond.initialized "java/lang/System" ∈ TB)
    (hK : KD D cy s) (hcv : CV ad) (hw : WH D cy ad M H) (hS : va_S (AD ad) s.heap H locs) {g2 c2 n0 n1 : Nat} {f2 : Nat → Int32} (hq : (g, c') ∈ vids) (hf : M g c' = f) (hE : ∀ f, E cy ad (g, c') f = .inl (cy 0, n1, .inl f)) (hq2 : (g2, c2) ∈ vids) (hf2 : M g2 c2 = f2) (hE2 : ∀ f, E cy ad (g2, c2) f = .inl (cy 0, n0, .inl f))
    {sp dp n : Int32} (h1 : ¬ sp < 0) (h2 : ¬ dp < 0) (h3 : ¬ n < 0) (h4 : sp.toNatClampNeg + n.toNatClampNeg ≤ n0) (h5 : dp.toNatClampNeg + n.toNatClampNeg ≤ n1)
    (hframes : 1 ≤ R.frames) (hwords : (rest.map fun v => v.category).sum + (nativeFrameWords "java/lang/System" "arraycopy" 5 + 11) ≤ R.locals) {M2 : MM} (hM2 : gs M g (sc (M g) c' (va_cpy f2 f sp.toNatClampNeg dp.toNatClampNeg n.toNatClampNeg)) = M2) (hdg : decode cc pc = .ok (.invokestatic index, 3))
    (kk : ∀ (H1 : Heap) (locs1 : List Loc), WH D cy ad M2 H1 → va_S (AD ad) s.heap H1 locs1 → W p l e R s m args below meth c H1 locs1 cells slots Q (F0 m (pc + 3) ls rest)) : W p l e R s m args below meth c H locs cells slots Q (F0 m pc ls (.int n :: .int dp :: .ref (ad g c') :: .int sp :: .ref (ad g2 c2) :: rest)) := by
  obtain ⟨k, q1, q2⟩ := wl_at (cy := cy) (ad := ad) (M := M) hq
  obtain ⟨k2, q3, q4⟩ := wl_at (cy := cy) (ad := ad) (M := M) hq2
  rw [hf, hE] at q1
  rw [hf2, hE2] at q3
  refine va_copyi (D := D) hx hb hml hown (hts _ hl) (hts _ hnat) (hts _ hstat) (hts _ hini) hK.1 hw (wl_D hcv) hS k2 k 0 0 q3 q1 rfl rfl rfl h1 h2 h3 h4 h5 (fun _ _ => rfl) hframes hwords hdg (fun H1 locs1 hP hD hS1 => ?_)
  refine kk H1 locs1 ?_ hS1
  rw [← hE, wl_set q2] at hP
  rw [← hM2]
  exact hP
theorem r_min (hx : p.tables.exec = Jvm.exec) (hb : c.code = cc) (hts : ∀ w ∈ TB, w.before args s = true) (hml : c.maxLocals = ls.size) {own : String} {index : Nat} (hown : s.vm.findClass own = some m.cls) (hl : Cond.methodLink own index Lib.Math.min.name ∈ TB) (hstat : Cond.static Lib.Math.min.name ∈ TB) (hini : Cond.initialized "java/lang/Math" ∈ TB) (hcode : Cond.code Lib.Math.min.name Lib.Math.min.code 2 (some .int) ∈ TB) (hframes : 1 ≤ R.frames) (hwords : (rest.map fun v => v.category).sum + 13 ≤ R.locals) (hc : cells ≤ R.cells) (hs : slots ≤ R.slots) {x y : Int32} (hdg : decode cc pc = .ok (.invokestatic index, 3))
    (kk : W p l e R s m args below meth c H locs cells slots Q (F0 m (pc + 3) ls (.int (mn x y) :: rest))) : W p l e R s m args below meth c H locs cells slots Q (F0 m pc ls (.int y :: .int x :: rest)) :=
  va_mmin hx hb hml hown (hts _ hl) (hts _ hstat) (hts _ hini) (hts _ hcode) hframes hwords hc hs hdg kk
theorem r_max (hx : p.tables.exec = Jvm.exec) (hb : c.code = cc) (hts : ∀ w ∈ TB, w.before args s = true) (hml : c.maxLocals = ls.size) {own : String} {index : Nat} (hown : s.vm.findClass own = some m.cls) (hl : Cond.methodLink own index Lib.Math.max.name ∈ TB) (hstat : Cond.static Lib.Math.max.name ∈ TB) (hini : Cond.initialized "java/lang/Math" ∈ TB) (hcode : Cond.code Lib.Math.max.name Lib.Math.max.code 2 (some .int) ∈ TB) (hframes : 1 ≤ R.frames) (hwords : (rest.map fun v => v.category).sum + 13 ≤ R.locals) (hc : cells ≤ R.cells) (hs : slots ≤ R.slots) {x y : Int32} (hdg : decode cc pc = .ok (.invokestatic index, 3))
    (kk : W p l e R s m args below meth c H locs cells slots Q (F0 m (pc + 3) ls (.int (mx x y) :: rest))) : W p l e R s m args below meth c H locs cells slots Q (F0 m pc ls (.int y :: .int x :: rest)) :=
  va_mmax hx hb hml hown (hts _ hl) (hts _ hstat) (hts _ hini) (hts _ hcode) hframes hwords hc hs hdg kk
/-- a switch's way out: none of its places -/
theorem tab_out {x : Int32} {lo n : Nat} (hn : lo + n < 2 ^ 31) (h : ∀ k, k < n → ¬ x = Int32.ofNat (lo + k)) : x.toInt < (lo : Int) ∨ (lo : Int) + (n : Int) - 1 < x.toInt := by
  by_cases h1 : x.toInt < lo
  · exact Or.inl h1
  · by_cases h2 : (lo : Int) + (n : Int) - 1 < x.toInt
    · exact Or.inr h2
    · exfalso
      have h3 : x.toInt.toNat - lo < n := by omega
      refine h (x.toInt.toNat - lo) h3 ?_
      have e : lo + (x.toInt.toNat - lo) = x.toInt.toNat := by omega
      rw [e]
      apply Int32.toInt_inj.mp
      have e2 : (Int32.ofNat x.toInt.toNat).toInt = (x.toInt.toNat : Int) := toInt_of rfl (by omega)
      rw [e2]
      omega
end WR
/-! CONTRACTS: what a method asks and answers, over the world -/
def PW (D : va_G) (cy : Nat → ClassId) (ad : Nat → Nat → Nat) (M : MM) (av : List Value) : Array Value → State → Prop := va_Pc av (fun U => WH D cy ad M U.heap ∧ KD D cy U)
def QI (D : va_G) (cy : Nat → ClassId) (ad : Nat → Nat → Nat) (r : Int32) (M : MM) : Array Value → State → Outcome → State → Prop := va_Qi (fun r' (_ : Unit) => r' = r) (fun _ t => WH D cy ad M t.heap) (AD ad)
def QV (D : va_G) (cy : Nat → ClassId) (ad : Nat → Nat → Nat) (M : MM) : Array Value → State → Outcome → State → Prop := va_Qv (fun _ : Unit => True) (fun _ t => WH D cy ad M t.heap) (AD ad)
theorem PW_blind {D : va_G} {cy : Nat → ClassId} {ad : Nat → Nat → Nat} {M : MM} {av : List Value} : FrameBlind (PW D cy ad M av) := fun a U g mk q => by
  obtain ⟨q1, q2, q3, q4⟩ := q
  exact ⟨q1, q2, va_K.moved (u := U) (U := U.calling g mk a) (Vm.Alike.refl U.vm) q3, NX.same (u := U) (U := U.calling g mk a) rfl q4⟩
theorem gV {own C : String} {idx n : Nat} {y : MethodName} {b : ByteArray} {ret : Option FieldType} (h1 : Cond.methodLink own idx y ∈ TB) (h2 : Cond.instanceMethod y ∈ TB) (h3 : Cond.selects C y y ∈ TB) (h4 : Cond.initialized C ∈ TB) (h5 : Cond.code y b n ret ∈ TB) : GoodIn TB (wsV own idx C y (.code y b n ret :: TB)) := by
  intro w hw
  have hm : w ∈ TB := by
    rcases List.mem_append.mp hw with h | h
    · simp only [List.mem_cons, List.not_mem_nil, or_false] at h
      rcases h with rfl | rfl | rfl | rfl
      · exact h1
      · exact h2
      · exact h3
      · exact h4
    · rcases List.mem_cons.mp h with rfl | h
      · exact h5
      · exact h
  exact ⟨hm, good_of_word (TB_good w hm)⟩
theorem gC {n : Nat} {y : MethodName} {b : ByteArray} {ret : Option FieldType} (h5 : Cond.code y b n ret ∈ TB) : GoodIn TB (.code y b n ret :: TB) := by
  intro w hw
  have hm : w ∈ TB := by
    rcases List.mem_cons.mp hw with rfl | h
    · exact h5
    · exact h
  exact ⟨hm, good_of_word (TB_good w hm)⟩
theorem gS {own : String} {idx n : Nat} {y : MethodName} {b : ByteArray} {ret : Option FieldType} (h1 : Cond.methodLink own idx y ∈ TB) (h2 : Cond.static y ∈ TB) (h4 : Cond.initialized own ∈ TB) (h5 : Cond.code y b n ret ∈ TB) : GoodIn TB (wsS own idx y (.code y b n ret :: TB)) := by
  intro w hw
  have hm : w ∈ TB := by
    rcases List.mem_append.mp hw with h | h
    · simp only [List.mem_cons, List.not_mem_nil, or_false] at h
      rcases h with rfl | rfl | rfl
      · exact h1
      · exact h2
      · exact h4
    · rcases List.mem_cons.mp h with rfl | h
      · exact h5
      · exact h
  exact ⟨hm, good_of_word (TB_good w hm)⟩
/-- what the tables say of a method -/
def cfV (C : String) (y : MethodName) (b : ByteArray) (nL : Nat) (ret : Option FieldType) (n : Nat) : Prop := (Cond.instanceMethod y ∈ TB ∧ Cond.selects C y y ∈ TB ∧ Cond.initialized C ∈ TB ∧ Cond.code y b nL ret ∈ TB) ∧ (y.cls = C ∧ y.cls ≠ "java/lang/invoke/MethodHandle" ∧ y.cls ≠ "java/lang/invoke/VarHandle" ∧ (parseMethodDescriptor y.desc).map (fun d => d.parameters.length) = some n)
def cfS (C : String) (y : MethodName) (b : ByteArray) (nL : Nat) (ret : Option FieldType) (n : Nat) : Prop := (Cond.static y ∈ TB ∧ Cond.initialized C ∈ TB ∧ Cond.code y b nL ret ∈ TB) ∧ (y.cls = C ∧ y.cls ≠ "java/lang/invoke/MethodHandle" ∧ y.cls ≠ "java/lang/invoke/VarHandle" ∧ (parseMethodDescriptor y.desc).map (fun d => d.parameters.length) = some n)
section WC
variable {p : Program} {l : Launch} {e : Env} {R : Room} {s : State} {m : MethodId} {args : Array Value} {below : List Frame} {meth : Method} {c : Code} {H : Heap} {locs : List Loc} {cells slots : Nat} {Q : State → Prop}
variable {cc : ByteArray} {pc : Nat} {ls : Array Slot} {rest st0 As : List Value} {D : va_G} {cy : Nat → ClassId} {ad : Nat → Nat → Nat} {M M2 : MM} {g c' : Nat} {A0 : Nat → Prop}
variable {y : MethodName} {bytes : ByteArray} {maxL nL n index : Nat} {ret : Option FieldType} {rm : Room} {own C : String} {r : Int32}
theorem r_recv (hK : KD D cy s) (hw : WH D cy ad M H) (hq : (g, c') ∈ vids) {ci N : Nat} {fs : List Value} {T : u_T} (hE : E cy ad (g, c') (M g c') = .inr (ci, fs)) (hc : vwCl[ci]? = some (C, T, N)) : ∃ cell : Cell, H[ad g c']? = some cell ∧ cell.vm.isStatics = false ∧ s.vm.findClass C = some cell.cls := by
  obtain ⟨n, h1, -⟩ := wl_at (cy := cy) (ad := ad) (M := M) hq
  rw [hE] at h1
  exact va_recv hK.1 hw hc h1
theorem c_vi (hx : p.tables.exec = Jvm.exec) (hb : c.code = cc) (hml : c.maxLocals = nL) (hown : s.vm.findClass own = some m.cls) (hts : ∀ w ∈ TB, w.before args s = true) (hK : KD D cy s) (hw : WH D cy ad M H) (hS : va_S A0 s.heap H locs) (hA : ∀ q, AD ad q → A0 q) {b : Nat} (hM : Met l y (.code y bytes maxL ret :: TB) rm (PW D cy ad M (.ref b :: As)) (QI D cy ad r M2) 0 0 (AD ad)) (cf : cfV C y bytes maxL ret n) (hl : Cond.methodLink own index y ∈ TB) (hrc : rm.cells = 0) (hrs : rm.slots = 0) (hR : rm.frames + 1 ≤ R.frames ∧ 8 + (maxL + 11) + rm.locals ≤ R.locals)
    (hrv : ∃ cell : Cell, H[b]? = some cell ∧ cell.vm.isStatics = false ∧ s.vm.findClass C = some cell.cls) (hn : As.length = n) (hls : ls.size = nL) (hst : st0 = As.reverse ++ .ref b :: rest) (hW : (rest.map fun v => v.category).sum ≤ 8) (hroom : cells + 0 ≤ R.cells ∧ slots + 0 ≤ R.slots) (hdg : decode cc pc = .ok (.invokevirtual index, 3))
    (kk : ∀ (H1 : Heap) (locs1 : List Loc), WH D cy ad M2 H1 → va_S A0 s.heap H1 locs1 → W p l e R s m args below meth c H1 locs1 cells slots Q (F0 m (pc + 3) ls (.int r :: rest))) : W p l e R s m args below meth c H locs cells slots Q (F0 m pc ls st0) := by
  obtain ⟨⟨i1, i2, i3, i4⟩, hd⟩ := cf
  refine va_calli (cells := cells) (slots := slots) (va_runV (As := As) (rest := rest) (Ts := TB) ⟨hx, hb, hml, hown, hts⟩ hM (cwV n hts (gV hl i1 i2 i3 i4) rfl hrc hrs hd hR) ⟨PW_blind, hrv, fun U hU hW => ⟨rfl, by rw [hU]; exact hw, hK.warm hW⟩⟩ rfl hn hls hst (lv_room hW) hdg hroom) hS (fun q _ h => hA q h) hA (fun r1 u t H1 locs1 ht hvm hr hB hz hk hS1 => ?_)
  have hr : r1 = r := hr
  subst hr
  exact kk H1 locs1 (by rw [← ht]; exact hB) hS1
theorem c_vv (hx : p.tables.exec = Jvm.exec) (hb : c.code = cc) (hml : c.maxLocals = nL) (hown : s.vm.findClass own = some m.cls) (hts : ∀ w ∈ TB, w.before args s = true) (hK : KD D cy s) (hw : WH D cy ad M H) (hS : va_S A0 s.heap H locs) (hA : ∀ q, AD ad q → A0 q) {b : Nat} (hM : Met l y (.code y bytes maxL ret :: TB) rm (PW D cy ad M (.ref b :: As)) (QV D cy ad M2) 0 0 (AD ad)) (cf : cfV C y bytes maxL ret n) (hl : Cond.methodLink own index y ∈ TB) (hrc : rm.cells = 0) (hrs : rm.slots = 0) (hR : rm.frames + 1 ≤ R.frames ∧ 8 + (maxL + 11) + rm.locals ≤ R.locals)
    (hrv : ∃ cell : Cell, H[b]? = some cell ∧ cell.vm.isStatics = false ∧ s.vm.findClass C = some cell.cls) (hn : As.length = n) (hls : ls.size = nL) (hst : st0 = As.reverse ++ .ref b :: rest) (hW : (rest.map fun v => v.category).sum ≤ 8) (hroom : cells + 0 ≤ R.cells ∧ slots + 0 ≤ R.slots) (hdg : decode cc pc = .ok (.invokevirtual index, 3))
    (kk : ∀ (H1 : Heap) (locs1 : List Loc), WH D cy ad M2 H1 → va_S A0 s.heap H1 locs1 → W p l e R s m args below meth c H1 locs1 cells slots Q (F0 m (pc + 3) ls rest)) : W p l e R s m args below meth c H locs cells slots Q (F0 m pc ls st0) := by
  obtain ⟨⟨i1, i2, i3, i4⟩, hd⟩ := cf
  refine va_callv (cells := cells) (slots := slots) (va_runV (As := As) (rest := rest) (Ts := TB) ⟨hx, hb, hml, hown, hts⟩ hM (cwV n hts (gV hl i1 i2 i3 i4) rfl hrc hrs hd hR) ⟨PW_blind, hrv, fun U hU hW => ⟨rfl, by rw [hU]; exact hw, hK.warm hW⟩⟩ rfl hn hls hst (lv_room hW) hdg hroom) hS (fun q _ h => hA q h) hA (fun u t H1 locs1 ht hvm hr hB hz hk hS1 => ?_)
  exact kk H1 locs1 (by rw [← ht]; exact hB) hS1
/-- a static method of the same class -/
theorem c_si (hx : p.tables.exec = Jvm.exec) (hb : c.code = cc) (hml : c.maxLocals = nL) (hown : s.vm.findClass own = some m.cls) (hts : ∀ w ∈ TB, w.before args s = true) (hK : KD D cy s) (hw : WH D cy ad M H) (hS : va_S A0 s.heap H locs) (hA : ∀ q, AD ad q → A0 q) (hM : Met l y (.code y bytes maxL ret :: TB) rm (PW D cy ad M As) (QI D cy ad r M2) 0 0 (AD ad)) (cf : cfS own y bytes maxL ret n) (hl : Cond.methodLink own index y ∈ TB) (hrc : rm.cells = 0) (hrs : rm.slots = 0) (hR : rm.frames + 1 ≤ R.frames ∧ 8 + (maxL + 11) + rm.locals ≤ R.locals)
    (hn : As.length = n) (hls : ls.size = nL) (hst : st0 = As.reverse ++ rest) (hW : (rest.map fun v => v.category).sum ≤ 8) (hroom : cells + 0 ≤ R.cells ∧ slots + 0 ≤ R.slots) (hdg : decode cc pc = .ok (.invokestatic index, 3))
    (kk : ∀ (H1 : Heap) (locs1 : List Loc), WH D cy ad M2 H1 → va_S A0 s.heap H1 locs1 → W p l e R s m args below meth c H1 locs1 cells slots Q (F0 m (pc + 3) ls (.int r :: rest))) : W p l e R s m args below meth c H locs cells slots Q (F0 m pc ls st0) := by
  obtain ⟨⟨i1, i3, i4⟩, hd⟩ := cf
  refine va_calli (cells := cells) (slots := slots) (va_runS (As := As) (rest := rest) (Ts := TB) ⟨hx, hb, hml, hown, hts⟩ hM (cwS n hts (gS hl i1 i3 i4) rfl hrc hrs hd hR) ⟨PW_blind, fun U hU hW => ⟨rfl, by rw [hU]; exact hw, hK.warm hW⟩⟩ rfl hn hls hst (lv_room hW) hdg hroom) hS (fun q _ h => hA q h) hA (fun r1 u t H1 locs1 ht hvm hr hB hz hk hS1 => ?_)
  have hr : r1 = r := hr
  subst hr
  exact kk H1 locs1 (by rw [← ht]; exact hB) hS1
/-- a private static method of a nest mate -/
theorem c_sn (hx : p.tables.exec = Jvm.exec) (hb : c.code = cc) (hml : c.maxLocals = nL) (hown : s.vm.findClass own = some m.cls) (hts : ∀ w ∈ TB, w.before args s = true) (hK : KD D cy s) (hw : WH D cy ad M H) (hS : va_S A0 s.heap H locs) (hA : ∀ q, AD ad q → A0 q) (hM : Met l y (.code y bytes maxL ret :: TB) rm (PW D cy ad M As) (QI D cy ad r M2) 0 0 (AD ad)) {host : String} (cf : cfS C y bytes maxL ret n) (hl : Cond.methodLinkNest own index y host ∈ NXL) (hrc : rm.cells = 0) (hrs : rm.slots = 0) (hR : rm.frames + 1 ≤ R.frames ∧ 8 + (maxL + 11) + rm.locals ≤ R.locals)
    (hn : As.length = n) (hls : ls.size = nL) (hst : st0 = As.reverse ++ rest) (hW : (rest.map fun v => v.category).sum ≤ 8) (hroom : cells + 0 ≤ R.cells ∧ slots + 0 ≤ R.slots) (hdg : decode cc pc = .ok (.invokestatic index, 3))
    (kk : ∀ (H1 : Heap) (locs1 : List Loc), WH D cy ad M2 H1 → va_S A0 s.heap H1 locs1 → W p l e R s m args below meth c H1 locs1 cells slots Q (F0 m (pc + 3) ls (.int r :: rest))) : W p l e R s m args below meth c H locs cells slots Q (F0 m pc ls st0) := by
  obtain ⟨⟨i1, i3, i4⟩, hC, hd⟩ := cf
  subst hC
  refine va_calli (cells := cells) (slots := slots) (va_runSN (As := As) (rest := rest) (Ts := TB) ⟨hx, hb, hml, hown, hts⟩ hM ⟨va_cnB n hts (gC i4) rfl hrc hrs (hK.2 _ hl) (hts _ i3) hd hR, hts _ i1, trivial⟩ ⟨PW_blind, fun U hU hW => ⟨rfl, by rw [hU]; exact hw, hK.warm hW⟩⟩ rfl hn hls hst (lv_room hW) hdg hroom) hS (fun q _ h => hA q h) hA (fun r1 u t H1 locs1 ht hvm hr hB hz hk hS1 => ?_)
  have hr : r1 = r := hr
  subst hr
  exact kk H1 locs1 (by rw [← ht]; exact hB) hS1
/-- from a place of a method, with this memory, these locals, this stack -/
def JL (p : Program) (l : Launch) (e : Env) (R : Room) (s : State) (m : MethodId) (args : Array Value) (below : List Frame) (meth : Method) (c : Code) (D : va_G) (cy : Nat → ClassId) (ad : Nat → Nat → Nat) (Q : State → Prop) (M : MM) (nL : Nat) (lv : List (Nat × Value)) (pc : Nat) (st : List Value) : Prop :=
  ∀ (H : Heap) (locs : List Loc), WH D cy ad M H → va_S (AD ad) s.heap H locs → ∀ ls : Array Slot, lv_has ls nL lv → W p l e R s m args below meth c H locs 0 0 Q (F0 m pc ls st)
/-- a method's entry -/
theorem m_in {av : List Value} {Qc : Array Value → State → Outcome → State → Prop} (hy : plainName y.cls = true) (hml : (lg_sl av).length ≤ maxL) (body : ∀ (p : Program) (e : Env) (s : State) (m : MethodId) (args : Array Value) (below : List Frame) (meth : Method) (c : Code), (p.tables.exec = Jvm.exec ∧ c.code = bytes ∧ meth.sig.returnType = ret ∧ c.maxLocals = maxL ∧ s.vm.findClass y.cls = some m.cls ∧ (∀ w ∈ TB, w.before args s = true) ∧ KD D cy s ∧ meth.locks = false) → WH D cy ad M s.heap → va_S (AD ad) s.heap s.heap [] → ∀ ls : Array Slot, lv_has ls maxL (lv_args 0 av) → W p l e rm s m args below meth c s.heap [] 0 0 (MQ below Qc args s 0 0 (AD ad)) (F0 m 0 ls [])) : Met l y (.code y bytes maxL ret :: TB) rm (PW D cy ad M av) Qc 0 0 (AD ad) := by
  refine Met.ofW (cc := bytes) (maxL := maxL) (ret := ret) hy rfl ?_
  intro p e s m args below meth c s₁ B hml0 hv
  obtain ⟨rfl, hP, hK⟩ := hv
  have hts := atoms_spec (ws := .code y bytes maxL ret :: TB) B.pre
  have hl := lv_entry av (n := maxL) hml
  rw [lg_entry_eq]
  exact body p e s m _ below meth c ⟨B.exec, B.bytes, B.returns, hml0, findClass_of_methodNamed B.named, fun w hw => hts w (List.mem_cons_of_mem _ hw), hK, B.notSynchronized⟩ hP va_S.rf _ hl
theorem e_i {v : Int32} (hx : p.tables.exec = Jvm.exec) (hb : c.code = cc) (hr : meth.sig.returnType = some .int) (hlk : meth.locks = false) (hw : WH D cy ad M H) (hS : va_S (AD ad) s.heap H locs) (er : v = r) (eM : M = M2) (hdg : decode cc pc = .ok (.ireturn, 1)) : W p l e R s m args below meth c H locs cells slots (MQ below (QI D cy ad r M2) args s cells slots (AD ad)) (F0 m pc ls [.int v]) := by
  subst er
  subst eM
  exact W.iret hx hb hr (fun t ht hW => ⟨⟨v, (), rfl, rfl, by show WH _ _ _ _ t.heap; rw [ht]; exact hw⟩, hS.F ht⟩) hS.2.2 hdg hlk
theorem e_z {v : Int32} (hx : p.tables.exec = Jvm.exec) (hb : c.code = cc) (hr : meth.sig.returnType = some .boolean) (hlk : meth.locks = false) (hz : v = 0 ∨ v = 1) (hw : WH D cy ad M H) (hS : va_S (AD ad) s.heap H locs) (er : v = r) (eM : M = M2) (hdg : decode cc pc = .ok (.ireturn, 1)) : W p l e R s m args below meth c H locs cells slots (MQ below (QI D cy ad r M2) args s cells slots (AD ad)) (F0 m pc ls [.int v]) := by
  subst er
  subst eM
  exact W.zret hx hb hr (nar_z hz) (fun t ht hW => ⟨⟨v, (), rfl, rfl, by show WH _ _ _ _ t.heap; rw [ht]; exact hw⟩, hS.F ht⟩) hS.2.2 hdg hlk
theorem e_v (hx : p.tables.exec = Jvm.exec) (hb : c.code = cc) (hr : meth.sig.returnType = none) (hlk : meth.locks = false) (hw : WH D cy ad M H) (hS : va_S (AD ad) s.heap H locs) (eM : M = M2) (hdg : decode cc pc = .ok (.return_, 1)) : W p l e R s m args below meth c H locs cells slots (MQ below (QV D cy ad M2) args s cells slots (AD ad)) (F0 m pc ls []) := by
  subst eM
  exact W.vret hx hb hr (fun t ht hW => ⟨⟨(), rfl, trivial, by show WH _ _ _ _ t.heap; rw [ht]; exact hw⟩, hS.F ht⟩) hS.2.2 hdg hlk
end WC
/-! WITH A SCRIPT: a method of the law that reads its script; the script is an old row that nobody writes -/
def PX (D : va_G) (cy : Nat → ClassId) (ad : Nat → Nat → Nat) (M : MM) (b L : Nat) (xs : Nat → Int32) (av : List Value) : Array Value → State → Prop := va_Pc av (fun U => (WH D cy ad M U.heap ∧ KD D cy U) ∧ va_X b L xs U U.heap ∧ b < U.heap.size)
theorem PX_blind {D : va_G} {cy : Nat → ClassId} {ad : Nat → Nat → Nat} {M : MM} {b L : Nat} {xs : Nat → Int32} {av : List Value} : FrameBlind (PX D cy ad M b L xs av) := fun a U g mk q => by
  obtain ⟨q1, ⟨q2, q3, q4⟩, q5, q6⟩ := q
  exact ⟨q1, ⟨q2, va_K.moved (u := U) (U := U.calling g mk a) (Vm.Alike.refl U.vm) q3, NX.same (u := U) (U := U.calling g mk a) rfl q4⟩, va_X.moved (u := U) (U := U.calling g mk a) (Vm.Alike.refl U.vm) q5, q6⟩
section WX
variable {p : Program} {l : Launch} {e : Env} {R : Room} {s : State} {m : MethodId} {args : Array Value} {below : List Frame} {meth : Method} {c : Code} {H : Heap} {locs : List Loc} {cells slots : Nat} {Q : State → Prop}
variable {cc : ByteArray} {pc : Nat} {ls : Array Slot} {rest st0 As : List Value} {D : va_G} {cy : Nat → ClassId} {ad : Nat → Nat → Nat} {M M2 : MM} {g c' : Nat} {A0 : Nat → Prop} {f : Nat → Int32}
variable {y : MethodName} {bytes : ByteArray} {maxL nL n index : Nat} {ret : Option FieldType} {rm : Room} {own C : String} {r : Int32}
/-- a static method of the law that reads the script -/
theorem c_six (hx : p.tables.exec = Jvm.exec) (hb : c.code = cc) (hml : c.maxLocals = nL) (hown : s.vm.findClass own = some m.cls) (hts : ∀ w ∈ TB, w.before args s = true) (hK : KD D cy s) (hw : WH D cy ad M H) (hS : va_S A0 s.heap H locs) (hA : ∀ q, AD ad q → A0 q) {b L : Nat} {xs : Nat → Int32} (hX : va_X b L xs s s.heap) (hbl : b < s.heap.size) (hbA : ¬ A0 b) (hM : Met l y (.code y bytes maxL ret :: TB) rm (PX D cy ad M b L xs As) (QI D cy ad r M2) 0 0 (AD ad)) (cf : cfS own y bytes maxL ret n) (hl : Cond.methodLink own index y ∈ TB) (hrc : rm.cells = 0) (hrs : rm.slots = 0) (hR : rm.frames + 1 ≤ R.frames ∧ 8 + (maxL + 11) + rm.locals ≤ R.locals)
    (hn : As.length = n) (hls : ls.size = nL) (hst : st0 = As.reverse ++ rest) (hW : (rest.map fun v => v.category).sum ≤ 8) (hroom : cells + 0 ≤ R.cells ∧ slots + 0 ≤ R.slots) (hdg : decode cc pc = .ok (.invokestatic index, 3))
    (kk : ∀ (H1 : Heap) (locs1 : List Loc), WH D cy ad M2 H1 → va_S A0 s.heap H1 locs1 → W p l e R s m args below meth c H1 locs1 cells slots Q (F0 m (pc + 3) ls (.int r :: rest))) : W p l e R s m args below meth c H locs cells slots Q (F0 m pc ls st0) := by
  obtain ⟨⟨i1, i3, i4⟩, hd⟩ := cf
  have hXH : va_X b L xs s H := hX.kept (hS.2.1 b hbl hbA)
  have hbH : b < H.size := Nat.lt_of_lt_of_le hbl hS.1
  refine va_calli (cells := cells) (slots := slots) (va_runS (As := As) (rest := rest) (Ts := TB) ⟨hx, hb, hml, hown, hts⟩ hM (cwS n hts (gS hl i1 i3 i4) rfl hrc hrs hd hR) ⟨PX_blind, fun U hU hW => ⟨rfl, ⟨by rw [hU]; exact hw, hK.warm hW⟩, by rw [hU]; exact hXH.moved hW.alike, by rw [hU]; exact hbH⟩⟩ rfl hn hls hst (lv_room hW) hdg hroom) hS (fun q _ h => hA q h) hA (fun r1 u t H1 locs1 ht hvm hr hB hz hk hS1 => ?_)
  have hr : r1 = r := hr
  subst hr
  exact kk H1 locs1 (by rw [← ht]; exact hB) hS1
theorem m_inx {av : List Value} {Qc : Array Value → State → Outcome → State → Prop} {b L : Nat} {xs : Nat → Int32} (hy : plainName y.cls = true) (hml : (lg_sl av).length ≤ maxL) (body : ∀ (p : Program) (e : Env) (s : State) (m : MethodId) (args : Array Value) (below : List Frame) (meth : Method) (c : Code), (p.tables.exec = Jvm.exec ∧ c.code = bytes ∧ meth.sig.returnType = ret ∧ c.maxLocals = maxL ∧ s.vm.findClass y.cls = some m.cls ∧ (∀ w ∈ TB, w.before args s = true) ∧ KD D cy s ∧ meth.locks = false) → WH D cy ad M s.heap → va_X b L xs s s.heap → b < s.heap.size → va_S (AD ad) s.heap s.heap [] → ∀ ls : Array Slot, lv_has ls maxL (lv_args 0 av) → W p l e rm s m args below meth c s.heap [] 0 0 (MQ below Qc args s 0 0 (AD ad)) (F0 m 0 ls [])) : Met l y (.code y bytes maxL ret :: TB) rm (PX D cy ad M b L xs av) Qc 0 0 (AD ad) := by
  refine Met.ofW (cc := bytes) (maxL := maxL) (ret := ret) hy rfl ?_
  intro p e s m args below meth c s₁ B hml0 hv
  obtain ⟨rfl, ⟨hP, hK⟩, hX, hbl⟩ := hv
  have hts := atoms_spec (ws := .code y bytes maxL ret :: TB) B.pre
  have hl := lv_entry av (n := maxL) hml
  rw [lg_entry_eq]
  exact body p e s m _ below meth c ⟨B.exec, B.bytes, B.returns, hml0, findClass_of_methodNamed B.named, fun w hw => hts w (List.mem_cons_of_mem _ hw), hK, B.notSynchronized⟩ hP hX hbl va_S.rf _ hl
/-- a store into a row, what may be written being more than the world -/
theorem r_iastA (hx : p.tables.exec = Jvm.exec) (hb : c.code = cc) (hK : KD D cy s) (hcv : CV ad) (hw : WH D cy ad M H) (hA : ∀ q, AD ad q → A0 q) (hS : va_S A0 s.heap H locs) (hq : (g, c') ∈ vids) (hf : M g c' = f) {n : Nat} (hE : ∀ f, E cy ad (g, c') f = .inl (cy 0, n, .inl f)) {i x : Int32} (hin : vp_in i n) {M2 : MM} (hM2 : gs M g (up (M g) c' i.toNatClampNeg x) = M2) (hdg : decode cc pc = .ok (.iastore, 1))
    (kk : ∀ (H1 : Heap) (locs1 : List Loc), WH D cy ad M2 H1 → va_S A0 s.heap H1 locs1 → W p l e R s m args below meth c H1 locs1 cells slots Q (F0 m (pc + 1) ls rest)) : W p l e R s m args below meth c H locs cells slots Q (F0 m pc ls (.int x :: .int i :: .ref (ad g c') :: rest)) := by
  obtain ⟨k, h1, h2⟩ := wl_at (cy := cy) (ad := ad) (M := M) hq
  rw [hf, hE] at h1
  refine va_iast (D := D) hx hb hK.1 hw (⟨(wl_D hcv).1, fun k q hk => hA _ ((wl_D hcv).2 k q hk)⟩ : va_D A0 _) hS k 0 h1 rfl hin hdg (fun H1 locs1 hP hD hS1 => ?_)
  refine kk H1 locs1 ?_ hS1
  rw [← hE, wl_set h2] at hP
  rw [← hM2, up_sc, hf]
  exact hP
end WX
