/-! MAKING: the world while cells are made is a partial map from addresses to cells; a new cell's address is the heap's size -/
def XW (D : va_G) (f : Nat → Option va_E) (H : Heap) : Prop := ∀ a e, f a = some e → va_at D vwCl (a, e) H
def fu (f : Nat → Option va_E) (a : Nat) (e : va_E) : Nat → Option va_E := fun x => if x = a then some e else f x
def KC (D : va_G) (cy : Nat → ClassId) (U : State) : Prop := KD D cy U ∧ va_AO RX0 U ∧ va_AO RX3 U ∧ va_AO RX4 U
theorem KC.warm {D : va_G} {cy : Nat → ClassId} {s U : State} (hW : s.WarmedH U.vm) (h : KC D cy s) : KC D cy U := ⟨h.1.warm hW, va_AO.moved hW.alike h.2.1, va_AO.moved hW.alike h.2.2.1, va_AO.moved hW.alike h.2.2.2⟩
theorem KC.same {D : va_G} {cy : Nat → ClassId} {u U : State} (hv : u.vm = U.vm) (h : KC D cy u) : KC D cy U := by
  have ha : u.vm.Alike U.vm := by rw [hv]; exact Vm.Alike.refl _
  exact ⟨⟨va_K.moved ha h.1.1, h.1.2.same hv⟩, va_AO.moved ha h.2.1, va_AO.moved ha h.2.2.1, va_AO.moved ha h.2.2.2⟩
theorem XW.lt {D : va_G} {f : Nat → Option va_E} {H : Heap} (h : XW D f H) {a : Nat} {e : va_E} (ha : f a = some e) : a < H.size := (h a e ha).lt
theorem XW.sub {D : va_G} {f f2 : Nat → Option va_E} {H : Heap} (h : XW D f H) (hs : ∀ a e, f2 a = some e → f a = some e) : XW D f2 H := fun a e ha => h a e (hs a e ha)
theorem XW.push {D : va_G} {f : Nat → Option va_E} {H H1 : Heap} {e : va_E} (h : XW D f H) (he : va_at D vwCl (H.size, e) H1) (o1 : ∀ q, q < H.size → H1[q]? = H[q]?) : XW D (fu f H.size e) H1 := by
  intro a e' ha
  by_cases hq : a = H.size
  · subst hq
    simp only [fu, if_true] at ha
    cases ha
    exact he
  · simp only [fu, if_neg hq] at ha
    exact (h a e' ha).kept (o1 a (h.lt ha))
theorem XW.set {D : va_G} {f : Nat → Option va_E} {H H1 : Heap} {x : Nat} {e : va_E} (h : XW D f H) (he : va_at D vwCl (x, e) H1) (oq : ∀ q, q ≠ x → H1[q]? = H[q]?) : XW D (fu f x e) H1 := by
  intro a e' ha
  by_cases hq : a = x
  · subst hq
    simp only [fu, if_true] at ha
    cases ha
    exact he
  · simp only [fu, if_neg hq] at ha
    exact (h a e' ha).kept (oq a hq)
section NR
variable {p : Program} {l : Launch} {e : Env} {R : Room} {s : State} {m : MethodId} {args : Array Value} {below : List Frame} {meth : Method} {c : Code} {H : Heap} {locs : List Loc} {cells slots : Nat} {Q : State → Prop}
variable {cc : ByteArray} {pc : Nat} {ls : Array Slot} {rest : List Value} {D : va_G} {cy : Nat → ClassId} {f : Nat → Option va_E} {sz : Nat} {A : Nat → Prop}
theorem sS (hS : va_S A s.heap H locs) {H1 : Heap} (z : H1.size = H.size + 1) (o1 : ∀ q, q < H.size → H1[q]? = H[q]?) : va_S A s.heap H1 locs := ⟨Nat.le_trans hS.1 (by omega), fun x h1 h2 => (o1 x (Nat.lt_of_lt_of_le h1 hS.1)).trans (hS.2.1 x h1 h2), hS.2.2⟩
theorem n_new (hx : p.tables.exec = Jvm.exec) (hb : c.code = cc) (hts : ∀ w ∈ TB, w.before args s = true) {own C : String} (hown : s.vm.findClass own = some m.cls) (hK : KC D cy s) (hw : XW D f H) (hz : H.size = sz) (hS : va_S A s.heap H locs) {ci N index : Nat} {fl : List Value} {T : u_T} (hin : ∀ w ∈ u_ws C T N, w ∈ TB) (hc : vwCl[ci]? = some (C, T, N)) (ty : Nat → FieldType) (hty : ∀ k, k < N → parseFieldDescriptor (T k).2.2.1 = some (ty k)) (hcl : Cond.classLink own index C ∈ TB) (hinst : Cond.instantiable C N ∈ TB) (hini : Cond.initialized C ∈ TB) (hfs : ∀ j, j < N → defaultValue (ty j) = vp_V fl j) (hcells : cells + 1 ≤ R.cells) (hslots : slots + N ≤ R.slots) (hdg : decode cc pc = .ok (.new index, 3))
    (kk : ∀ H1 : Heap, XW D (fu f sz (.inr (ci, fl))) H1 → H1.size = sz + 1 → va_S A s.heap H1 locs → W p l e R s m args below meth c H1 locs (cells + 1) (slots + N) Q (F0 m (pc + 3) ls (.ref sz :: rest))) : W p l e R s m args below meth c H locs cells slots Q (F0 m pc ls rest) := by
  have hKn := hK.1.1.1 ci _ hc
  subst hz
  refine W.newcK hx hb hown (hts _ hcl) (hts _ hinst) (hts _ hini) rfl hdg hcells hslots hKn.2.1 rfl fun H1 kC hkC e1 z1 o1 => ?_
  exact kk H1 (hw.push ⟨_, hc, (u_born ty hts hin hKn hkC e1 hty).to hfs⟩ o1) z1 (sS hS z1 o1)
theorem n_newi (hx : p.tables.exec = Jvm.exec) (hb : c.code = cc) (hts : ∀ w ∈ TB, w.before args s = true) (hK : KC D cy s) (hw : XW D f H) (hz : H.size = sz) (hS : va_S A s.heap H locs) {n : Int32} {N : Nat} (harr : Cond.arrayClass .int ∈ TB) (hn : ¬ n < 0) (hN : n.toNatClampNeg = N) (hbytes : N * 4 ≤ 536870912) (hcells : cells + 1 ≤ R.cells) (hslots : slots + N ≤ R.slots) (hdg : decode cc pc = .ok (.newarray .int, 2))
    (kk : ∀ H1 : Heap, XW D (fu f sz (.inl (cy 0, N, .inl (fun _ => 0)))) H1 → H1.size = sz + 1 → va_S A s.heap H1 locs → W p l e R s m args below meth c H1 locs (cells + 1) (slots + N) Q (F0 m (pc + 2) ls (.ref sz :: rest))) : W p l e R s m args below meth c H locs cells slots Q (F0 m pc ls (.int n :: rest)) := by
  subst hz
  refine va_newaK hx hb (atype := .int) (hts _ harr) rfl hdg rfl hn hN hbytes hcells hslots rfl fun H1 cA e1 z1 o1 hAr hNm => ?_
  have hr : s.vm.findClass ("[" ++ (FieldType.int).toString) = some (cy 0) := (hK.1.1.2 0 _ rfl).2
  have hc : cA = cy 0 := Option.some.inj (hNm.symm.trans hr)
  subst hc
  refine kk H1 (hw.push ?_ o1) z1 (sS hS z1 o1)
  show H1[H.size]? = some (vp_cell _ _)
  rw [vp_cell_i]
  exact e1
theorem n_newc (hx : p.tables.exec = Jvm.exec) (hb : c.code = cc) (hts : ∀ w ∈ TB, w.before args s = true) (hK : KC D cy s) (hw : XW D f H) (hz : H.size = sz) (hS : va_S A s.heap H locs) {n : Int32} {N : Nat} (harr : Cond.arrayClass .char ∈ TB) (hn : ¬ n < 0) (hN : n.toNatClampNeg = N) (hbytes : N * 2 ≤ 536870912) (hcells : cells + 1 ≤ R.cells) (hslots : slots + N ≤ R.slots) (hdg : decode cc pc = .ok (.newarray .char, 2))
    (kk : ∀ H1 : Heap, XW D (fu f sz (.inl (cy 1, N, .inl (fun _ => 0)))) H1 → H1.size = sz + 1 → va_S A s.heap H1 locs → W p l e R s m args below meth c H1 locs (cells + 1) (slots + N) Q (F0 m (pc + 2) ls (.ref sz :: rest))) : W p l e R s m args below meth c H locs cells slots Q (F0 m pc ls (.int n :: rest)) := by
  subst hz
  refine va_newaK hx hb (atype := .char) (hts _ harr) rfl hdg rfl hn hN hbytes hcells hslots rfl fun H1 cA e1 z1 o1 hAr hNm => ?_
  have hr : s.vm.findClass ("[" ++ (FieldType.char).toString) = some (cy 1) := (hK.1.1.2 1 _ rfl).2
  have hc : cA = cy 1 := Option.some.inj (hNm.symm.trans hr)
  subst hc
  refine kk H1 (hw.push ?_ o1) z1 (sS hS z1 o1)
  show H1[H.size]? = some (vp_cell _ _)
  rw [vp_cell_i]
  exact e1
theorem n_newq (hx : p.tables.exec = Jvm.exec) (hb : c.code = cc) (hts : ∀ w ∈ TB, w.before args s = true) {own C : String} {index : Nat} (hown : s.vm.findClass own = some m.cls) (hK : KC D cy s) (hov : va_AO C s) (hw : XW D f H) (hz : H.size = sz) (hS : va_S A s.heap H locs) {n : Int32} {N t0 : Nat} (ht : (tyl cy)[t0]? = some (cy t0, .object C)) (hcl : Cond.classLink own index C ∈ TB) (hn : ¬ n < 0) (hN : n.toNatClampNeg = N) (hbytes : N * 4 ≤ 536870912) (hcells : cells + 1 ≤ R.cells) (hslots : slots + N ≤ R.slots) (hdg : decode cc pc = .ok (.anewarray index, 3))
    (kk : ∀ H1 : Heap, XW D (fu f sz (.inl (cy t0, N, rfs (fun _ => none)))) H1 → H1.size = sz + 1 → va_S A s.heap H1 locs → W p l e R s m args below meth c H1 locs (cells + 1) (slots + N) Q (F0 m (pc + 3) ls (.ref sz :: rest))) : W p l e R s m args below meth c H locs cells slots Q (F0 m pc ls (.int n :: rest)) := by
  subst hz
  subst hN
  refine W.anew hx hb hown (hts _ hcl) (va_AO.use hov) rfl hdg rfl hn hbytes hcells hslots fun cA kA comp f1 f2 f3 f4 => ?_
  obtain ⟨kA', comp', -, -, -, hr⟩ := (hK.1.1.2 t0 _ ht).2
  have hc : cA = cy t0 := Option.some.inj (f1.symm.trans hr)
  subst hc
  have o1 : ∀ q : Nat, q < H.size → (H.push ({ cls := cy t0, slots := Array.replicate n.toNatClampNeg .null, vm := .none } : Cell))[q]? = H[q]? := fun q hq => by rw [Array.getElem?_push, if_neg (Nat.ne_of_lt hq)]
  refine kk _ (hw.push ?_ o1) (by rw [Array.size_push]) (sS hS (by rw [Array.size_push]) o1)
  show (H.push _)[H.size]? = some (vp_cell _ _)
  rw [Array.getElem?_push_size, vp_cell_q, ← arrV_new]
  rfl
theorem n_get (hx : p.tables.exec = Jvm.exec) (hb : c.code = cc) (hts : ∀ w ∈ TB, w.before args s = true) {own ref C : String} (hown : s.vm.findClass own = some m.cls) (hK : KC D cy s) (hw : XW D f H) {a ci N index : Nat} {fl : List Value} {T : u_T} (hf : f a = some (.inr (ci, fl))) (hin : ∀ w ∈ u_ws C T N, w ∈ TB) (hc : vwCl[ci]? = some (C, T, N)) (k : Nat) (hk : k < N) (hl : Cond.fieldLink own index ref (T k).2.1 (T k).2.2.1 ∈ TB) (hsame : ref = (T k).1) {v : Value} (hv : fl[k]? = some v) (hdg : decode cc pc = .ok (.getfield index, 3))
    (kk : W p l e R s m args below meth c H locs cells slots Q (F0 m (pc + 3) ls (v :: rest))) : W p l e R s m args below meth c H locs cells slots Q (F0 m pc ls (.ref a :: rest)) := by
  have hP : va_P D vwCl [(a, .inr (ci, fl))] H := fun k q hq => by
    match k, hq with
    | 0, hq => cases hq; exact hw a _ hf
    | k + 1, hq => simp at hq
  exact va_get (D := D) hx hb hts hin hown hK.1.1 hP 0 rfl hc k hk (hts _ hl) (fun x hx => by rw [hsame]; exact hx) hv hdg kk
theorem n_putF (hx : p.tables.exec = Jvm.exec) (hb : c.code = cc) (hts : ∀ w ∈ TB, w.before args s = true) {own ref C : String} (hown : s.vm.findClass own = some m.cls) (hK : KC D cy s) (hw : XW D f H) (hz : H.size = sz) (hS : va_S A s.heap H locs) {a ci N index : Nat} {fl : List Value} {T : u_T} (hf : f a = some (.inr (ci, fl))) (hA : A a) (hin : ∀ w ∈ u_ws C T N, w ∈ TB) (hc : vwCl[ci]? = some (C, T, N)) (ty0 : Nat → FieldType) (hty : ∀ k, k < N → parseFieldDescriptor (T k).2.2.1 = some (ty0 k)) (hnm : ∀ a, a < N → ∀ b, b < N → a ≠ b → (T a).2.1 ≠ (T b).2.1) (k : Nat) (hk : k < N) (hl : Cond.fieldLink own index ref (T k).2.1 (T k).2.2.1 ∈ TB) (hsame : ref = (T k).1) (hfin : (T k).2.2.2 = true) (hin2 : meth.name = "<init>") (hdecl : (T k).1 = own) {v : Value} (hn : narrow (ty0 k) v = v) (hfit : fits (ty0 k) v = true) (hlen : k < fl.length) (hdg : decode cc pc = .ok (.putfield index, 3))
    (kk : ∀ (H1 : Heap) (locs1 : List Loc), XW D (fu f a (.inr (ci, fl.set k v))) H1 → H1.size = sz → va_S A s.heap H1 locs1 → W p l e R s m args below meth c H1 locs1 cells slots Q (F0 m (pc + 3) ls rest)) : W p l e R s m args below meth c H locs cells slots Q (F0 m pc ls (v :: .ref a :: rest)) := by
  have hap := va_apart (own := own) hts hin ty0 hty hnm hK.1.1 hc
  obtain ⟨r, h1, cell, q1, q2, q3, q4⟩ := hw a _ hf
  have hr : r = (C, T, N) := Option.some.inj (h1.symm.trans hc)
  subst hr
  obtain ⟨hSl, hfc, kC, hkC, hkind⟩ := hK.1.1.1 ci _ hc
  obtain ⟨cf, kf, fi, fd, hi, hsl⟩ := hSl k hk
  have hlay := hts _ (hin _ (u_in_lay hk))
  unfold u_lay at hlay
  rw [if_pos hfin] at hlay
  have hst := (u_facts hfc hkC (u_lays hts hin hk) hi).1
  have hcf : m.cls = cf := by
    obtain ⟨_, _, c', _, _, _, -, -, hf', -, -, -, hown2, -⟩ := Cond.laysFinal_spec hlay
    have e1 : c' = cf := by have := hi.symm.trans hf'; simp at this; exact this.1.symm
    rw [hdecl] at hown2
    rw [← e1]; exact Option.some.inj (hown.symm.trans hown2)
  have h6 := u_fits hfc hkC hkind (Or.inr hlay) hi (hty k hk) hn hfit
  refine W.putFinK hx hb hown (hts _ hl) (by rw [hsame]; exact hi) hst hcf hin2 (by rw [q2]; exact h6) q1 q3 (by rw [hsl]; exact k2_hasslot (q4 k hk)) rfl rfl hdg fun H' e1 e2 e3 => ?_
  rw [hsl] at e1 ⊢
  exact kk H' _ (hw.set ⟨_, hc, t_OB.to (V := updV (vp_V fl) k v) ⟨_, e1, q2, q3, t_set q4 hap hk v⟩ (fun j _ => vp_updV_set hlen v j)⟩ e3) (by rw [e2]; exact hz) (hS.put e2 e3 hA)
theorem n_put (hx : p.tables.exec = Jvm.exec) (hb : c.code = cc) (hts : ∀ w ∈ TB, w.before args s = true) {own ref C : String} (hown : s.vm.findClass own = some m.cls) (hK : KC D cy s) (hw : XW D f H) (hz : H.size = sz) (hS : va_S A s.heap H locs) {a ci N index : Nat} {fl : List Value} {T : u_T} (hf : f a = some (.inr (ci, fl))) (hA : A a) (hin : ∀ w ∈ u_ws C T N, w ∈ TB) (hc : vwCl[ci]? = some (C, T, N)) (ty0 : Nat → FieldType) (hty : ∀ k, k < N → parseFieldDescriptor (T k).2.2.1 = some (ty0 k)) (hnm : ∀ a, a < N → ∀ b, b < N → a ≠ b → (T a).2.1 ≠ (T b).2.1) (k : Nat) (hk : k < N) (hl : Cond.fieldLink own index ref (T k).2.1 (T k).2.2.1 ∈ TB) (hsame : ref = (T k).1) (hfin : (T k).2.2.2 = false) {v : Value} (hn : narrow (ty0 k) v = v) (hfit : fits (ty0 k) v = true) (hlen : k < fl.length) (hdg : decode cc pc = .ok (.putfield index, 3))
    (kk : ∀ (H1 : Heap) (locs1 : List Loc), XW D (fu f a (.inr (ci, fl.set k v))) H1 → H1.size = sz → va_S A s.heap H1 locs1 → W p l e R s m args below meth c H1 locs1 cells slots Q (F0 m (pc + 3) ls rest)) : W p l e R s m args below meth c H locs cells slots Q (F0 m pc ls (v :: .ref a :: rest)) := by
  have hap := va_apart (own := own) hts hin ty0 hty hnm hK.1.1 hc
  obtain ⟨r, h1, cell, q1, q2, q3, q4⟩ := hw a _ hf
  have hr : r = (C, T, N) := Option.some.inj (h1.symm.trans hc)
  subst hr
  obtain ⟨hSl, hfc, kC, hkC, hkind⟩ := hK.1.1.1 ci _ hc
  obtain ⟨cf, kf, fi, fd, hi, hsl⟩ := hSl k hk
  have hlay := hts _ (hin _ (u_in_lay hk))
  unfold u_lay at hlay
  rw [if_neg (by rw [hfin]; decide)] at hlay
  have hst := (u_facts hfc hkC (u_lays hts hin hk) hi).1
  have h6 := u_store hfc hkC hkind hlay hi (hty k hk) hn hfit
  refine W.putK hx hb (f := fd) ⟨hown, hts _ hl, ⟨_, _, _, by rw [hsame]; exact hi⟩, hst⟩ (by rw [q2]; exact h6) q1 q3 (by rw [hsl]; exact k2_hasslot (q4 k hk)) rfl rfl hdg fun H' e1 e2 e3 => ?_
  rw [hsl] at e1 ⊢
  exact kk H' _ (hw.set ⟨_, hc, t_OB.to (V := updV (vp_V fl) k v) ⟨_, e1, q2, q3, t_set q4 hap hk v⟩ (fun j _ => vp_updV_set hlen v j)⟩ e3) (by rw [e2]; exact hz) (hS.put e2 e3 hA)
theorem n_iast (hx : p.tables.exec = Jvm.exec) (hb : c.code = cc) (hK : KC D cy s) (hw : XW D f H) (hz : H.size = sz) (hS : va_S A s.heap H locs) {a n : Nat} {fr : Nat → Int32} (hf : f a = some (.inl (cy 0, n, .inl fr))) (hA : A a) {i x : Int32} (hin : vp_in i n) (hdg : decode cc pc = .ok (.iastore, 1))
    (kk : ∀ (H1 : Heap) (locs1 : List Loc), XW D (fu f a (.inl (cy 0, n, .inl (upd fr i.toNatClampNeg x)))) H1 → H1.size = sz → va_S A s.heap H1 locs1 → W p l e R s m args below meth c H1 locs1 cells slots Q (F0 m (pc + 1) ls rest)) : W p l e R s m args below meth c H locs cells slots Q (F0 m pc ls (.int x :: .int i :: .ref a :: rest)) := by
  refine W.iast hx hb (hw a _ hf) ((hK.1.1.2 0 _ rfl).1 n (fun j => .int (fr j))) (fun q => by cases q) (by show ¬ (i < 0 ∨ (arrV _ _ _).slots.size ≤ _); rw [arrV_size]; exact hin) rfl rfl hdg fun H1 e z oq => ?_
  refine kk H1 _ (hw.set ?_ oq) (by rw [z]; exact hz) (hS.put z oq hA)
  show H1[a]? = some (vp_cell _ _)
  rw [e, vp_cell_i, vp_cell_i, arrV_store]
  congr 2
  funext q
  by_cases hq : q = i.toNatClampNeg
  · subst hq
    simp [updV, upd]
  · simp [updV, upd, hq]
theorem n_aast (hx : p.tables.exec = Jvm.exec) (hb : c.code = cc) (hK : KC D cy s) (hw : XW D f H) (hz : H.size = sz) (hS : va_S A s.heap H locs) {a n t0 ci v N : Nat} {C : String} {T : u_T} {vs : List Value} {fr : Nat → Option Nat} (ht : (tyl cy)[t0]? = some (cy t0, .object C)) (hf : f a = some (.inl (cy t0, n, rfs fr))) (hA : A a) (hv : f v = some (.inr (ci, vs))) (hc : vwCl[ci]? = some (C, T, N)) {i : Int32} (hin : vp_in i n) (hdg : decode cc pc = .ok (.aastore, 1))
    (kk : ∀ (H1 : Heap) (locs1 : List Loc), XW D (fu f a (.inl (cy t0, n, rfs (va_up fr i.toNatClampNeg (some v))))) H1 → H1.size = sz → va_S A s.heap H1 locs1 → W p l e R s m args below meth c H1 locs1 cells slots Q (F0 m (pc + 1) ls rest)) : W p l e R s m args below meth c H locs cells slots Q (F0 m pc ls (.ref v :: .int i :: .ref a :: rest)) := by
  have hlt : i.toNatClampNeg < n := Nat.not_le.mp fun q => hin (Or.inr q)
  have h0 : ¬ i < 0 := fun q => hin (Or.inl q)
  obtain ⟨r', hr', cellV, g1, g2, g3, -⟩ := hw v _ hv
  have hcls := (hK.1.1.1 ci _ hc).2
  obtain ⟨kA, comp, k1, k2, k3, -⟩ := (hK.1.1.2 t0 _ ht).2
  have hcomp : comp = D.1 ci := Option.some.inj (k3.symm.trans hcls.1)
  subst hcomp
  obtain ⟨kC, hkC, -⟩ := hcls.2
  refine W.aast hx hb (hw a _ hf) (fun q h => by cases h) (fun h => by cases h) k1 k2 rfl hkC ⟨h0, by show _ < (arrV _ _ _).slots.size; rw [arrV_size]; exact hlt⟩ g1 (fun q h => by rw [g3] at h; cases h) (by rw [g2]; exact hkC) (by rw [g2]; exact va_assign hcls) rfl rfl hdg fun H1 e z oq => ?_
  refine kk H1 _ (hw.set ?_ oq) (by rw [z]; exact hz) (hS.put z oq hA)
  show H1[a]? = some (vp_cell _ _)
  rw [e, vp_cell_q, vp_cell_q, arrV_store]
  congr 2
  funext q
  by_cases hq : q = i.toNatClampNeg
  · subst hq
    simp [updV, va_up, va_rf]
  · simp [updV, va_up, hq]
end NR
def PC (D : va_G) (cy : Nat → ClassId) (f : Nat → Option va_E) (sz o : Nat) : Array Value → State → Prop := va_Pc [.ref o] (fun U => XW D f U.heap ∧ U.heap.size = sz ∧ KC D cy U)
def QC (D : va_G) (f : Nat → Option va_E) (sz : Nat) (A : Nat → Prop) : Array Value → State → Outcome → State → Prop := va_Qv (fun _ : Unit => True) (fun _ t => XW D f t.heap ∧ t.heap.size = sz) A
def AN (o sz : Nat) : Nat → Prop := fun q => q = o ∨ sz ≤ q
theorem PC_blind {D : va_G} {cy : Nat → ClassId} {f : Nat → Option va_E} {sz o : Nat} : FrameBlind (PC D cy f sz o) := fun a U g mk q => by
  obtain ⟨q1, q2, q3, q4⟩ := q
  exact ⟨q1, q2, q3, KC.same (u := U) (U := U.calling g mk a) rfl q4⟩
/-- what the tables say of a constructor -/
def cfI (y : MethodName) (b : ByteArray) (nL : Nat) : Prop := (Cond.instanceMethod y ∈ TB ∧ Cond.initialized y.cls ∈ TB ∧ Cond.code y b nL none ∈ TB) ∧ (y.cls ≠ "java/lang/invoke/MethodHandle" ∧ y.cls ≠ "java/lang/invoke/VarHandle" ∧ (parseMethodDescriptor y.desc).map (fun d => d.parameters.length) = some 0) ∧ y.name = "<init>"
section NC
variable {p : Program} {l : Launch} {e : Env} {R : Room} {s : State} {m : MethodId} {args : Array Value} {below : List Frame} {meth : Method} {c : Code} {H : Heap} {locs : List Loc} {cells slots : Nat} {Q : State → Prop}
variable {cc : ByteArray} {pc : Nat} {ls : Array Slot} {rest : List Value} {D : va_G} {cy : Nat → ClassId} {f f2 : Nat → Option va_E} {sz sz2 o mc ms : Nat} {A A1 : Nat → Prop}
variable {y : MethodName} {bytes : ByteArray} {maxL nL index : Nat} {rm : Room} {own host : String}
theorem n_obj (hx : p.tables.exec = Jvm.exec) (hb : c.code = cc) (hts : ∀ w ∈ TB, w.before args s = true) (hml : c.maxLocals = ls.size) (hown : s.vm.findClass own = some m.cls) (hl : Cond.methodLink own index objectInit ∈ TB) (hi : Cond.instanceMethod objectInit ∈ TB) (hc : Cond.code objectInit ⟨#[0xb1]⟩ 1 none ∈ TB) {a : Nat} (hdg : decode cc pc = .ok (.invokespecial index, 3)) (hf : 1 ≤ R.frames) (hR : 20 ≤ R.locals) (hW : (rest.map fun v => v.category).sum ≤ 8)
    (kk : W p l e R s m args below meth c H locs cells slots Q (F0 m (pc + 3) ls rest)) : W p l e R s m args below meth c H locs cells slots Q (F0 m pc ls (.ref a :: rest)) :=
  W.objInit hx hb hown (hts _ hl) (hts _ hi) (hts _ hc) rfl hml.symm rfl hdg hf (by show 2 * 0 + _ + 12 ≤ _; omega) kk
theorem n_cn (hx : p.tables.exec = Jvm.exec) (hb : c.code = cc) (hml : c.maxLocals = nL) (hown : s.vm.findClass own = some m.cls) (hts : ∀ w ∈ TB, w.before args s = true) (hK : KC D cy s) (hw : XW D f H) (hz : H.size = sz) (hS : va_S A s.heap H locs) (hA : ∀ q, A1 q → A q) (hM : Met l y (.code y bytes maxL none :: TB) rm (PC D cy f sz o) (QC D f2 sz2 A1) mc ms A1) (cf : cfI y bytes maxL) (hl : Cond.methodLinkNest own index y host ∈ NXL) (hrc : rm.cells = mc) (hrs : rm.slots = ms) (hR : rm.frames + 1 ≤ R.frames ∧ 8 + (maxL + 11) + rm.locals ≤ R.locals)
    (hls : ls.size = nL) (hW : (rest.map fun v => v.category).sum ≤ 8) (hroom : cells + mc ≤ R.cells ∧ slots + ms ≤ R.slots) (hdg : decode cc pc = .ok (.invokespecial index, 3))
    (kk : ∀ (H1 : Heap) (locs1 : List Loc), XW D f2 H1 → H1.size = sz2 → va_S A s.heap H1 locs1 → W p l e R s m args below meth c H1 locs1 (cells + mc) (slots + ms) Q (F0 m (pc + 3) ls rest)) : W p l e R s m args below meth c H locs cells slots Q (F0 m pc ls (.ref o :: rest)) := by
  obtain ⟨⟨i1, i3, i4⟩, hd, hy⟩ := cf
  refine va_callv (va_runIN (As := []) (rest := rest) (Ts := TB) ⟨hx, hb, hml, hown, hts⟩ hM ⟨va_cnB 0 hts (gC i4) rfl hrc hrs (hK.1.2 _ hl) (hts _ i3) hd hR, hy, hts _ i1⟩ ⟨PC_blind, fun U hU hW => ⟨rfl, by rw [hU]; exact hw, by rw [hU]; exact hz, hK.warm hW⟩⟩ rfl rfl hls rfl (lv_room hW) hdg hroom) hS (fun q _ h => hA q h) hA (fun u t H1 locs1 ht hvm hr hB hz1 hk hS1 => ?_)
  have hB : XW D f2 t.heap ∧ t.heap.size = sz2 := hB
  rw [ht] at hB
  exact kk H1 locs1 hB.1 hB.2 hS1
theorem n_cp (hx : p.tables.exec = Jvm.exec) (hb : c.code = cc) (hml : c.maxLocals = nL) (hown : s.vm.findClass own = some m.cls) (hts : ∀ w ∈ TB, w.before args s = true) (hK : KC D cy s) (hw : XW D f H) (hz : H.size = sz) (hS : va_S A s.heap H locs) (hA : ∀ q, A1 q → A q) (hM : Met l y (.code y bytes maxL none :: TB) rm (PC D cy f sz o) (QC D f2 sz2 A1) mc ms A1) (cf : cfI y bytes maxL) (hl : Cond.methodLink own index y ∈ TB) (hrc : rm.cells = mc) (hrs : rm.slots = ms) (hR : rm.frames + 1 ≤ R.frames ∧ 8 + (maxL + 11) + rm.locals ≤ R.locals)
    (hls : ls.size = nL) (hW : (rest.map fun v => v.category).sum ≤ 8) (hroom : cells + mc ≤ R.cells ∧ slots + ms ≤ R.slots) (hdg : decode cc pc = .ok (.invokespecial index, 3))
    (kk : ∀ (H1 : Heap) (locs1 : List Loc), XW D f2 H1 → H1.size = sz2 → va_S A s.heap H1 locs1 → W p l e R s m args below meth c H1 locs1 (cells + mc) (slots + ms) Q (F0 m (pc + 3) ls rest)) : W p l e R s m args below meth c H locs cells slots Q (F0 m pc ls (.ref o :: rest)) := by
  obtain ⟨⟨i1, i3, i4⟩, hd, hy⟩ := cf
  refine va_callv (va_runI (As := []) (rest := rest) (Ts := TB) ⟨hx, hb, hml, hown, hts⟩ hM (cwI 0 hts (gC i4) rfl hrc hrs (hts _ i3) (hts _ hl) (hts _ i1) hy hd hR) ⟨PC_blind, fun U hU hW => ⟨rfl, by rw [hU]; exact hw, by rw [hU]; exact hz, hK.warm hW⟩⟩ rfl rfl hls rfl (lv_room hW) hdg hroom) hS (fun q _ h => hA q h) hA (fun u t H1 locs1 ht hvm hr hB hz1 hk hS1 => ?_)
  have hB : XW D f2 t.heap ∧ t.heap.size = sz2 := hB
  rw [ht] at hB
  exact kk H1 locs1 hB.1 hB.2 hS1
theorem n_in (hy : plainName y.cls = true) (hml : 1 ≤ maxL) {Qc : Array Value → State → Outcome → State → Prop} {free : Addr → Prop} (body : ∀ (p : Program) (e : Env) (s : State) (m : MethodId) (args : Array Value) (below : List Frame) (meth : Method) (c : Code), (p.tables.exec = Jvm.exec ∧ c.code = bytes ∧ meth.sig.returnType = none ∧ c.maxLocals = maxL ∧ s.vm.findClass y.cls = some m.cls ∧ (∀ w ∈ TB, w.before args s = true) ∧ KC D cy s ∧ meth.locks = false ∧ meth.name = y.name) → XW D f s.heap → s.heap.size = sz → va_S A s.heap s.heap [] → ∀ ls : Array Slot, lv_has ls maxL [(0, .ref o)] → W p l e rm s m args below meth c s.heap [] 0 0 (MQ below Qc args s mc ms free) (F0 m 0 ls [])) : Met l y (.code y bytes maxL none :: TB) rm (PC D cy f sz o) Qc mc ms free := by
  refine Met.ofW (cc := bytes) (maxL := maxL) (ret := none) hy rfl ?_
  intro p e s m args below meth c s₁ B hml0 hv
  obtain ⟨rfl, hP, hz, hK⟩ := hv
  have hts := atoms_spec (ws := .code y bytes maxL none :: TB) B.pre
  have hl := lv_entry [.ref o] (n := maxL) (by show 1 ≤ _; exact hml)
  rw [lg_entry_eq]
  exact body p e s m _ below meth c ⟨B.exec, B.bytes, B.returns, hml0, findClass_of_methodNamed B.named, fun w hw => hts w (List.mem_cons_of_mem _ hw), hK, B.notSynchronized, (name_of_methodNamed B.named B.method).1⟩ hP hz va_S.rf _ hl
theorem n_ret (hx : p.tables.exec = Jvm.exec) (hb : c.code = cc) (hr : meth.sig.returnType = none) (hlk : meth.locks = false) (hw : XW D f H) (hz : H.size = sz) (hS : va_S A s.heap H locs) (hs : ∀ a e, f2 a = some e → f a = some e) (e2 : sz = sz2) (hc : cells = mc) (hs2 : slots = ms) (hdg : decode cc pc = .ok (.return_, 1)) : W p l e R s m args below meth c H locs cells slots (MQ below (QC D f2 sz2 A) args s mc ms A) (F0 m pc ls []) := by
  subst hc
  subst hs2
  subst e2
  exact W.vret hx hb hr (fun t ht hW => ⟨⟨(), rfl, trivial, by show XW D f2 t.heap ∧ t.heap.size = sz; rw [ht]; exact ⟨hw.sub hs, hz⟩⟩, hS.F ht⟩) hS.2.2 hdg hlk
end NC
