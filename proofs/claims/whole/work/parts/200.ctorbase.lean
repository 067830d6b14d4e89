/-! ===== CONSTRUCTORS: a world that grows: ws0 (whatever was there) ++ L (what the method has made) ===== -/
abbrev CC : Type := Program × Launch × Env × Room × State × MethodId × Array Value × List Frame × Method × Code × Nat × va_G × (Nat → ClassId) × (Nat → Prop) × Nat
def tyC (ca : Nat → ClassId) : List (ClassId × FieldType) := [(ca 0, .int), (ca 1, .boolean), (ca 2, .long), (ca 3, .object RX10), (ca 4, .object RX4)]
def ZC (tS : Nat) (A : Nat → Prop) (U : State) (H : Heap) : Prop := va_Z RX11 "WORD_LIMITS" "[I" (.ref tS) A U H ∧ va_T .int tS 4 (fun j => .int (lim j)) A U H
theorem ZC.moved {tS : Nat} {A : Nat → Prop} {u U : State} {H : Heap} (hvm : u.vm.Alike U.vm) (h : ZC tS A u H) : ZC tS A U H := ⟨va_Z.moved hvm h.1, va_T.moved hvm h.2⟩
theorem ZC.kept {tS : Nat} {A : Nat → Prop} {U : State} {H H1 : Heap} (h : ZC tS A U H) (hq : ∀ a : Nat, a < H.size → ¬ A a → H1[a]? = H[a]?) : ZC tS A U H1 := ⟨va_Z.kept h.1 hq, va_T.kept h.2 hq⟩
def AOC (U : State) : Prop := va_AO RX10 U ∧ va_AO RX4 U
def CS (D : va_G) (ca : Nat → ClassId) (A : Nat → Prop) (tS : Nat) (ws0 L : va_W) (U : State) : Prop := va_P D vwCl (ws0 ++ L) U.heap ∧ va_D A (ws0 ++ L) ∧ va_K D vwCl (tyC ca) U ∧ (NZ U ∧ AOC U ∧ ZC tS A U U.heap ∧ ∀ q, U.heap.size ≤ q → A q)
def RC (Γ : CC) (Q : State → Prop) (ws0 L : va_W) (cs ss pc : Nat) (lv : List (Nat × Value)) (st : List Value) : Prop :=
  match Γ with
  | (p, l, e, R, s, m, args, below, meth, c, nL, D, _, A, _) => ∀ (H : Heap) (locs : List Loc) (ls : Array Slot), va_P D vwCl (ws0 ++ L) H → va_D A (ws0 ++ L) → va_S A s.heap H locs → lv_has ls nL lv → W p l e R s m args below meth c H locs cs ss Q (F0 m pc ls st)
def gca (Γ : CC) : Nat → ClassId := Γ.2.2.2.2.2.2.2.2.2.2.2.2.1
def gLc (Γ : CC) : Launch := Γ.2.1
def CY (Γ : CC) (cc : ByteArray) (own : String) (rm : Room) (ret : Option FieldType) (nL : Nat) (nm : String) : Prop :=
  match Γ with
  | (p, _, _, R, s, m, args, _, meth, c, nL', D, ca, A, tS) => p.tables.exec = Jvm.exec ∧ c.code = cc ∧ c.maxLocals = nL ∧ s.vm.findClass own = some m.cls ∧ (∀ w ∈ wsL_law, w.before args s = true) ∧ va_K D vwCl (tyC ca) s ∧ (NZ s ∧ AOC s ∧ ZC tS A s s.heap ∧ ∀ q, s.heap.size ≤ q → A q) ∧ meth.sig.returnType = ret ∧ meth.locks = false ∧ R = rm ∧ nL' = nL ∧ meth.name = nm
theorem CS.of {D : va_G} {ca : Nat → ClassId} {A : Nat → Prop} {tS : Nat} {ws0 L : va_W} {s t : State} {H : Heap} {locs : List Loc} (hP : va_P D vwCl (ws0 ++ L) H) (hD : va_D A (ws0 ++ L)) (hS : va_S A s.heap H locs) (hK : va_K D vwCl (tyC ca) s) (hZ : NZ s ∧ AOC s ∧ ZC tS A s s.heap ∧ ∀ q, s.heap.size ≤ q → A q) (ht : t.heap = H) (hW : s.WarmedH t.vm) : CS D ca A tS ws0 L t := by
  refine ⟨by rw [ht]; exact hP, hD, va_K.moved hW.alike hK, hZ.1.warm hW, ⟨hZ.2.1.1.moved hW.alike, hZ.2.1.2.moved hW.alike⟩, ?_, fun q hq => hZ.2.2.2 q (Nat.le_trans hS.1 (by rw [← ht]; exact hq))⟩
  rw [ht]
  exact (hZ.2.2.1.moved hW.alike).kept (fun a h1 h2 => hS.2.1 a h1 h2)
theorem CS.blind {D : va_G} {ca : Nat → ClassId} {A : Nat → Prop} {tS : Nat} {ws0 L : va_W} {av : List Value} : FrameBlind (va_Pc av (CS D ca A tS ws0 L)) := by
  intro a U g mk q
  obtain ⟨q0, q1, q2, q3, q4, q5, q6, q7⟩ := q
  exact ⟨q0, q1, q2, va_K.moved (u := U) (U := U.calling g mk a) (Vm.Alike.refl U.vm) q3, NZ.same (u := U) (U := U.calling g mk a) rfl q4, ⟨va_AO.moved (u := U) (U := U.calling g mk a) (Vm.Alike.refl U.vm) q5.1, va_AO.moved (u := U) (U := U.calling g mk a) (Vm.Alike.refl U.vm) q5.2⟩, ZC.moved (u := U) (U := U.calling g mk a) (Vm.Alike.refl U.vm) q6, q7⟩
abbrev rmC (f c s n : Nat) : Room := { frames := f, cells := c, slots := s, locals := n }
def QV (Γ : CC) (mc ms : Nat) (ws0 : va_W) (bl : (Nat → Nat) → va_W) : State → Prop := match Γ with
  | (_, _, _, _, s, _, args, below, _, _, _, D, ca, A, tS) => MQ below (va_Qv (fun _ : Nat → Nat => True) (fun ad t => CS D ca A tS ws0 (bl ad) t) A) args s mc ms A
def QR (Γ : CC) (mc ms : Nat) (ws0 : va_W) (bl : (Nat → Nat) → va_W) : State → Prop := match Γ with
  | (_, _, _, _, s, _, args, below, _, _, _, D, ca, A, tS) => MQ below (va_Qr (fun _ : Nat → Nat => True) (fun ad a t => a = ad 0 ∧ CS D ca A tS ws0 (bl ad) t) A) args s mc ms A
/-- a maker's contract -/
def Cn (l : Launch) (y : MethodName) (cd : ByteArray) (ml : Nat) (rm : Room) (av : List Value) (D : va_G) (ca : Nat → ClassId) (A : Nat → Prop) (tS : Nat) (ws0 L0 : va_W) (bl : (Nat → Nat) → va_W) : Prop := Met l y (wsOf y cd ml none) rm (va_Pc av (CS D ca A tS ws0 L0)) (va_Qv (fun _ : Nat → Nat => True) (fun ad t => CS D ca A tS ws0 (bl ad) t) A) rm.cells rm.slots A
def Cr (l : Launch) (y : MethodName) (cd : ByteArray) (ml : Nat) (ret : Option FieldType) (rm : Room) (av : List Value) (D : va_G) (ca : Nat → ClassId) (A : Nat → Prop) (tS : Nat) (ws0 L0 : va_W) (bl : (Nat → Nat) → va_W) : Prop := Met l y (wsOf y cd ml ret) rm (va_Pc av (CS D ca A tS ws0 L0)) (va_Qr (fun _ : Nat → Nat => True) (fun ad a t => a = ad 0 ∧ CS D ca A tS ws0 (bl ad) t) A) rm.cells rm.slots A
theorem Cn.of {l : Launch} {y : MethodName} {cd : ByteArray} {ml : Nat} {rm : Room} {av : List Value} {D : va_G} {ca : Nat → ClassId} {A : Nat → Prop} {tS : Nat} {ws0 L0 : va_W} {bl : (Nat → Nat) → va_W} (hy : plainName y.cls = true) {own : String} (ho : y.cls = own) {lv : List (Nat × Value)} (hl : (lg_sl av).length ≤ ml) (hlv : lv_args 0 av = lv)
    (k : ∀ Γ : CC, gca Γ = ca → gLc Γ = l → CY Γ cd own rm none ml y.name → RC Γ (QV Γ rm.cells rm.slots ws0 bl) ws0 L0 0 0 0 lv []) : Cn l y cd ml rm av D ca A tS ws0 L0 bl := by
  refine Met.ofW (cc := cd) (maxL := ml) (ret := none) hy rfl ?_
  intro p e s m args below meth c s₁ Bd hml hv
  obtain ⟨rfl, hP, hD, hK, hZ⟩ := hv
  have hts := atoms_spec (ws := wsOf y cd ml none) Bd.pre
  have hown : s.vm.findClass own = some m.cls := by rw [← ho]; exact findClass_of_methodNamed Bd.named
  have K := k (p, l, e, rm, s, m, av.toArray, below, meth, c, ml, D, ca, A, tS) rfl rfl ⟨Bd.exec, Bd.bytes, hml, hown, fun w hw => hts w (List.mem_cons_of_mem _ hw), hK, hZ, Bd.returns, Bd.notSynchronized, rfl, rfl, (name_of_methodNamed Bd.named Bd.method).1⟩
  have hl0 := lv_entry av (n := ml) hl
  rw [hlv] at hl0
  rw [lg_entry_eq]
  exact K s.heap [] _ hP hD va_S.rf hl0
theorem Cr.of {l : Launch} {y : MethodName} {cd : ByteArray} {ml : Nat} {ret : Option FieldType} {rm : Room} {av : List Value} {D : va_G} {ca : Nat → ClassId} {A : Nat → Prop} {tS : Nat} {ws0 L0 : va_W} {bl : (Nat → Nat) → va_W} (hy : plainName y.cls = true) {own : String} (ho : y.cls = own) {lv : List (Nat × Value)} (hl : (lg_sl av).length ≤ ml) (hlv : lv_args 0 av = lv)
    (k : ∀ Γ : CC, gca Γ = ca → gLc Γ = l → CY Γ cd own rm ret ml y.name → RC Γ (QR Γ rm.cells rm.slots ws0 bl) ws0 L0 0 0 0 lv []) : Cr l y cd ml ret rm av D ca A tS ws0 L0 bl := by
  refine Met.ofW (cc := cd) (maxL := ml) (ret := ret) hy rfl ?_
  intro p e s m args below meth c s₁ Bd hml hv
  obtain ⟨rfl, hP, hD, hK, hZ⟩ := hv
  have hts := atoms_spec (ws := wsOf y cd ml ret) Bd.pre
  have hown : s.vm.findClass own = some m.cls := by rw [← ho]; exact findClass_of_methodNamed Bd.named
  have K := k (p, l, e, rm, s, m, av.toArray, below, meth, c, ml, D, ca, A, tS) rfl rfl ⟨Bd.exec, Bd.bytes, hml, hown, fun w hw => hts w (List.mem_cons_of_mem _ hw), hK, hZ, Bd.returns, Bd.notSynchronized, rfl, rfl, (name_of_methodNamed Bd.named Bd.method).1⟩
  have hl0 := lv_entry av (n := ml) hl
  rw [hlv] at hl0
  rw [lg_entry_eq]
  exact K s.heap [] _ hP hD va_S.rf hl0
section RCS
variable {Γ : CC} {Q : State → Prop} {ws0 L : va_W} {cs ss pc : Nat} {lv : List (Nat × Value)} {st : List Value} {cc : ByteArray} {own : String} {rm : Room} {ret : Option FieldType} {nL : Nat} {nm : String}
theorem ap_at {ws0 L : va_W} {k : Nat} {x : Nat × va_E} (h : L[k]? = some x) : (ws0 ++ L)[ws0.length + k]? = some x := by
  rw [List.getElem?_append_right (by omega)]
  rw [show ws0.length + k - ws0.length = k by omega]
  exact h
theorem ap_set {ws0 L : va_W} {k : Nat} {x : Nat × va_E} : (ws0 ++ L).set (ws0.length + k) x = ws0 ++ L.set k x := by
  rw [List.set_append_right _ _ (by omega)]
  rw [show ws0.length + k - ws0.length = k by omega]
theorem rc_iconst (C : CY Γ cc own rm ret nL nm) {n : Int} {v : Int32} (d : decode cc pc = .ok (.iconst n, 1)) (hv : Int32.ofInt n = v) (k : RC Γ Q ws0 L cs ss (pc + 1) lv (.int v :: st)) : RC Γ Q ws0 L cs ss pc lv (st) := by
  obtain ⟨p, l, e, R, s, m, args, below, meth, c, nL', D, ca, A, tS⟩ := Γ
  obtain ⟨hx, hb, hml, hown, hts, hK, hZ, hr, hlk, rfl, rfl, hnm⟩ := C
  exact fun H locs ls hP hD hS hl => lv_iconst hx hb d hv (k H locs ls hP hD hS hl)
theorem rc_bipush (C : CY Γ cc own rm ret nL nm) {n : Int} {v : Int32} (d : decode cc pc = .ok (.bipush n, 2)) (hv : (Int8.ofInt n).toInt32 = v) (k : RC Γ Q ws0 L cs ss (pc + 2) lv (.int v :: st)) : RC Γ Q ws0 L cs ss pc lv (st) := by
  obtain ⟨p, l, e, R, s, m, args, below, meth, c, nL', D, ca, A, tS⟩ := Γ
  obtain ⟨hx, hb, hml, hown, hts, hK, hZ, hr, hlk, rfl, rfl, hnm⟩ := C
  exact fun H locs ls hP hD hS hl => lv_bipush hx hb d hv (k H locs ls hP hD hS hl)
theorem rc_sipush (C : CY Γ cc own rm ret nL nm) {n : Int} {v : Int32} (d : decode cc pc = .ok (.sipush n, 3)) (hv : (Int16.ofInt n).toInt32 = v) (k : RC Γ Q ws0 L cs ss (pc + 3) lv (.int v :: st)) : RC Γ Q ws0 L cs ss pc lv (st) := by
  obtain ⟨p, l, e, R, s, m, args, below, meth, c, nL', D, ca, A, tS⟩ := Γ
  obtain ⟨hx, hb, hml, hown, hts, hK, hZ, hr, hlk, rfl, rfl, hnm⟩ := C
  exact fun H locs ls hP hD hS hl => lv_sipush hx hb d hv (k H locs ls hP hD hS hl)
theorem rc_lconst (C : CY Γ cc own rm ret nL nm) {n : Fin 2} {v : Int64} (d : decode cc pc = .ok (.lconst n, 1)) (hv : Int64.ofNat (n : Nat) = v) (k : RC Γ Q ws0 L cs ss (pc + 1) lv (.long v :: st)) : RC Γ Q ws0 L cs ss pc lv (st) := by
  obtain ⟨p, l, e, R, s, m, args, below, meth, c, nL', D, ca, A, tS⟩ := Γ
  obtain ⟨hx, hb, hml, hown, hts, hK, hZ, hr, hlk, rfl, rfl, hnm⟩ := C
  exact fun H locs ls hP hD hS hl => lv_lconst hx hb d hv (k H locs ls hP hD hS hl)
theorem rc_iload_n (C : CY Γ cc own rm ret nL nm) {k0 : Fin 4} {i : Nat} {v : Int32} (d : decode cc pc = .ok (.iload_n k0, 1)) (hi : (k0 : Nat) = i) (j : Nat) (hg : lv[j]? = some (i, .int v)) (k : RC Γ Q ws0 L cs ss (pc + 1) lv (.int v :: st)) : RC Γ Q ws0 L cs ss pc lv (st) := by
  obtain ⟨p, l, e, R, s, m, args, below, meth, c, nL', D, ca, A, tS⟩ := Γ
  obtain ⟨hx, hb, hml, hown, hts, hK, hZ, hr, hlk, rfl, rfl, hnm⟩ := C
  exact fun H locs ls hP hD hS hl => lv_iload_n hx hb d hi (lv_at hl j hg) (k H locs ls hP hD hS hl)
theorem rc_aload_n (C : CY Γ cc own rm ret nL nm) {k0 : Fin 4} {i : Nat} {v : Nat} (d : decode cc pc = .ok (.aload_n k0, 1)) (hi : (k0 : Nat) = i) (j : Nat) (hg : lv[j]? = some (i, .ref v)) (k : RC Γ Q ws0 L cs ss (pc + 1) lv (.ref v :: st)) : RC Γ Q ws0 L cs ss pc lv (st) := by
  obtain ⟨p, l, e, R, s, m, args, below, meth, c, nL', D, ca, A, tS⟩ := Γ
  obtain ⟨hx, hb, hml, hown, hts, hK, hZ, hr, hlk, rfl, rfl, hnm⟩ := C
  exact fun H locs ls hP hD hS hl => lv_aload_n hx hb d hi (lv_at hl j hg) (k H locs ls hP hD hS hl)
theorem rc_iadd (C : CY Γ cc own rm ret nL nm) {a b : Int32} (d : decode cc pc = .ok (.iadd, 1)) (k : RC Γ Q ws0 L cs ss (pc + 1) lv (.int (a + b) :: st)) : RC Γ Q ws0 L cs ss pc lv (.int b :: .int a :: st) := by
  obtain ⟨p, l, e, R, s, m, args, below, meth, c, nL', D, ca, A, tS⟩ := Γ
  obtain ⟨hx, hb, hml, hown, hts, hK, hZ, hr, hlk, rfl, rfl, hnm⟩ := C
  exact fun H locs ls hP hD hS hl => lv_iadd hx hb d (k H locs ls hP hD hS hl)
theorem rc_isub (C : CY Γ cc own rm ret nL nm) {a b : Int32} (d : decode cc pc = .ok (.isub, 1)) (k : RC Γ Q ws0 L cs ss (pc + 1) lv (.int (a - b) :: st)) : RC Γ Q ws0 L cs ss pc lv (.int b :: .int a :: st) := by
  obtain ⟨p, l, e, R, s, m, args, below, meth, c, nL', D, ca, A, tS⟩ := Γ
  obtain ⟨hx, hb, hml, hown, hts, hK, hZ, hr, hlk, rfl, rfl, hnm⟩ := C
  exact fun H locs ls hP hD hS hl => lv_isub hx hb d (k H locs ls hP hD hS hl)
theorem rc_imul (C : CY Γ cc own rm ret nL nm) {a b : Int32} (d : decode cc pc = .ok (.imul, 1)) (k : RC Γ Q ws0 L cs ss (pc + 1) lv (.int (a * b) :: st)) : RC Γ Q ws0 L cs ss pc lv (.int b :: .int a :: st) := by
  obtain ⟨p, l, e, R, s, m, args, below, meth, c, nL', D, ca, A, tS⟩ := Γ
  obtain ⟨hx, hb, hml, hown, hts, hK, hZ, hr, hlk, rfl, rfl, hnm⟩ := C
  exact fun H locs ls hP hD hS hl => lv_imul hx hb d (k H locs ls hP hD hS hl)
theorem rc_lor (C : CY Γ cc own rm ret nL nm) {a b : Int64} (d : decode cc pc = .ok (.lor, 1)) (k : RC Γ Q ws0 L cs ss (pc + 1) lv (.long (a ||| b) :: st)) : RC Γ Q ws0 L cs ss pc lv (.long b :: .long a :: st) := by
  obtain ⟨p, l, e, R, s, m, args, below, meth, c, nL', D, ca, A, tS⟩ := Γ
  obtain ⟨hx, hb, hml, hown, hts, hK, hZ, hr, hlk, rfl, rfl, hnm⟩ := C
  exact fun H locs ls hP hD hS hl => lv_lor hx hb d (k H locs ls hP hD hS hl)
theorem rc_lshl (C : CY Γ cc own rm ret nL nm) {a : Int64} {b : Int32} (d : decode cc pc = .ok (.lshl, 1)) (k : RC Γ Q ws0 L cs ss (pc + 1) lv (.long (a <<< (b.toInt64 &&& 63)) :: st)) : RC Γ Q ws0 L cs ss pc lv (.int b :: .long a :: st) := by
  obtain ⟨p, l, e, R, s, m, args, below, meth, c, nL', D, ca, A, tS⟩ := Γ
  obtain ⟨hx, hb, hml, hown, hts, hK, hZ, hr, hlk, rfl, rfl, hnm⟩ := C
  exact fun H locs ls hP hD hS hl => lv_lshl hx hb d rfl (k H locs ls hP hD hS hl)
theorem rc_dup (C : CY Γ cc own rm ret nL nm) {v : Value} (d : decode cc pc = .ok (.dup, 1)) (hv : v.category = 1) (k : RC Γ Q ws0 L cs ss (pc + 1) lv (v :: v :: st)) : RC Γ Q ws0 L cs ss pc lv (v :: st) := by
  obtain ⟨p, l, e, R, s, m, args, below, meth, c, nL', D, ca, A, tS⟩ := Γ
  obtain ⟨hx, hb, hml, hown, hts, hK, hZ, hr, hlk, rfl, rfl, hnm⟩ := C
  exact fun H locs ls hP hD hS hl => lv_dup hx hb d hv (k H locs ls hP hD hS hl)
theorem rc_dup2 (C : CY Γ cc own rm ret nL nm) {v u : Value} (d : decode cc pc = .ok (.dup2, 1)) (hv : v.category = 1) (hu : u.category = 1) (k : RC Γ Q ws0 L cs ss (pc + 1) lv (v :: u :: v :: u :: st)) : RC Γ Q ws0 L cs ss pc lv (v :: u :: st) := by
  obtain ⟨p, l, e, R, s, m, args, below, meth, c, nL', D, ca, A, tS⟩ := Γ
  obtain ⟨hx, hb, hml, hown, hts, hK, hZ, hr, hlk, rfl, rfl, hnm⟩ := C
  exact fun H locs ls hP hD hS hl => lv_dup2_11 hx hb d hv hu (k H locs ls hP hD hS hl)
theorem rc_pop (C : CY Γ cc own rm ret nL nm) {v : Value} (d : decode cc pc = .ok (.pop, 1)) (hv : v.category = 1) (k : RC Γ Q ws0 L cs ss (pc + 1) lv (st)) : RC Γ Q ws0 L cs ss pc lv (v :: st) := by
  obtain ⟨p, l, e, R, s, m, args, below, meth, c, nL', D, ca, A, tS⟩ := Γ
  obtain ⟨hx, hb, hml, hown, hts, hK, hZ, hr, hlk, rfl, rfl, hnm⟩ := C
  exact fun H locs ls hP hD hS hl => lv_pop hx hb d hv (k H locs ls hP hD hS hl)
theorem rc_goto (C : CY Γ cc own rm ret nL nm) {off : Int} (tgt : Nat) (d : decode cc pc = .ok (.goto off, 3)) (ht : (pc : Int) + off = (tgt : Int)) (k : RC Γ Q ws0 L cs ss tgt lv st) : RC Γ Q ws0 L cs ss pc lv st := by
  obtain ⟨p, l, e, R, s, m, args, below, meth, c, nL', D, ca, A, tS⟩ := Γ
  obtain ⟨hx, hb, hml, hown, hts, hK, hZ, hr, hlk, rfl, rfl, hnm⟩ := C
  exact fun H locs ls hP hD hS hl => lv_goto hx hb d ht (k H locs ls hP hD hS hl)
theorem rc_istore_n (C : CY Γ cc own rm ret nL nm) {k0 : Fin 4} {i : Nat} {v : Int32} (lv' : List (Nat × Value)) (d : decode cc pc = .ok (.istore_n k0, 1)) (hi : (k0 : Nat) = i) (hn : i < nL) (hl' : (i, Value.int v) :: lv.filter (fun q => !(q.1 == i) && !(q.1 + 1 == i && q.2.category == 2)) = lv') (k : RC Γ Q ws0 L cs ss (pc + 1) lv' st) : RC Γ Q ws0 L cs ss pc lv (.int v :: st) := by
  obtain ⟨p, l, e, R, s, m, args, below, meth, c, nL', D, ca, A, tS⟩ := Γ
  obtain ⟨hx, hb, hml, hown, hts, hK, hZ, hr, hlk, rfl, rfl, hnm⟩ := C
  exact fun H locs ls hP hD hS hl => lv_istore_n hx hb d hi hl hn hl' (fun ls hl => k H locs ls hP hD hS hl)
theorem rc_astore_n (C : CY Γ cc own rm ret nL nm) {k0 : Fin 4} {i : Nat} {v : Nat} (lv' : List (Nat × Value)) (d : decode cc pc = .ok (.astore_n k0, 1)) (hi : (k0 : Nat) = i) (hn : i < nL) (hl' : (i, Value.ref v) :: lv.filter (fun q => !(q.1 == i) && !(q.1 + 1 == i && q.2.category == 2)) = lv') (k : RC Γ Q ws0 L cs ss (pc + 1) lv' st) : RC Γ Q ws0 L cs ss pc lv (.ref v :: st) := by
  obtain ⟨p, l, e, R, s, m, args, below, meth, c, nL', D, ca, A, tS⟩ := Γ
  obtain ⟨hx, hb, hml, hown, hts, hK, hZ, hr, hlk, rfl, rfl, hnm⟩ := C
  exact fun H locs ls hP hD hS hl => lv_astore_n hx hb d hi hl hn hl' (fun ls hl => k H locs ls hP hD hS hl)
theorem rc_iinc (C : CY Γ cc own rm ret nL nm) {i : Nat} {n : Int} {a v : Int32} (lv' : List (Nat × Value)) (d : decode cc pc = .ok (.iinc i n, 3)) (j : Nat) (hg : lv[j]? = some (i, .int a)) (hv : a + Int32.ofInt n = v) (hn : i < nL) (hl' : (i, Value.int v) :: lv.filter (fun q => !(q.1 == i) && !(q.1 + 1 == i && q.2.category == 2)) = lv') (k : RC Γ Q ws0 L cs ss (pc + 3) lv' st) : RC Γ Q ws0 L cs ss pc lv st := by
  obtain ⟨p, l, e, R, s, m, args, below, meth, c, nL', D, ca, A, tS⟩ := Γ
  obtain ⟨hx, hb, hml, hown, hts, hK, hZ, hr, hlk, rfl, rfl, hnm⟩ := C
  exact fun H locs ls hP hD hS hl => lv_iinc hx hb d hl (k := j) hg hv hn hl' (fun ls hl => k H locs ls hP hD hS hl)
theorem rc_icmp_ge_f (C : CY Γ cc own rm ret nL nm) {a b : Int32} {off : Int} (tgt : Nat) (d : decode cc pc = .ok (.if_icmp .ge off, 3)) (ht : (pc : Int) + off = (tgt : Int)) (h : ¬ b ≤ a) (k : RC Γ Q ws0 L cs ss (pc + 3) lv st) : RC Γ Q ws0 L cs ss pc lv (.int b :: .int a :: st) := by
  obtain ⟨p, l, e, R, s, m, args, below, meth, c, nL', D, ca, A, tS⟩ := Γ
  obtain ⟨hx, hb, hml, hown, hts, hK, hZ, hr, hlk, rfl, rfl, hnm⟩ := C
  exact fun H locs ls hP hD hS hl => lv_icmp_ge hx hb d ht (fun hc => absurd hc h) (fun _ => k H locs ls hP hD hS hl)
theorem rc_icmp_ge_t (C : CY Γ cc own rm ret nL nm) {a b : Int32} {off : Int} (tgt : Nat) (d : decode cc pc = .ok (.if_icmp .ge off, 3)) (ht : (pc : Int) + off = (tgt : Int)) (h : b ≤ a) (k : RC Γ Q ws0 L cs ss tgt lv st) : RC Γ Q ws0 L cs ss pc lv (.int b :: .int a :: st) := by
  obtain ⟨p, l, e, R, s, m, args, below, meth, c, nL', D, ca, A, tS⟩ := Γ
  obtain ⟨hx, hb, hml, hown, hts, hK, hZ, hr, hlk, rfl, rfl, hnm⟩ := C
  exact fun H locs ls hP hD hS hl => lv_icmp_ge hx hb d ht (fun _ => k H locs ls hP hD hS hl) (fun hc => absurd h hc)
theorem rc_if_lt_f (C : CY Γ cc own rm ret nL nm) {a : Int32} {off : Int} (tgt : Nat) (d : decode cc pc = .ok (.ifCond .lt off, 3)) (ht : (pc : Int) + off = (tgt : Int)) (h : ¬ a < 0) (k : RC Γ Q ws0 L cs ss (pc + 3) lv st) : RC Γ Q ws0 L cs ss pc lv (.int a :: st) := by
  obtain ⟨p, l, e, R, s, m, args, below, meth, c, nL', D, ca, A, tS⟩ := Γ
  obtain ⟨hx, hb, hml, hown, hts, hK, hZ, hr, hlk, rfl, rfl, hnm⟩ := C
  exact fun H locs ls hP hD hS hl => lv_if_lt hx hb d ht (fun hc => absurd hc h) (fun _ => k H locs ls hP hD hS hl)
theorem rc_get (C : CY Γ cc own rm ret nL nm) {q ci N kf idx : Nat} {Cn : String} {T : u_T} {ty : Nat → FieldType} {fs : List Value} {v : Value} (cf : CF ci Cn T N ty) (fl : FL own idx T kf) (hk : kf < N) (j : Nat) (he : L[j]? = some (q, .inr (ci, fs))) (hv : fs[kf]? = some v) (d : decode cc pc = .ok (.getfield idx, 3)) (k : RC Γ Q ws0 L cs ss (pc + 3) lv (v :: st)) : RC Γ Q ws0 L cs ss pc lv (.ref q :: st) := by
  obtain ⟨p, l, e, R, s, m, args, below, meth, c, nL', D, ca, A, tS⟩ := Γ
  obtain ⟨hx, hb, hml, hown, hts, hK, hZ, hr, hlk, rfl, rfl, hnm⟩ := C
  exact fun H locs ls hP hD hS hl => va_get (tys := tyC ca) hx hb hts cf.2.1 hown hK hP (ws0.length + j) (ap_at he) cf.1 kf hk (hts _ fl) (fun _ h => h) hv d (k H locs ls hP hD hS hl)
theorem rc_put (C : CY Γ cc own rm ret nL nm) {q ci N kf idx : Nat} {Cn : String} {T : u_T} {ty : Nat → FieldType} {fs : List Value} {v : Value} (L' : va_W) (cf : CF ci Cn T N ty) (fl : FL own idx T kf) (hk : kf < N) (hfin : (T kf).2.2.2 = false) (j : Nat) (he : L[j]? = some (q, .inr (ci, fs))) {fty : FieldType} (hty : ty kf = fty) (hn : narrow fty v = v) (hfit : fits fty v = true) (hlen : kf < fs.length) (hset : L.set j (q, .inr (ci, fs.set kf v)) = L') (d : decode cc pc = .ok (.putfield idx, 3)) (k : RC Γ Q ws0 L' cs ss (pc + 3) lv st) : RC Γ Q ws0 L cs ss pc lv (v :: .ref q :: st) := by
  obtain ⟨p, l, e, R, s, m, args, below, meth, c, nL', D, ca, A, tS⟩ := Γ
  obtain ⟨hx, hb, hml, hown, hts, hK, hZ, hr, hlk, rfl, rfl, hnm⟩ := C
  intro H locs ls hP hD hS hl
  refine va_put (tys := tyC ca) (ty := fty) hx hb hts cf.2.1 ty cf.2.2.1 cf.2.2.2 hown hK hP hD hS (ws0.length + j) (ap_at he) cf.1 kf hk (hts _ fl) (fun _ h => h) hfin (by rw [cf.2.2.1 kf hk, hty]) hn hfit hlen d (fun H1 locs1 hP hD hS => ?_)
  rw [ap_set, hset] at hP hD
  exact k H1 locs1 ls hP hD hS hl
theorem rc_putF (C : CY Γ cc own rm ret nL "<init>") {q ci N kf idx : Nat} {Cn : String} {T : u_T} {ty : Nat → FieldType} {fs : List Value} {v : Value} (L' : va_W) (cf : CF ci Cn T N ty) (fl : FL own idx T kf) (hk : kf < N) (hfin : (T kf).2.2.2 = true) (hdecl : (T kf).1 = own) (j : Nat) (he : L[j]? = some (q, .inr (ci, fs))) {fty : FieldType} (hty : ty kf = fty) (hn : narrow fty v = v) (hfit : fits fty v = true) (hlen : kf < fs.length) (hset : L.set j (q, .inr (ci, fs.set kf v)) = L') (d : decode cc pc = .ok (.putfield idx, 3)) (k : RC Γ Q ws0 L' cs ss (pc + 3) lv st) : RC Γ Q ws0 L cs ss pc lv (v :: .ref q :: st) := by
  obtain ⟨p, l, e, R, s, m, args, below, meth, c, nL', D, ca, A, tS⟩ := Γ
  obtain ⟨hx, hb, hml, hown, hts, hK, hZ, hr, hlk, rfl, rfl, hnm⟩ := C
  intro H locs ls hP hD hS hl
  refine va_putF (tys := tyC ca) (ty := fty) hx hb hts cf.2.1 ty cf.2.2.1 cf.2.2.2 hown hK hP hD hS (ws0.length + j) (ap_at he) cf.1 kf hk (hts _ fl) (fun _ h => h) hfin hnm hdecl (by rw [cf.2.2.1 kf hk, hty]) hn hfit hlen d (fun H1 locs1 hP hD hS => ?_)
  rw [ap_set, hset] at hP hD
  exact k H1 locs1 ls hP hD hS hl
theorem rc_new (C : CY Γ cc own rm ret nL nm) {ci N idx : Nat} {Cn : String} {T : u_T} {ty : Nat → FieldType} {fs : List Value} (L' : Nat → va_W) (cf : CF ci Cn T N ty) (hcl : Cond.classLink own idx Cn ∈ wsL_law) (hinst : Cond.instantiable Cn N ∈ wsL_law) (hini : Cond.initialized Cn ∈ wsL_law) (hfs : ∀ j, j < N → defaultValue (ty j) = vp_V fs j) (hL : ∀ q, L ++ [(q, .inr (ci, fs))] = L' q) (hcells : cs + 1 ≤ rm.cells) (hslots : ss + N ≤ rm.slots) (d : decode cc pc = .ok (.new idx, 3)) (k : ∀ q : Nat, RC Γ Q ws0 (L' q) (cs + 1) (ss + N) (pc + 3) lv (.ref q :: st)) : RC Γ Q ws0 L cs ss pc lv st := by
  obtain ⟨p, l, e, R, s, m, args, below, meth, c, nL', D, ca, A, tS⟩ := Γ
  obtain ⟨hx, hb, hml, hown, hts, hK, hZ, hr, hlk, rfl, rfl, hnm⟩ := C
  intro H locs ls hP hD hS hl
  refine va_new (tys := tyC ca) hx hb hts cf.2.1 ty cf.2.2.1 hown (hts _ hcl) (hts _ hinst) (hts _ hini) hK hP hD hS hZ.2.2.2 cf.1 hfs hcells hslots d (fun q H1 hP hD hS => ?_)
  rw [List.append_assoc, hL] at hP hD
  exact k q H1 locs ls hP hD hS hl
theorem rc_newI (C : CY Γ cc own rm ret nL nm) {n : Int32} {N : Nat} (L' : Nat → va_W) (hac : Cond.arrayClass .int ∈ wsL_law) (hn : ¬ n < 0) (hN : n.toNatClampNeg = N) (hby : N * componentBytes .int ≤ 536870912) (hL : ∀ q, L ++ [(q, .inl (gca Γ 0, N, .inl (fun _ => 0)))] = L' q) (hcells : cs + 1 ≤ rm.cells) (hslots : ss + N ≤ rm.slots) (d : decode cc pc = .ok (.newarray .int, 2)) (k : ∀ q : Nat, RC Γ Q ws0 (L' q) (cs + 1) (ss + N) (pc + 2) lv (.ref q :: st)) : RC Γ Q ws0 L cs ss pc lv (.int n :: st) := by
  obtain ⟨p, l, e, R, s, m, args, below, meth, c, nL', D, ca, A, tS⟩ := Γ
  obtain ⟨hx, hb, hml, hown, hts, hK, hZ, hr, hlk, rfl, rfl, hnm⟩ := C
  intro H locs ls hP hD hS hl
  refine va_newa (atype := .int) (ty := .int) (tys := tyC ca) (a0 := (N, .inl (fun _ => 0))) hx hb (hts _ hac) rfl hK hP hD hS hZ.2.2.2 (fun _ => rfl) hn hN hby hcells hslots d (fun q cA H1 hK2 hP hD hS => ?_)
  have e1 := (hK2.2 5 (cA, .int) rfl).2
  have e2 := (hK.2 0 (ca 0, .int) rfl).2
  have e3 : cA = ca 0 := Option.some.inj (e1.symm.trans e2)
  subst e3
  rw [List.append_assoc] at hP hD
  have hL2 : L ++ [(q, .inl (ca 0, N, .inl (fun _ => 0)))] = L' q := hL q
  rw [hL2] at hP hD
  exact k q H1 locs ls hP hD hS hl
theorem rc_newZ (C : CY Γ cc own rm ret nL nm) {n : Int32} {N : Nat} (L' : Nat → va_W) (hac : Cond.arrayClass .boolean ∈ wsL_law) (hn : ¬ n < 0) (hN : n.toNatClampNeg = N) (hby : N * componentBytes .boolean ≤ 536870912) (hL : ∀ q, L ++ [(q, .inl (gca Γ 1, N, .inl (fun _ => 0)))] = L' q) (hcells : cs + 1 ≤ rm.cells) (hslots : ss + N ≤ rm.slots) (d : decode cc pc = .ok (.newarray .boolean, 2)) (k : ∀ q : Nat, RC Γ Q ws0 (L' q) (cs + 1) (ss + N) (pc + 2) lv (.ref q :: st)) : RC Γ Q ws0 L cs ss pc lv (.int n :: st) := by
  obtain ⟨p, l, e, R, s, m, args, below, meth, c, nL', D, ca, A, tS⟩ := Γ
  obtain ⟨hx, hb, hml, hown, hts, hK, hZ, hr, hlk, rfl, rfl, hnm⟩ := C
  intro H locs ls hP hD hS hl
  refine va_newa (atype := .boolean) (ty := .boolean) (tys := tyC ca) (a0 := (N, .inl (fun _ => 0))) hx hb (hts _ hac) rfl hK hP hD hS hZ.2.2.2 (fun _ => rfl) hn hN hby hcells hslots d (fun q cA H1 hK2 hP hD hS => ?_)
  have e1 := (hK2.2 5 (cA, .boolean) rfl).2
  have e2 := (hK.2 1 (ca 1, .boolean) rfl).2
  have e3 : cA = ca 1 := Option.some.inj (e1.symm.trans e2)
  subst e3
  rw [List.append_assoc] at hP hD
  have hL2 : L ++ [(q, .inl (ca 1, N, .inl (fun _ => 0)))] = L' q := hL q
  rw [hL2] at hP hD
  exact k q H1 locs ls hP hD hS hl
theorem rc_newJ (C : CY Γ cc own rm ret nL nm) {n : Int32} {N : Nat} (L' : Nat → va_W) (hac : Cond.arrayClass .long ∈ wsL_law) (hn : ¬ n < 0) (hN : n.toNatClampNeg = N) (hby : N * componentBytes .long ≤ 536870912) (hL : ∀ q, L ++ [(q, .inl (gca Γ 2, N, .inr (.inl (fun _ => 0))))] = L' q) (hcells : cs + 1 ≤ rm.cells) (hslots : ss + N ≤ rm.slots) (d : decode cc pc = .ok (.newarray .long, 2)) (k : ∀ q : Nat, RC Γ Q ws0 (L' q) (cs + 1) (ss + N) (pc + 2) lv (.ref q :: st)) : RC Γ Q ws0 L cs ss pc lv (.int n :: st) := by
  obtain ⟨p, l, e, R, s, m, args, below, meth, c, nL', D, ca, A, tS⟩ := Γ
  obtain ⟨hx, hb, hml, hown, hts, hK, hZ, hr, hlk, rfl, rfl, hnm⟩ := C
  intro H locs ls hP hD hS hl
  refine va_newa (atype := .long) (ty := .long) (tys := tyC ca) (a0 := (N, .inr (.inl (fun _ => 0)))) hx hb (hts _ hac) rfl hK hP hD hS hZ.2.2.2 (fun _ => rfl) hn hN hby hcells hslots d (fun q cA H1 hK2 hP hD hS => ?_)
  have e1 := (hK2.2 5 (cA, .long) rfl).2
  have e2 := (hK.2 2 (ca 2, .long) rfl).2
  have e3 : cA = ca 2 := Option.some.inj (e1.symm.trans e2)
  subst e3
  rw [List.append_assoc] at hP hD
  have hL2 : L ++ [(q, .inl (ca 2, N, .inr (.inl (fun _ => 0))))] = L' q := hL q
  rw [hL2] at hP hD
  exact k q H1 locs ls hP hD hS hl
theorem rc_newqW (C : CY Γ cc own rm ret nL nm) {n : Int32} {N idx : Nat} (L' : Nat → va_W) (hcl : Cond.classLink own idx RX10 ∈ wsL_law) (hn : ¬ n < 0) (hN : n.toNatClampNeg = N) (hby : N * 4 ≤ 536870912) (hL : ∀ q, L ++ [(q, .inl (gca Γ 3, N, .inr (.inr (.inr (.inr (fun _ => none))))))] = L' q) (hcells : cs + 1 ≤ rm.cells) (hslots : ss + N ≤ rm.slots) (d : decode cc pc = .ok (.anewarray idx, 3)) (k : ∀ q : Nat, RC Γ Q ws0 (L' q) (cs + 1) (ss + N) (pc + 3) lv (.ref q :: st)) : RC Γ Q ws0 L cs ss pc lv (.int n :: st) := by
  obtain ⟨p, l, e, R, s, m, args, below, meth, c, nL', D, ca, A, tS⟩ := Γ
  obtain ⟨hx, hb, hml, hown, hts, hK, hZ, hr, hlk, rfl, rfl, hnm⟩ := C
  intro H locs ls hP hD hS hl
  refine va_newq (C := RX10) (tys := tyC ca) hx hb hown (hts _ hcl) hZ.2.1.1 hK hP hD hS hZ.2.2.2 hn hN hby hcells hslots d (fun q cA H1 hK2 hP hD hS => ?_)
  obtain ⟨_, _, _, _, _, e1⟩ := (hK2.2 5 (cA, .object RX10) rfl).2
  obtain ⟨_, _, _, _, _, e2⟩ := (hK.2 3 (ca 3, .object RX10) rfl).2
  have e3 : cA = ca 3 := Option.some.inj (e1.symm.trans e2)
  subst e3
  rw [List.append_assoc] at hP hD
  have hL2 : L ++ [(q, .inl (ca 3, N, .inr (.inr (.inr (.inr (fun _ => none))))))] = L' q := hL q
  rw [hL2] at hP hD
  exact k q H1 locs ls hP hD hS hl
theorem rc_astW (C : CY Γ cc own rm ret nL nm) {q n v ci N : Nat} {T : u_T} {f : Nat → Option Nat} {vs : List Value} {i : Int32} (L' : va_W) (j : Nat) (ha : L[j]? = some (q, .inl (gca Γ 3, n, .inr (.inr (.inr (.inr f)))))) (jv : Nat) (hv : L[jv]? = some (v, .inr (ci, vs))) (hc : vwCl[ci]? = some (RX10, T, N)) (hin : vp_in i n) (hset : L.set j (q, .inl (gca Γ 3, n, .inr (.inr (.inr (.inr (va_up f i.toNatClampNeg (some v))))))) = L') (d : decode cc pc = .ok (.aastore, 1)) (k : RC Γ Q ws0 L' cs ss (pc + 1) lv st) : RC Γ Q ws0 L cs ss pc lv (.ref v :: .int i :: .ref q :: st) := by
  obtain ⟨p, l, e, R, s, m, args, below, meth, c, nL', D, ca, A, tS⟩ := Γ
  obtain ⟨hx, hb, hml, hown, hts, hK, hZ, hr, hlk, rfl, rfl, hnm⟩ := C
  intro H locs ls hP hD hS hl
  refine va_astq (tys := tyC ca) hx hb hK hP hD hS (ws0.length + j) 3 (ws0.length + jv) ci (ap_at ha) rfl (ap_at hv) hc hin d (fun H1 locs1 hP hD hS => ?_)
  have hset2 : L.set j (q, .inl (ca 3, n, .inr (.inr (.inr (.inr (va_up f i.toNatClampNeg (some v))))))) = L' := hset
  have hP : va_P D vwCl ((ws0 ++ L).set (ws0.length + j) (q, .inl (ca 3, n, .inr (.inr (.inr (.inr (va_up f i.toNatClampNeg (some v)))))))) H1 := hP
  have hD : va_D A ((ws0 ++ L).set (ws0.length + j) (q, .inl (ca 3, n, .inr (.inr (.inr (.inr (va_up f i.toNatClampNeg (some v)))))))) := hD
  rw [ap_set, hset2] at hP hD
  exact k H1 locs1 ls hP hD hS hl
theorem rc_aldW (C : CY Γ cc own rm ret nL nm) {q n v : Nat} {f : Nat → Option Nat} {i : Int32} (j : Nat) (ha : L[j]? = some (q, .inl (gca Γ 3, n, .inr (.inr (.inr (.inr f)))))) (hin : vp_in i n) (hv : f i.toNatClampNeg = some v) (d : decode cc pc = .ok (.aaload, 1)) (k : RC Γ Q ws0 L cs ss (pc + 1) lv (.ref v :: st)) : RC Γ Q ws0 L cs ss pc lv (.int i :: .ref q :: st) := by
  obtain ⟨p, l, e, R, s, m, args, below, meth, c, nL', D, ca, A, tS⟩ := Γ
  obtain ⟨hx, hb, hml, hown, hts, hK, hZ, hr, hlk, rfl, rfl, hnm⟩ := C
  intro H locs ls hP hD hS hl
  refine va_aldq (tys := tyC ca) hx hb hK hP (ws0.length + j) 3 (ap_at ha) rfl hin d ?_
  rw [hv]
  exact k H locs ls hP hD hS hl
theorem rc_newqG (C : CY Γ cc own rm ret nL nm) {n : Int32} {N idx : Nat} (L' : Nat → va_W) (hcl : Cond.classLink own idx RX4 ∈ wsL_law) (hn : ¬ n < 0) (hN : n.toNatClampNeg = N) (hby : N * 4 ≤ 536870912) (hL : ∀ q, L ++ [(q, .inl (gca Γ 4, N, .inr (.inr (.inr (.inr (fun _ => none))))))] = L' q) (hcells : cs + 1 ≤ rm.cells) (hslots : ss + N ≤ rm.slots) (d : decode cc pc = .ok (.anewarray idx, 3)) (k : ∀ q : Nat, RC Γ Q ws0 (L' q) (cs + 1) (ss + N) (pc + 3) lv (.ref q :: st)) : RC Γ Q ws0 L cs ss pc lv (.int n :: st) := by
  obtain ⟨p, l, e, R, s, m, args, below, meth, c, nL', D, ca, A, tS⟩ := Γ
  obtain ⟨hx, hb, hml, hown, hts, hK, hZ, hr, hlk, rfl, rfl, hnm⟩ := C
  intro H locs ls hP hD hS hl
  refine va_newq (C := RX4) (tys := tyC ca) hx hb hown (hts _ hcl) hZ.2.1.2 hK hP hD hS hZ.2.2.2 hn hN hby hcells hslots d (fun q cA H1 hK2 hP hD hS => ?_)
  obtain ⟨_, _, _, _, _, e1⟩ := (hK2.2 5 (cA, .object RX4) rfl).2
  obtain ⟨_, _, _, _, _, e2⟩ := (hK.2 4 (ca 4, .object RX4) rfl).2
  have e3 : cA = ca 4 := Option.some.inj (e1.symm.trans e2)
  subst e3
  rw [List.append_assoc] at hP hD
  have hL2 : L ++ [(q, .inl (ca 4, N, .inr (.inr (.inr (.inr (fun _ => none))))))] = L' q := hL q
  rw [hL2] at hP hD
  exact k q H1 locs ls hP hD hS hl
theorem rc_astG (C : CY Γ cc own rm ret nL nm) {q n v ci N : Nat} {T : u_T} {f : Nat → Option Nat} {vs : List Value} {i : Int32} (L' : va_W) (j : Nat) (ha : L[j]? = some (q, .inl (gca Γ 4, n, .inr (.inr (.inr (.inr f)))))) (jv : Nat) (hv : L[jv]? = some (v, .inr (ci, vs))) (hc : vwCl[ci]? = some (RX4, T, N)) (hin : vp_in i n) (hset : L.set j (q, .inl (gca Γ 4, n, .inr (.inr (.inr (.inr (va_up f i.toNatClampNeg (some v))))))) = L') (d : decode cc pc = .ok (.aastore, 1)) (k : RC Γ Q ws0 L' cs ss (pc + 1) lv st) : RC Γ Q ws0 L cs ss pc lv (.ref v :: .int i :: .ref q :: st) := by
  obtain ⟨p, l, e, R, s, m, args, below, meth, c, nL', D, ca, A, tS⟩ := Γ
  obtain ⟨hx, hb, hml, hown, hts, hK, hZ, hr, hlk, rfl, rfl, hnm⟩ := C
  intro H locs ls hP hD hS hl
  refine va_astq (tys := tyC ca) hx hb hK hP hD hS (ws0.length + j) 4 (ws0.length + jv) ci (ap_at ha) rfl (ap_at hv) hc hin d (fun H1 locs1 hP hD hS => ?_)
  have hset2 : L.set j (q, .inl (ca 4, n, .inr (.inr (.inr (.inr (va_up f i.toNatClampNeg (some v))))))) = L' := hset
  have hP : va_P D vwCl ((ws0 ++ L).set (ws0.length + j) (q, .inl (ca 4, n, .inr (.inr (.inr (.inr (va_up f i.toNatClampNeg (some v)))))))) H1 := hP
  have hD : va_D A ((ws0 ++ L).set (ws0.length + j) (q, .inl (ca 4, n, .inr (.inr (.inr (.inr (va_up f i.toNatClampNeg (some v)))))))) := hD
  rw [ap_set, hset2] at hP hD
  exact k H1 locs1 ls hP hD hS hl
theorem rc_aldG (C : CY Γ cc own rm ret nL nm) {q n v : Nat} {f : Nat → Option Nat} {i : Int32} (j : Nat) (ha : L[j]? = some (q, .inl (gca Γ 4, n, .inr (.inr (.inr (.inr f)))))) (hin : vp_in i n) (hv : f i.toNatClampNeg = some v) (d : decode cc pc = .ok (.aaload, 1)) (k : RC Γ Q ws0 L cs ss (pc + 1) lv (.ref v :: st)) : RC Γ Q ws0 L cs ss pc lv (.int i :: .ref q :: st) := by
  obtain ⟨p, l, e, R, s, m, args, below, meth, c, nL', D, ca, A, tS⟩ := Γ
  obtain ⟨hx, hb, hml, hown, hts, hK, hZ, hr, hlk, rfl, rfl, hnm⟩ := C
  intro H locs ls hP hD hS hl
  refine va_aldq (tys := tyC ca) hx hb hK hP (ws0.length + j) 4 (ap_at ha) rfl hin d ?_
  rw [hv]
  exact k H locs ls hP hD hS hl
theorem rc_alenW (C : CY Γ cc own rm ret nL nm) {q n : Nat} {f : Nat → Option Nat} {v : Int32} (j : Nat) (ha : L[j]? = some (q, .inl (gca Γ 3, n, .inr (.inr (.inr (.inr f)))))) (hv : Int32.ofNat n = v) (d : decode cc pc = .ok (.arraylength, 1)) (k : RC Γ Q ws0 L cs ss (pc + 1) lv (.int v :: st)) : RC Γ Q ws0 L cs ss pc lv (.ref q :: st) := by
  obtain ⟨p, l, e, R, s, m, args, below, meth, c, nL', D, ca, A, tS⟩ := Γ
  obtain ⟨hx, hb, hml, hown, hts, hK, hZ, hr, hlk, rfl, rfl, hnm⟩ := C
  exact fun H locs ls hP hD hS hl => va_alen (tys := tyC ca) hx hb hK hP (ws0.length + j) 3 (ap_at ha) rfl hv d (k H locs ls hP hD hS hl)
theorem rc_iast (C : CY Γ cc own rm ret nL nm) {q n : Nat} {f : Nat → Int32} {i x : Int32} (L' : va_W) (j : Nat) (ha : L[j]? = some (q, .inl (gca Γ 0, n, .inl f))) (hin : vp_in i n) (hset : L.set j (q, .inl (gca Γ 0, n, .inl (upd f i.toNatClampNeg x))) = L') (d : decode cc pc = .ok (.iastore, 1)) (k : RC Γ Q ws0 L' cs ss (pc + 1) lv st) : RC Γ Q ws0 L cs ss pc lv (.int x :: .int i :: .ref q :: st) := by
  obtain ⟨p, l, e, R, s, m, args, below, meth, c, nL', D, ca, A, tS⟩ := Γ
  obtain ⟨hx, hb, hml, hown, hts, hK, hZ, hr, hlk, rfl, rfl, hnm⟩ := C
  intro H locs ls hP hD hS hl
  refine va_iast (tys := tyC ca) hx hb hK hP hD hS (ws0.length + j) 0 (ap_at ha) rfl hin d (fun H1 locs1 hP hD hS => ?_)
  have hset2 : L.set j (q, .inl (ca 0, n, .inl (upd f i.toNatClampNeg x))) = L' := hset
  have hP : va_P D vwCl ((ws0 ++ L).set (ws0.length + j) (q, .inl (ca 0, n, .inl (upd f i.toNatClampNeg x)))) H1 := hP
  have hD : va_D A ((ws0 ++ L).set (ws0.length + j) (q, .inl (ca 0, n, .inl (upd f i.toNatClampNeg x)))) := hD
  rw [ap_set, hset2] at hP hD
  exact k H1 locs1 ls hP hD hS hl
theorem rc_last (C : CY Γ cc own rm ret nL nm) {q n : Nat} {f : Nat → Int64} {i : Int32} {x : Int64} (L' : va_W) (j : Nat) (ha : L[j]? = some (q, .inl (gca Γ 2, n, .inr (.inl f)))) (hin : vp_in i n) (hset : L.set j (q, .inl (gca Γ 2, n, .inr (.inl (vp_updL f i.toNatClampNeg x)))) = L') (d : decode cc pc = .ok (.lastore, 1)) (k : RC Γ Q ws0 L' cs ss (pc + 1) lv st) : RC Γ Q ws0 L cs ss pc lv (.long x :: .int i :: .ref q :: st) := by
  obtain ⟨p, l, e, R, s, m, args, below, meth, c, nL', D, ca, A, tS⟩ := Γ
  obtain ⟨hx, hb, hml, hown, hts, hK, hZ, hr, hlk, rfl, rfl, hnm⟩ := C
  intro H locs ls hP hD hS hl
  refine va_last (tys := tyC ca) hx hb hK hP hD hS (ws0.length + j) 2 (ap_at ha) rfl hin d (fun H1 locs1 hP hD hS => ?_)
  have hset2 : L.set j (q, .inl (ca 2, n, .inr (.inl (vp_updL f i.toNatClampNeg x)))) = L' := hset
  have hP : va_P D vwCl ((ws0 ++ L).set (ws0.length + j) (q, .inl (ca 2, n, .inr (.inl (vp_updL f i.toNatClampNeg x))))) H1 := hP
  have hD : va_D A ((ws0 ++ L).set (ws0.length + j) (q, .inl (ca 2, n, .inr (.inl (vp_updL f i.toNatClampNeg x))))) := hD
  rw [ap_set, hset2] at hP hD
  exact k H1 locs1 ls hP hD hS hl
theorem rc_lald (C : CY Γ cc own rm ret nL nm) {q n : Nat} {f : Nat → Int64} {i : Int32} (j : Nat) (ha : L[j]? = some (q, .inl (gca Γ 2, n, .inr (.inl f)))) (hin : vp_in i n) (d : decode cc pc = .ok (.laload, 1)) (k : RC Γ Q ws0 L cs ss (pc + 1) lv (.long (f i.toNatClampNeg) :: st)) : RC Γ Q ws0 L cs ss pc lv (.int i :: .ref q :: st) := by
  obtain ⟨p, l, e, R, s, m, args, below, meth, c, nL', D, ca, A, tS⟩ := Γ
  obtain ⟨hx, hb, hml, hown, hts, hK, hZ, hr, hlk, rfl, rfl, hnm⟩ := C
  exact fun H locs ls hP hD hS hl => va_lald (tys := tyC ca) hx hb hK hP (ws0.length + j) 2 (ap_at ha) rfl hin d (k H locs ls hP hD hS hl)
theorem rc_obj (C : CY Γ cc own rm ret nL nm) {a idx : Nat} (hl' : Cond.methodLink own idx objectInit ∈ wsL_law) (hi : Cond.instanceMethod objectInit ∈ wsL_law) (hc : Cond.code objectInit ⟨#[0xb1]⟩ 1 none ∈ wsL_law) (hf : 1 ≤ rm.frames) (hR : (st.map fun v => v.category).sum + 12 ≤ rm.locals) (d : decode cc pc = .ok (.invokespecial idx, 3)) (k : RC Γ Q ws0 L cs ss (pc + 3) lv st) : RC Γ Q ws0 L cs ss pc lv (.ref a :: st) := by
  obtain ⟨p, l, e, R, s, m, args, below, meth, c, nL', D, ca, A, tS⟩ := Γ
  obtain ⟨hx, hb, hml, hown, hts, hK, hZ, hr, hlk, rfl, rfl, hnm⟩ := C
  intro H locs ls hP hD hS hl
  exact W.objInit (g := F0 m pc ls (.ref a :: st)) hx hb hown (hts _ hl') (hts _ hi) (hts _ hc) rfl (by rw [hml]; exact hl.1) rfl d hf (by show 2 * 0 + _ + 12 ≤ _; omega) (k H locs ls hP hD hS hl)
theorem rc_mmax (C : CY Γ cc own rm ret nL nm) {a b v : Int32} {idx : Nat} (hl' : Cond.methodLink own idx Lib.Math.max.name ∈ wsL_law) (hf : 1 ≤ rm.frames) (hR : (st.map fun v => v.category).sum + 13 ≤ rm.locals) (hcs : cs ≤ rm.cells ∧ ss ≤ rm.slots) (hm : Cond.static Lib.Math.max.name ∈ wsL_law ∧ Cond.initialized "java/lang/Math" ∈ wsL_law ∧ Cond.code Lib.Math.max.name Lib.Math.max.code 2 (some .int) ∈ wsL_law) (hv : (if a < b then b else a) = v) (d : decode cc pc = .ok (.invokestatic idx, 3)) (k : RC Γ Q ws0 L cs ss (pc + 3) lv (.int v :: st)) : RC Γ Q ws0 L cs ss pc lv (.int b :: .int a :: st) := by
  obtain ⟨p, l, e, R, s, m, args, below, meth, c, nL', D, ca, A, tS⟩ := Γ
  obtain ⟨hx, hb, hml, hown, hts, hK, hZ, hr, hlk, rfl, rfl, hnm⟩ := C
  subst hv
  exact fun H locs ls hP hD hS hl => va_mmax hx hb (hml.trans hl.1.symm) hown (hts _ hl') (hts _ hm.1) (hts _ hm.2.1) (hts _ hm.2.2) hf hR hcs.1 hcs.2 d (k H locs ls hP hD hS hl)
theorem va_P.perm {D : va_G} {cl : List vw_C} {ws0 L L' : va_W} {H : Heap} (is : List Nat) (hs : is.map (fun i => L[i]?) = L'.map some) (h : va_P D cl (ws0 ++ L) H) : va_P D cl (ws0 ++ L') H := by
  intro k q hk
  rcases List.mem_append.mp (List.mem_of_getElem? hk) with h1 | h1
  · obtain ⟨i, hi⟩ := List.getElem?_of_mem h1
    exact h i q (by rw [List.getElem?_append_left (List.getElem?_eq_some_iff.mp hi).1]; exact hi)
  · have h2 : some q ∈ L'.map some := List.mem_map.mpr ⟨q, h1, rfl⟩
    rw [← hs] at h2
    obtain ⟨i, -, hi⟩ := List.mem_map.mp h2
    exact h (ws0.length + i) q (ap_at hi)
theorem va_D.perm {A : Nat → Prop} {ws0 L L' : va_W} (is : List Nat) (hn : va_nd is = true) (hs : is.map (fun i => L[i]?) = L'.map some) (h : va_D A (ws0 ++ L)) : va_D A (ws0 ++ L') := by
  have key : ∀ (k : Nat) (q : Nat × va_E), (ws0 ++ L')[k]? = some q → ∃ i, (ws0 ++ L)[i]? = some q ∧ ((k < ws0.length ∧ i = k) ∨ (ws0.length ≤ k ∧ ∃ j, is[k - ws0.length]? = some j ∧ i = ws0.length + j)) := by
    intro k q hk
    by_cases hl : k < ws0.length
    · rw [List.getElem?_append_left hl] at hk
      exact ⟨k, by rw [List.getElem?_append_left hl]; exact hk, Or.inl ⟨hl, rfl⟩⟩
    · rw [List.getElem?_append_right (by omega)] at hk
      have h1 : (is.map (fun i => L[i]?))[k - ws0.length]? = some (some q) := by rw [hs, List.getElem?_map, hk]; rfl
      rw [List.getElem?_map] at h1
      cases hi : is[k - ws0.length]? with
      | none => rw [hi] at h1; cases h1
      | some j =>
        rw [hi] at h1
        exact ⟨ws0.length + j, ap_at (Option.some.inj h1), Or.inr ⟨by omega, j, rfl, rfl⟩⟩
  refine ⟨fun i j x y hi hj hxy => ?_, fun k q hk => ?_⟩
  · obtain ⟨a, h1, h2⟩ := key i x hi
    obtain ⟨b, h3, h4⟩ := key j y hj
    have hab := h.1 a b x y h1 h3 hxy
    rcases h2 with ⟨e1, e2⟩ | ⟨e1, j1, e2, e3⟩ <;> rcases h4 with ⟨f1, f2⟩ | ⟨f1, j2, f2, f3⟩
    · omega
    · omega
    · omega
    · have : j1 = j2 := by omega
      subst this
      have := va_nd_inj is hn _ _ _ e2 f2
      omega
  · obtain ⟨i, h1, -⟩ := key k q hk
    exact h.2 i q h1
theorem rc_perm {L' : va_W} (is : List Nat) (hn : va_nd is = true) (hs : is.map (fun i => L[i]?) = L'.map some) (k : RC Γ Q ws0 L' cs ss pc lv st) : RC Γ Q ws0 L cs ss pc lv st := by
  obtain ⟨p, l, e, R, s, m, args, below, meth, c, nL', D, ca, A, tS⟩ := Γ
  exact fun H locs ls hP hD hS hl => k H locs ls (hP.perm is hs) (hD.perm is hn hs) hS hl
theorem rc_vret {bl : (Nat → Nat) → va_W} (C : CY Γ cc own rm none nL nm) (ad : Nat → Nat) (hL : L = bl ad) {mc ms : Nat} (h1 : cs = mc) (h2 : ss = ms) (d : decode cc pc = .ok (.return_, 1)) : RC Γ (QV Γ mc ms ws0 bl) ws0 L cs ss pc lv [] := by
  obtain ⟨p, l, e, R, s, m, args, below, meth, c, nL', D, ca, A, tS⟩ := Γ
  obtain ⟨hx, hb, hml, hown, hts, hK, hZ, hr, hlk, rfl, rfl, hnm⟩ := C
  subst h1; subst h2
  intro H locs ls hP hD hS hl
  rw [hL] at hP hD
  exact W.vret hx hb hr (fun t ht hW => ⟨⟨ad, rfl, trivial, CS.of hP hD hS hK hZ ht hW⟩, hS.F ht⟩) hS.2.2 d hlk
theorem rc_aret {bl : (Nat → Nat) → va_W} {tn : FieldType} (C : CY Γ cc own rm (some (.array tn)) nL nm) (ad : Nat → Nat) {a : Nat} (ha : a = ad 0) (hL : L = bl ad) {mc ms : Nat} (h1 : cs = mc) (h2 : ss = ms) (d : decode cc pc = .ok (.areturn, 1)) : RC Γ (QR Γ mc ms ws0 bl) ws0 L cs ss pc lv [.ref a] := by
  obtain ⟨p, l, e, R, s, m, args, below, meth, c, nL', D, ca, A, tS⟩ := Γ
  obtain ⟨hx, hb, hml, hown, hts, hK, hZ, hr, hlk, rfl, rfl, hnm⟩ := C
  subst h1; subst h2
  intro H locs ls hP hD hS hl
  rw [hL] at hP hD
  exact W.aret hx hb hr (Or.inr ⟨_, rfl⟩) (Or.inr ⟨_, rfl⟩) (fun t ht hW => ⟨⟨ad, a, rfl, trivial, ha, CS.of hP hD hS hK hZ ht hW⟩, hS.F ht⟩) hS.2.2 d hlk
theorem rc_ctor (C : CY Γ cc own rm ret nL nm) {y : MethodName} {cd : ByteArray} {ml n idx h : Nat} {rmc : Room} {av : List Value} {L1 L2 : va_W} {bl : (Nat → Nat) → va_W} (As : List Value) (L' : (Nat → Nat) → va_W) (ct : ∀ D A tS, Cn (gLc Γ) y cd ml rmc av D (gca Γ) A tS (ws0 ++ L1) L2 bl) (mf : MF y cd ml none n) (hi : Cond.instanceMethod y ∈ wsL_law) (hyn : y.name = "<init>") (lk : ML own idx y) (hL : L = L1 ++ L2) (hL' : ∀ ad, L1 ++ bl ad = L' ad) (hav : av = .ref h :: As) (hn : As.length = n) {st0 : List Value} (hst : st0 = As.reverse ++ .ref h :: st) (hcat : (st.map fun v => v.category).sum ≤ 8) (hR : rmc.frames + 1 ≤ rm.frames ∧ 8 + (ml + 11) + rmc.locals ≤ rm.locals) (hf : cs + rmc.cells ≤ rm.cells ∧ ss + rmc.slots ≤ rm.slots) (d : decode cc pc = .ok (.invokespecial idx, 3)) (k : ∀ ad : Nat → Nat, RC Γ Q ws0 (L' ad) (cs + rmc.cells) (ss + rmc.slots) (pc + 3) lv st) : RC Γ Q ws0 L cs ss pc lv st0 := by
  obtain ⟨p, l, e, R, s, m, args, below, meth, c, nL', D, ca, A, tS⟩ := Γ
  obtain ⟨hx, hb, hml, hown, hts, hK, hZ, hr, hlk, rfl, rfl, hnm⟩ := C
  intro H locs ls hP hD hS hl
  rw [hL, ← List.append_assoc] at hP hD
  have hM := ct D A tS
  rw [hav] at hM
  refine va_callv (va_runI (As := As) (rest := st) (n := n) ⟨hx, hb, hml, hown, hts⟩ hM ⟨callB_of n hts (wsB_good mf.1) rfl rfl rfl (hts _ mf.2.1) (hts _ lk) mf.2.2 hR, hyn, hts _ hi⟩ ⟨CS.blind, fun U hU hW => ⟨rfl, CS.of hP hD hS hK hZ hU hW⟩⟩ rfl hn hl.1 hst (lv_room hcat) d hf) hS (fun _ _ h => h) (fun _ h => h) (fun ad t H1 locs1 ht hvm hw hB hz1 hk1 hS1 => ?_)
  have hP1 := hB.1
  have hD1 := hB.2.1
  rw [List.append_assoc, hL'] at hP1 hD1
  exact k ad H1 locs1 ls (by rw [← ht]; exact hP1) hD1 hS1 hl
theorem rc_ctorN (C : CY Γ cc own rm ret nL nm) {y : MethodName} {cd : ByteArray} {ml n idx h : Nat} {rmc : Room} {av : List Value} {L1 L2 : va_W} {bl : (Nat → Nat) → va_W} (As : List Value) (L' : (Nat → Nat) → va_W) (ct : ∀ D A tS, Cn (gLc Γ) y cd ml rmc av D (gca Γ) A tS (ws0 ++ L1) L2 bl) (mf : MF y cd ml none n) (hi : Cond.instanceMethod y ∈ wsL_law) (hyn : y.name = "<init>") (lk : (own, idx, y) ∈ nestM) (hL : L = L1 ++ L2) (hL' : ∀ ad, L1 ++ bl ad = L' ad) (hav : av = .ref h :: As) (hn : As.length = n) {st0 : List Value} (hst : st0 = As.reverse ++ .ref h :: st) (hcat : (st.map fun v => v.category).sum ≤ 8) (hR : rmc.frames + 1 ≤ rm.frames ∧ 8 + (ml + 11) + rmc.locals ≤ rm.locals) (hf : cs + rmc.cells ≤ rm.cells ∧ ss + rmc.slots ≤ rm.slots) (d : decode cc pc = .ok (.invokespecial idx, 3)) (k : ∀ ad : Nat → Nat, RC Γ Q ws0 (L' ad) (cs + rmc.cells) (ss + rmc.slots) (pc + 3) lv st) : RC Γ Q ws0 L cs ss pc lv st0 := by
  obtain ⟨p, l, e, R, s, m, args, below, meth, c, nL', D, ca, A, tS⟩ := Γ
  obtain ⟨hx, hb, hml, hown, hts, hK, hZ, hr, hlk, rfl, rfl, hnm⟩ := C
  intro H locs ls hP hD hS hl
  rw [hL, ← List.append_assoc] at hP hD
  have hM := ct D A tS
  rw [hav] at hM
  refine va_callv (va_runIN (host := RX11) (As := As) (rest := st) (n := n) ⟨hx, hb, hml, hown, hts⟩ hM ⟨va_cnB n hts (wsB_good mf.1) rfl rfl rfl (hZ.1.1 _ lk) (hts _ mf.2.1) mf.2.2 hR, hyn, hts _ hi⟩ ⟨CS.blind, fun U hU hW => ⟨rfl, CS.of hP hD hS hK hZ hU hW⟩⟩ rfl hn hl.1 hst (lv_room hcat) d hf) hS (fun _ _ h => h) (fun _ h => h) (fun ad t H1 locs1 ht hvm hw hB hz1 hk1 hS1 => ?_)
  have hP1 := hB.1
  have hD1 := hB.2.1
  rw [List.append_assoc, hL'] at hP1 hD1
  exact k ad H1 locs1 ls (by rw [← ht]; exact hP1) hD1 hS1 hl
theorem rc_virt (C : CY Γ cc own rm ret nL nm) {y : MethodName} {cd : ByteArray} {ml n idx h ci N : Nat} {T : u_T} {fs : List Value} {rmc : Room} {av : List Value} {L1 L2 : va_W} {bl : (Nat → Nat) → va_W} (As : List Value) (L' : va_W) (ct : ∀ D A tS, Cn (gLc Γ) y cd ml rmc av D (gca Γ) A tS (ws0 ++ L1) L2 bl) (mf : MF y cd ml none n) (mv : MV y) (lk : ML own idx y) (hc : vwCl[ci]? = some (y.cls, T, N)) (j : Nat) (he : L[j]? = some (h, .inr (ci, fs))) (hL : L = L1 ++ L2) (hL' : ∀ ad, L1 ++ bl ad = L') (hav : av = .ref h :: As) (hn : As.length = n) {st0 : List Value} (hst : st0 = As.reverse ++ .ref h :: st) (hcat : (st.map fun v => v.category).sum ≤ 8) (hR : rmc.frames + 1 ≤ rm.frames ∧ 8 + (ml + 11) + rmc.locals ≤ rm.locals) (hf : cs + rmc.cells ≤ rm.cells ∧ ss + rmc.slots ≤ rm.slots) (d : decode cc pc = .ok (.invokevirtual idx, 3)) (k : RC Γ Q ws0 L' (cs + rmc.cells) (ss + rmc.slots) (pc + 3) lv st) : RC Γ Q ws0 L cs ss pc lv st0 := by
  obtain ⟨p, l, e, R, s, m, args, below, meth, c, nL', D, ca, A, tS⟩ := Γ
  obtain ⟨hx, hb, hml, hown, hts, hK, hZ, hr, hlk, rfl, rfl, hnm⟩ := C
  intro H locs ls hP hD hS hl
  have hrv := va_recv hK hP hc (ap_at he)
  rw [hL, ← List.append_assoc] at hP hD
  have hM := ct D A tS
  rw [hav] at hM
  refine va_callv (va_runV (C := y.cls) (As := As) (rest := st) (n := n) ⟨hx, hb, hml, hown, hts⟩ hM ⟨callB_of n hts (wsB_good mf.1) rfl rfl rfl (hts _ mf.2.1) (hts _ lk) mf.2.2 hR, hts _ mv.1, hts _ mv.2⟩ ⟨CS.blind, hrv, fun U hU hW => ⟨rfl, CS.of hP hD hS hK hZ hU hW⟩⟩ rfl hn hl.1 hst (lv_room hcat) d hf) hS (fun _ _ h => h) (fun _ h => h) (fun ad t H1 locs1 ht hvm hw hB hz1 hk1 hS1 => ?_)
  have hP1 := hB.1
  have hD1 := hB.2.1
  rw [List.append_assoc, hL' ad] at hP1 hD1
  exact k H1 locs1 ls (by rw [← ht]; exact hP1) hD1 hS1 hl
theorem rc_stat (C : CY Γ cc own rm ret nL nm) {y : MethodName} {cd : ByteArray} {ml n idx : Nat} {rt : Option FieldType} {rmc : Room} {bl : (Nat → Nat) → va_W} (As : List Value) (L' : (Nat → Nat) → va_W) (ct : ∀ D A tS, Cr (gLc Γ) y cd ml rt rmc As D (gca Γ) A tS (ws0 ++ L) [] bl) (mf : MF y cd ml rt n) (mv : MS y) (lk : ML own idx y) (hL' : ∀ ad, L ++ bl ad = L' ad) (hn : As.length = n) {st0 : List Value} (hst : st0 = As.reverse ++ st) (hcat : (st.map fun v => v.category).sum ≤ 8) (hR : rmc.frames + 1 ≤ rm.frames ∧ 8 + (ml + 11) + rmc.locals ≤ rm.locals) (hf : cs + rmc.cells ≤ rm.cells ∧ ss + rmc.slots ≤ rm.slots) (d : decode cc pc = .ok (.invokestatic idx, 3)) (k : ∀ ad : Nat → Nat, RC Γ Q ws0 (L' ad) (cs + rmc.cells) (ss + rmc.slots) (pc + 3) lv (.ref (ad 0) :: st)) : RC Γ Q ws0 L cs ss pc lv st0 := by
  obtain ⟨p, l, e, R, s, m, args, below, meth, c, nL', D, ca, A, tS⟩ := Γ
  obtain ⟨hx, hb, hml, hown, hts, hK, hZ, hr, hlk, rfl, rfl, hnm⟩ := C
  intro H locs ls hP hD hS hl
  have hM := ct D A tS
  have hP0 : va_P D vwCl ((ws0 ++ L) ++ []) H := by rw [List.append_nil]; exact hP
  have hD0 : va_D A ((ws0 ++ L) ++ []) := by rw [List.append_nil]; exact hD
  refine va_callr (va_runS (As := As) (rest := st) (n := n) ⟨hx, hb, hml, hown, hts⟩ hM ⟨callB_of n hts (wsB_good mf.1) rfl rfl rfl (hts _ mf.2.1) (hts _ lk) mf.2.2 hR, hts _ mv⟩ ⟨CS.blind, fun U hU hW => ⟨rfl, CS.of hP0 hD0 hS hK hZ hU hW⟩⟩ rfl hn hl.1 hst (lv_room hcat) d hf) hS (fun _ _ h => h) (fun _ h => h) (fun ad a t H1 locs1 ht hvm hw hB hz1 hk1 hS1 => ?_)
  obtain ⟨e1, hB⟩ := hB
  subst e1
  have hP1 := hB.1
  have hD1 := hB.2.1
  rw [List.append_assoc, hL' ad] at hP1 hD1
  exact k ad H1 locs1 ls (by rw [← ht]; exact hP1) hD1 hS1 hl
end RCS
