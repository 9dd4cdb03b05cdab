/-- what holds throughout a constructor's body -/
def CN (x : Mx) (g : Gd) (A : Nat → Prop) (cc : ByteArray) (nL : Nat) (own : String) (ret : Option FieldType) (I : Prop) (F L CC SS : Nat) : Prop :=
  x.1.tables.exec = Jvm.exec ∧ x.2.2.2.2.2.2.2.2.2.1.code = cc ∧ x.2.2.2.2.2.2.2.2.2.1.maxLocals = nL ∧ x.2.2.2.2.1.vm.findClass own = some x.2.2.2.2.2.1.cls ∧
  (∀ w ∈ gT, w.before x.2.2.2.2.2.2.1 x.2.2.2.2.1 = true) ∧ va_K g.1 vwCl (gty g) x.2.2.2.2.1 ∧ (∀ q, x.2.2.2.2.1.heap.size ≤ q → A q) ∧
  x.2.2.2.2.2.2.2.2.1.locks = false ∧ x.2.2.2.2.2.2.2.2.1.sig.returnType = ret ∧ (I → x.2.2.2.2.2.2.2.2.1.name = "<init>") ∧ F ≤ x.2.2.2.1.frames ∧ L ≤ x.2.2.2.1.locals ∧ CC ≤ x.2.2.2.1.cells ∧ SS ≤ x.2.2.2.1.slots
/-- the machine's run from a place of a constructor's body, over a list of cells that grows -/
def JN (x : Mx) (g : Gd) (A : Nat → Prop) (nL : Nat) (Q : State → Prop) (ws : va_W) (n1 n2 : Nat) (pc : Nat) (lv : List (Nat × Value)) (st : List Value) : Prop :=
  ∀ (ls : Array Slot) (H : Heap) (locs : List Loc), lv_has ls nL lv → va_P g.1 vwCl ws H → va_D A ws → va_S A x.2.2.2.2.1.heap H locs →
    W x.1 x.2.1 x.2.2.1 x.2.2.2.1 x.2.2.2.2.1 x.2.2.2.2.2.1 x.2.2.2.2.2.2.1 x.2.2.2.2.2.2.2.1 x.2.2.2.2.2.2.2.2.1 x.2.2.2.2.2.2.2.2.2.1 H locs n1 n2 Q (F0 x.2.2.2.2.2.1 pc ls st)
theorem va_D_ad {A : Nat → Prop} {l1 l2 : va_W} (h : l1.map (fun q => q.1) = l2.map (fun q => q.1)) (hD : va_D A l1) : va_D A l2 := by
  have key : ∀ (k : Nat) (q : Nat × va_E), l2[k]? = some q → ∃ q0, l1[k]? = some q0 ∧ q0.1 = q.1 := by
    intro k q hk
    have h1 : (l2.map (fun q => q.1))[k]? = some q.1 := by rw [List.getElem?_map, hk]; rfl
    rw [← h, List.getElem?_map] at h1
    cases hq : l1[k]? with
    | none => rw [hq] at h1; cases h1
    | some q0 => rw [hq] at h1; exact ⟨q0, rfl, Option.some.inj h1⟩
  refine ⟨fun i j p q hi hj e => ?_, fun k q hk => ?_⟩
  · obtain ⟨p0, a1, a2⟩ := key i p hi
    obtain ⟨q0, b1, b2⟩ := key j q hj
    exact hD.1 i j p0 q0 a1 b1 (by rw [a2, b2, e])
  · obtain ⟨q0, b1, b2⟩ := key k q hk
    rw [← b2]
    exact hD.2 k q0 b1
abbrev WcN (g : Gd) (h : Nat) (e : va_E) (sz : Nat) (X : State → Prop) (U : State) : Prop := U.heap.size = sz ∧ va_P g.1 vwCl [(h, e)] U.heap ∧ va_K g.1 vwCl (gty g) U ∧ X U
abbrev QcN (g : Gd) (h : Nat) (e : va_E) (sz : Nat) (ps : (Nat → Nat) → Prop) (ws' : (Nat → Nat) → va_W) : Array Value → State → Outcome → State → Prop := va_Qv ps (fun u t => va_P g.1 vwCl (ws' u) t.heap ∧ va_D (va_A [(h, e)] sz) (ws' u)) (va_A [(h, e)] sz)
/-- a constructor's contract -/
def KN (l : Launch) (y : MethodName) (cc : ByteArray) (n F L CC SS : Nat) (g : Gd) (h : Nat) (As : List Value) (e : va_E) (X : Nat → State → Prop) (ps : (Nat → Nat) → Prop) (ws' : (Nat → Nat) → va_W) : Prop :=
  ∀ sz : Nat, Met l y (.code y cc n none :: gT) { frames := F, cells := CC, slots := SS, locals := L } (va_Pc (.ref h :: As) (WcN g h e sz (X sz))) (QcN g h e sz ps ws') CC SS (va_A [(h, e)] sz)
abbrev NQ (x : Mx) (g : Gd) (h : Nat) (e : va_E) (sz : Nat) (ps : (Nat → Nat) → Prop) (ws' : (Nat → Nat) → va_W) (CC SS : Nat) : State → Prop := MQ x.2.2.2.2.2.2.2.1 (QcN g h e sz ps ws') x.2.2.2.2.2.2.1 x.2.2.2.2.1 CC SS (va_A [(h, e)] sz)
theorem KN_of {l : Launch} {y : MethodName} {cc : ByteArray} {n F L CC SS : Nat} {g : Gd} {h : Nat} {As : List Value} {e : va_E} {X : Nat → State → Prop} {ps : (Nat → Nat) → Prop} {ws' : (Nat → Nat) → va_W} (hy : plainName y.cls = true) (hn : (lg_sl (.ref h :: As)).length ≤ n) (hm : y.name = "<init>")
    (hh : ∀ (x : Mx), x.2.1 = l → CN x g (va_A [(h, e)] x.2.2.2.2.1.heap.size) cc n y.cls none True F L CC SS → X x.2.2.2.2.1.heap.size x.2.2.2.2.1 → JN x g (va_A [(h, e)] x.2.2.2.2.1.heap.size) n (NQ x g h e x.2.2.2.2.1.heap.size ps ws' CC SS) [(h, e)] 0 0 0 (lv_args 0 (.ref h :: As)) []) : KN l y cc n F L CC SS g h As e X ps ws' := by
  intro sz
  refine Met.ofW (cc := cc) (maxL := n) (ret := none) hy rfl ?_
  intro p e1 s m args below meth c s₁ B hml hv
  obtain ⟨rfl, hsz, hP, hK, hX⟩ := hv
  have hts := atoms_spec (ws := .code y cc n none :: gT) B.pre
  have hl := lv_entry (.ref h :: As) (n := n) hn
  rw [lg_entry_eq]
  subst hsz
  have hD : va_D (va_A [(h, e)] s.heap.size) [(h, e)] := by
    refine ⟨fun i j p q hi hj _ => ?_, fun k q hk => va_A.in hk⟩
    have := (List.getElem?_eq_some_iff.mp hi).1
    have := (List.getElem?_eq_some_iff.mp hj).1
    simp only [List.length_cons, List.length_nil] at *
    omega
  exact hh (p, l, e1, _, s, m, _, below, meth, c, 0, 0) rfl ⟨B.exec, B.bytes, hml, findClass_of_methodNamed B.named, fun w hw => hts w (List.mem_cons_of_mem _ hw), hK, fun q h => Or.inr h, B.notSynchronized, B.returns, fun _ => (name_of_methodNamed B.named B.method).1.trans hm, Nat.le_refl _, Nat.le_refl _, Nat.le_refl _, Nat.le_refl _⟩ hX _ _ _ hl hP hD va_S.rf
section
variable {x : Mx} {g : Gd} {A : Nat → Prop} {cc : ByteArray} {nL : Nat} {own : String} {rt0 : Option FieldType} {I : Prop} {F L CC SS : Nat} {Q : State → Prop} {ws : va_W} {n1 n2 pc : Nat} {lv : List (Nat × Value)} {st : List Value}
theorem JN_aload_n (C : CN x g A cc nL own rt0 I F L CC SS) (j : Nat) {k : Fin 4} {i v : Nat} (hd : decode cc pc = .ok (.aload_n k, 1)) (hi : (k : Nat) = i) (hj : lv[j]? = some (i, .ref v)) (kk : JN x g A nL Q ws n1 n2 (pc + 1) lv (.ref v :: st)) : JN x g A nL Q ws n1 n2 pc lv st :=
  fun ls H locs hl hP hD hS => lv_aload_n C.1 C.2.1 hd hi (lv_at hl j hj) (kk ls H locs hl hP hD hS)
theorem JN_iconst (C : CN x g A cc nL own rt0 I F L CC SS) {n : Int} {v : Int32} (hd : decode cc pc = .ok (.iconst n, 1)) (hv : Int32.ofInt n = v) (kk : JN x g A nL Q ws n1 n2 (pc + 1) lv (.int v :: st)) : JN x g A nL Q ws n1 n2 pc lv st :=
  fun ls H locs hl hP hD hS => lv_iconst C.1 C.2.1 hd hv (kk ls H locs hl hP hD hS)
theorem JN_bipush (C : CN x g A cc nL own rt0 I F L CC SS) {n : Int} {v : Int32} (hd : decode cc pc = .ok (.bipush n, 2)) (hv : (Int8.ofInt n).toInt32 = v) (kk : JN x g A nL Q ws n1 n2 (pc + 2) lv (.int v :: st)) : JN x g A nL Q ws n1 n2 pc lv st :=
  fun ls H locs hl hP hD hS => lv_bipush C.1 C.2.1 hd hv (kk ls H locs hl hP hD hS)
theorem JN_sipush (C : CN x g A cc nL own rt0 I F L CC SS) {n : Int} {v : Int32} (hd : decode cc pc = .ok (.sipush n, 3)) (hv : (Int16.ofInt n).toInt32 = v) (kk : JN x g A nL Q ws n1 n2 (pc + 3) lv (.int v :: st)) : JN x g A nL Q ws n1 n2 pc lv st :=
  fun ls H locs hl hP hD hS => lv_sipush C.1 C.2.1 hd hv (kk ls H locs hl hP hD hS)
theorem JN_dup (C : CN x g A cc nL own rt0 I F L CC SS) {u : Value} (hd : decode cc pc = .ok (.dup, 1)) (hu : u.category = 1) (kk : JN x g A nL Q ws n1 n2 (pc + 1) lv (u :: u :: st)) : JN x g A nL Q ws n1 n2 pc lv (u :: st) :=
  fun ls H locs hl hP hD hS => lv_dup C.1 C.2.1 hd hu (kk ls H locs hl hP hD hS)
theorem JN_store (C : CN x g A cc nL own rt0 I F L CC SS) (lv1 : List (Nat × Value)) {k : Fin 4} {i v : Nat} (hd : decode cc pc = .ok (.astore_n k, 1)) (hi : (k : Nat) = i) (hn : i < nL) (hv : (i, Value.ref v) :: lv.filter (fun q => !(q.1 == i) && !(q.1 + 1 == i && q.2.category == 2)) = lv1) (kk : JN x g A nL Q ws n1 n2 (pc + 1) lv1 st) : JN x g A nL Q ws n1 n2 pc lv (.ref v :: st) :=
  fun ls H locs hl hP hD hS => lv_astore_n C.1 C.2.1 hd hi hl hn hv (fun ls hl => kk ls H locs hl hP hD hS)
theorem JN_istore (C : CN x g A cc nL own rt0 I F L CC SS) (lv1 : List (Nat × Value)) {k : Fin 4} {i : Nat} {v : Int32} (hd : decode cc pc = .ok (.istore_n k, 1)) (hi : (k : Nat) = i) (hn : i < nL) (hv : (i, Value.int v) :: lv.filter (fun q => !(q.1 == i) && !(q.1 + 1 == i && q.2.category == 2)) = lv1) (kk : JN x g A nL Q ws n1 n2 (pc + 1) lv1 st) : JN x g A nL Q ws n1 n2 pc lv (.int v :: st) :=
  fun ls H locs hl hP hD hS => lv_istore_n C.1 C.2.1 hd hi hl hn hv (fun ls hl => kk ls H locs hl hP hD hS)
theorem JN_obj (C : CN x g A cc nL own rt0 I F L CC SS) {index v : Nat} (h1 : Cond.methodLink own index objectInit ∈ gT) (hd : decode cc pc = .ok (.invokespecial index, 3)) (hF : 1 ≤ F) (hL : 20 ≤ L) (hst : (st.map fun v => v.category).sum ≤ 8) (kk : JN x g A nL Q ws n1 n2 (pc + 3) lv st) : JN x g A nL Q ws n1 n2 pc lv (.ref v :: st) :=
  fun ls H locs hl hP hD hS => W.objInit C.1 C.2.1 C.2.2.2.1 (C.2.2.2.2.1 _ h1) (C.2.2.2.2.1 _ mw_20) (C.2.2.2.2.1 _ mw_21) rfl (by rw [C.2.2.1]; exact hl.1) rfl hd (Nat.le_trans hF C.2.2.2.2.2.2.2.2.2.2.1) (Nat.le_trans (show _ ≤ 20 by show 2 * 0 + _ + 12 ≤ 20; omega) (Nat.le_trans hL C.2.2.2.2.2.2.2.2.2.2.2.1)) (kk ls H locs hl hP hD hS)
theorem JN_get (C : CN x g A cc nL own rt0 I F L CC SS) {ref Cn : String} {T : u_T} {N ci index a : Nat} (hin : ∀ w ∈ u_ws Cn T N, w ∈ gT) (q0 : Nat) {fs : List Value} (he : ws[q0]? = some (a, .inr (ci, fs))) (hc : vwCl[ci]? = some (Cn, T, N)) (i : Nat) (hk : i < N) (hlink : Cond.fieldLink own index ref (T i).2.1 (T i).2.2.1 ∈ gT) (href : (T i).1 = ref) {v : Value} (hv : fs[i]? = some v) (hd : decode cc pc = .ok (.getfield index, 3)) (k : JN x g A nL Q ws n1 n2 (pc + 3) lv (v :: st)) : JN x g A nL Q ws n1 n2 pc lv (.ref a :: st) :=
  fun ls H locs hl hP hD hS => va_get C.1 C.2.1 C.2.2.2.2.1 hin C.2.2.2.1 C.2.2.2.2.2.1 hP q0 he hc i hk (C.2.2.2.2.1 _ hlink) (fun _ h9 => href ▸ h9) hv hd (k ls H locs hl hP hD hS)
theorem JN_putF (C : CN x g A cc nL own rt0 True F L CC SS) {ref Cn : String} {T : u_T} {N ci index a : Nat} (hin : ∀ w ∈ u_ws Cn T N, w ∈ gT) (ty0 : Nat → FieldType) (hty : ∀ k, k < N → parseFieldDescriptor (T k).2.2.1 = some (ty0 k)) (hnm : ∀ a, a < N → ∀ b, b < N → a ≠ b → (T a).2.1 ≠ (T b).2.1) (q0 : Nat) {fs : List Value} (he : ws[q0]? = some (a, .inr (ci, fs))) (hc : vwCl[ci]? = some (Cn, T, N)) (i : Nat) (hk : i < N) (hlink : Cond.fieldLink own index ref (T i).2.1 (T i).2.2.1 ∈ gT) (href : (T i).1 = ref) (hfin : (T i).2.2.2 = true) (hdecl : (T i).1 = own) {v : Value} (hn : narrow (ty0 i) v = v) (hfit : fits (ty0 i) v = true) (hl0 : i < fs.length) {ws1 : va_W} (hw : ws.set q0 (a, .inr (ci, fs.set i v)) = ws1) (hd : decode cc pc = .ok (.putfield index, 3)) (k : JN x g A nL Q ws1 n1 n2 (pc + 3) lv st) : JN x g A nL Q ws n1 n2 pc lv (v :: .ref a :: st) :=
  fun ls H locs hl hP hD hS => va_putF C.1 C.2.1 C.2.2.2.2.1 hin ty0 hty hnm C.2.2.2.1 C.2.2.2.2.2.1 hP hD hS q0 he hc i hk (C.2.2.2.2.1 _ hlink) (fun _ h9 => href ▸ h9) hfin (C.2.2.2.2.2.2.2.2.2.1 trivial) hdecl (hty i hk) hn hfit hl0 hd (fun H locs hP hD hS => k ls H locs hl (hw ▸ hP) (hw ▸ hD) hS)
theorem JN_put (C : CN x g A cc nL own rt0 I F L CC SS) {ref Cn : String} {T : u_T} {N ci index a : Nat} (hin : ∀ w ∈ u_ws Cn T N, w ∈ gT) (ty0 : Nat → FieldType) (hty : ∀ k, k < N → parseFieldDescriptor (T k).2.2.1 = some (ty0 k)) (hnm : ∀ a, a < N → ∀ b, b < N → a ≠ b → (T a).2.1 ≠ (T b).2.1) (q0 : Nat) {fs : List Value} (he : ws[q0]? = some (a, .inr (ci, fs))) (hc : vwCl[ci]? = some (Cn, T, N)) (i : Nat) (hk : i < N) (hlink : Cond.fieldLink own index ref (T i).2.1 (T i).2.2.1 ∈ gT) (href : (T i).1 = ref) (hfin : (T i).2.2.2 = false) {v : Value} (hn : narrow (ty0 i) v = v) (hfit : fits (ty0 i) v = true) (hl0 : i < fs.length) {ws1 : va_W} (hw : ws.set q0 (a, .inr (ci, fs.set i v)) = ws1) (hd : decode cc pc = .ok (.putfield index, 3)) (k : JN x g A nL Q ws1 n1 n2 (pc + 3) lv st) : JN x g A nL Q ws n1 n2 pc lv (v :: .ref a :: st) :=
  fun ls H locs hl hP hD hS => va_put C.1 C.2.1 C.2.2.2.2.1 hin ty0 hty hnm C.2.2.2.1 C.2.2.2.2.2.1 hP hD hS q0 he hc i hk (C.2.2.2.2.1 _ hlink) (fun _ h9 => href ▸ h9) hfin (hty i hk) hn hfit hl0 hd (fun H locs hP hD hS => k ls H locs hl (hw ▸ hP) (hw ▸ hD) hS)
theorem JN_new (C : CN x g A cc nL own rt0 I F L CC SS) {Cn : String} {T : u_T} {N ci index : Nat} (hin : ∀ w ∈ u_ws Cn T N, w ∈ gT) (ty0 : Nat → FieldType) (hty : ∀ k, k < N → parseFieldDescriptor (T k).2.2.1 = some (ty0 k)) (h1 : Cond.classLink own index Cn ∈ gT) (h2 : Cond.instantiable Cn N ∈ gT) (h3 : Cond.initialized Cn ∈ gT) (hc : vwCl[ci]? = some (Cn, T, N)) {fs : List Value} (hfs : ∀ j, j < N → defaultValue (ty0 j) = vp_V fs j) (hC : n1 + 1 ≤ CC) (hS2 : n2 + N ≤ SS) (hd : decode cc pc = .ok (.new index, 3)) (k : ∀ q : Nat, JN x g A nL Q (ws ++ [(q, .inr (ci, fs))]) (n1 + 1) (n2 + N) (pc + 3) lv (.ref q :: st)) : JN x g A nL Q ws n1 n2 pc lv st :=
  fun ls H locs hl hP hD hS => va_new C.1 C.2.1 C.2.2.2.2.1 hin ty0 hty C.2.2.2.1 (C.2.2.2.2.1 _ h1) (C.2.2.2.2.1 _ h2) (C.2.2.2.2.1 _ h3) C.2.2.2.2.2.1 hP hD hS C.2.2.2.2.2.2.1 hc hfs (Nat.le_trans hC C.2.2.2.2.2.2.2.2.2.2.2.2.1) (Nat.le_trans hS2 C.2.2.2.2.2.2.2.2.2.2.2.2.2) hd (fun q H1 hP hD hS => k q ls H1 locs hl hP hD hS)
theorem JN_newI (C : CN x g A cc nL own rt0 I F L CC SS) {n : Int32} {N : Nat} (hn : ¬ n < 0) (hN : n.toNatClampNeg = N) (hb : N * componentBytes .int ≤ 536870912) (hC : n1 + 1 ≤ CC) (hS2 : n2 + N ≤ SS) (hd : decode cc pc = .ok (.newarray .int, 2)) (k : ∀ q : Nat, JN x g A nL Q (ws ++ [(q, .inl (g.2.1 0, N, .inl (fun _ => 0)))]) (n1 + 1) (n2 + N) (pc + 2) lv (.ref q :: st)) : JN x g A nL Q ws n1 n2 pc lv (.int n :: st) := by
  intro ls H locs hl hP hD hS
  refine va_newa (atype := .int) (a0 := (N, .inl (fun _ => 0))) C.1 C.2.1 (C.2.2.2.2.1 _ mw_44) (ty := .int) rfl C.2.2.2.2.2.1 hP hD hS C.2.2.2.2.2.2.1 (fun _ => rfl) hn hN hb (Nat.le_trans hC C.2.2.2.2.2.2.2.2.2.2.2.2.1) (Nat.le_trans hS2 C.2.2.2.2.2.2.2.2.2.2.2.2.2) hd (fun q cA H1 hK hP hD hS => ?_)
  have e1 := (hK.2 3 _ rfl).2
  have e2 := (C.2.2.2.2.2.1.2 0 _ rfl).2
  have e : cA = g.2.1 0 := Option.some.inj (e1.symm.trans e2)
  subst e
  exact k q ls H1 locs hl hP hD hS
theorem JN_newB (C : CN x g A cc nL own rt0 I F L CC SS) {n : Int32} {N : Nat} (hn : ¬ n < 0) (hN : n.toNatClampNeg = N) (hb : N * componentBytes .byte ≤ 536870912) (hC : n1 + 1 ≤ CC) (hS2 : n2 + N ≤ SS) (hd : decode cc pc = .ok (.newarray .byte, 2)) (k : ∀ q : Nat, JN x g A nL Q (ws ++ [(q, .inl (g.2.1 1, N, .inl (fun _ => 0)))]) (n1 + 1) (n2 + N) (pc + 2) lv (.ref q :: st)) : JN x g A nL Q ws n1 n2 pc lv (.int n :: st) := by
  intro ls H locs hl hP hD hS
  refine va_newa (atype := .byte) (a0 := (N, .inl (fun _ => 0))) C.1 C.2.1 (C.2.2.2.2.1 _ mw_326) (ty := .byte) rfl C.2.2.2.2.2.1 hP hD hS C.2.2.2.2.2.2.1 (fun _ => rfl) hn hN hb (Nat.le_trans hC C.2.2.2.2.2.2.2.2.2.2.2.2.1) (Nat.le_trans hS2 C.2.2.2.2.2.2.2.2.2.2.2.2.2) hd (fun q cA H1 hK hP hD hS => ?_)
  have e1 := (hK.2 3 _ rfl).2
  have e2 := (C.2.2.2.2.2.1.2 1 _ rfl).2
  have e : cA = g.2.1 1 := Option.some.inj (e1.symm.trans e2)
  subst e
  exact k q ls H1 locs hl hP hD hS
theorem JN_newZ (C : CN x g A cc nL own rt0 I F L CC SS) {n : Int32} {N : Nat} (hn : ¬ n < 0) (hN : n.toNatClampNeg = N) (hb : N * componentBytes .boolean ≤ 536870912) (hC : n1 + 1 ≤ CC) (hS2 : n2 + N ≤ SS) (hd : decode cc pc = .ok (.newarray .boolean, 2)) (k : ∀ q : Nat, JN x g A nL Q (ws ++ [(q, .inl (g.2.1 2, N, .inl (fun _ => 0)))]) (n1 + 1) (n2 + N) (pc + 2) lv (.ref q :: st)) : JN x g A nL Q ws n1 n2 pc lv (.int n :: st) := by
  intro ls H locs hl hP hD hS
  refine va_newa (atype := .boolean) (a0 := (N, .inl (fun _ => 0))) C.1 C.2.1 (C.2.2.2.2.1 _ mw_488) (ty := .boolean) rfl C.2.2.2.2.2.1 hP hD hS C.2.2.2.2.2.2.1 (fun _ => rfl) hn hN hb (Nat.le_trans hC C.2.2.2.2.2.2.2.2.2.2.2.2.1) (Nat.le_trans hS2 C.2.2.2.2.2.2.2.2.2.2.2.2.2) hd (fun q cA H1 hK hP hD hS => ?_)
  have e1 := (hK.2 3 _ rfl).2
  have e2 := (C.2.2.2.2.2.1.2 2 _ rfl).2
  have e : cA = g.2.1 2 := Option.some.inj (e1.symm.trans e2)
  subst e
  exact k q ls H1 locs hl hP hD hS
theorem JN_ret (C : CN x g A cc nL own none I F L CC SS) {h : Nat} {e : va_E} {ps : (Nat → Nat) → Prop} {ws' : (Nat → Nat) → va_W} (hA : A = va_A [(h, e)] x.2.2.2.2.1.heap.size) (u : Nat → Nat) (hp : ps u) (is : List Nat) (hn : va_nd is = true) (h1 : is.filterMap (fun i => ws[i]?) = ws' u) (h2 : is.map (fun i => ws[i]?) = (ws' u).map some) (e1 : n1 = CC) (e2 : n2 = SS) (hd : decode cc pc = .ok (.return_, 1)) : JN x g A nL (NQ x g h e x.2.2.2.2.1.heap.size ps ws' CC SS) ws n1 n2 pc lv [] := by
  subst hA; subst e1; subst e2
  exact fun ls H locs hl hP hD hS => W.vret C.1 C.2.1 C.2.2.2.2.2.2.2.2.1 (fun t ht hW => ⟨⟨u, rfl, hp, by subst ht; exact hP.sub is h1, hD.sub is hn h2⟩, hS.F ht⟩) hS.2.2 hd C.2.2.2.2.2.2.2.1
theorem KN_blind {g : Gd} {h : Nat} {e : va_E} {sz : Nat} {X : State → Prop} {as : List Value} (hX : ∀ (U : State) (gf : JFrame) (mk : MethodId) (a : Array Value), X U → X (U.calling gf mk a)) : FrameBlind (va_Pc as (WcN g h e sz X)) := by
  intro a U gf mk q
  obtain ⟨h0, h1, h2, h3, h4⟩ := q
  exact ⟨h0, h1, h2, va_K.moved (u := U) (U := U.calling gf mk a) (Vm.Alike.refl U.vm) h3, hX U gf mk a h4⟩
theorem JN_call (C : CN x g A cc nL own rt0 I F L CC SS) {y : MethodName} {bytes : ByteArray} {maxL F1 L1 c1 s1 index n h : Nat} {As : List Value} {e : va_E} {X : Nat → State → Prop} {ps : (Nat → Nat) → Prop} {ws' : (Nat → Nat) → va_W} (hM : KN x.2.1 y bytes maxL F1 L1 c1 s1 g h As e X ps ws') (h1 : Cond.methodLink own index y ∈ gT) (h2 : Cond.instanceMethod y ∈ gT) (h4 : Cond.initialized y.cls ∈ gT) (h5 : Cond.code y bytes maxL none ∈ gT) (hy1 : y.name = "<init>") (hy : y.cls ≠ "java/lang/invoke/MethodHandle" ∧ y.cls ≠ "java/lang/invoke/VarHandle" ∧ (parseMethodDescriptor y.desc).map (fun d => d.parameters.length) = some n) (hR : F1 + 1 ≤ F ∧ 8 + (maxL + 11) + L1 ≤ L) (hCC : n1 + c1 ≤ CC ∧ n2 + s1 ≤ SS) (hn : As.length = n) (hX : ∀ (sz : Nat) (U : State) (gf : JFrame) (mk : MethodId) (a : Array Value), X sz U → X sz (U.calling gf mk a)) (hX2 : ∀ (H : Heap) (locs : List Loc) (U : State), va_P g.1 vwCl ws H → va_D A ws → va_S A x.2.2.2.2.1.heap H locs → U.heap = H → x.2.2.2.2.1.WarmedH U.vm → X H.size U) (i : Nat) (rs : List Nat) (wr : va_W) (hi : ws[i]? = some (h, e)) (hr : rs.map (fun i => ws[i]?) = wr.map some) (hnd : va_nd rs = true) (hdis : ∀ j ∈ rs, j ∉ [i]) (hst : (st.map fun v => v.category).sum ≤ 8) (hd : decode cc pc = .ok (.invokespecial index, 3)) (k : ∀ u : Nat → Nat, ps u → JN x g A nL Q (wr ++ ws' u) (n1 + c1) (n2 + s1) (pc + 3) lv st) : JN x g A nL Q ws n1 n2 pc lv (As.reverse ++ .ref h :: st) := by
  intro ls H locs hl hP hD hS
  have hC : [i].map (fun i => ws[i]?) = [(h, e)].map some := by simp [hi]
  have hPc : va_P g.1 vwCl [(h, e)] H := hP.sub [i] (by simp [hi])
  have hFc := va_free (wc := [(h, e)]) hD hS C.2.2.2.2.2.2.1 [i] hC
  refine va_callv (va_runI (As := As) (rest := st) (b := h) ⟨C.1, C.2.1, C.2.2.1, C.2.2.2.1, C.2.2.2.2.1⟩ (hM H.size) (cwI n C.2.2.2.2.1 (gin_of (gin_c h5)) rfl rfl rfl (C.2.2.2.2.1 _ h4) (C.2.2.2.2.1 _ h1) (C.2.2.2.2.1 _ h2) hy1 hy ⟨Nat.le_trans hR.1 C.2.2.2.2.2.2.2.2.2.2.1, Nat.le_trans hR.2 C.2.2.2.2.2.2.2.2.2.2.2.1⟩) ⟨KN_blind (hX H.size), fun U hU hW => ⟨rfl, by rw [hU], by rw [hU]; exact hPc, va_K.moved hW.alike C.2.2.2.2.2.1, hX2 H locs U hP hD hS hU hW⟩⟩ rfl hn hl.1 rfl (lv_room hst) hd ⟨Nat.le_trans hCC.1 C.2.2.2.2.2.2.2.2.2.2.2.2.1, Nat.le_trans hCC.2 C.2.2.2.2.2.2.2.2.2.2.2.2.2⟩) hS (fun q _ h => hFc q h) hFc ?_
  intro u t H1 locs1 ht hvm hps hB hz1 hk1 hS1
  obtain ⟨hP1, hD1⟩ := hB
  rw [ht] at hP1
  obtain ⟨hP2, hD2⟩ := va_join (wr := wr) (w1 := ws' u) hP hD [i] rs hC hr hnd hdis hk1 hFc hP1 hD1
  exact k u hps ls H1 locs1 hl hP2 hD2 hS1
theorem JN_callN (C : CN x g A cc nL own rt0 I F L CC SS) {host : String} {y : MethodName} {bytes : ByteArray} {maxL F1 L1 c1 s1 index n h : Nat} {As : List Value} {e : va_E} {X : Nat → State → Prop} {ps : (Nat → Nat) → Prop} {ws' : (Nat → Nat) → va_W} (hM : KN x.2.1 y bytes maxL F1 L1 c1 s1 g h As e X ps ws') (h1 : va_Nw (.methodLinkNest own index y host) x.2.2.2.2.1) (h2 : Cond.instanceMethod y ∈ gT) (h4 : Cond.initialized y.cls ∈ gT) (h5 : Cond.code y bytes maxL none ∈ gT) (hy1 : y.name = "<init>") (hy : y.cls ≠ "java/lang/invoke/MethodHandle" ∧ y.cls ≠ "java/lang/invoke/VarHandle" ∧ (parseMethodDescriptor y.desc).map (fun d => d.parameters.length) = some n) (hR : F1 + 1 ≤ F ∧ 8 + (maxL + 11) + L1 ≤ L) (hCC : n1 + c1 ≤ CC ∧ n2 + s1 ≤ SS) (hn : As.length = n) (hX : ∀ (sz : Nat) (U : State) (gf : JFrame) (mk : MethodId) (a : Array Value), X sz U → X sz (U.calling gf mk a)) (hX2 : ∀ (H : Heap) (locs : List Loc) (U : State), va_P g.1 vwCl ws H → va_D A ws → va_S A x.2.2.2.2.1.heap H locs → U.heap = H → x.2.2.2.2.1.WarmedH U.vm → X H.size U) (i : Nat) (rs : List Nat) (wr : va_W) (hi : ws[i]? = some (h, e)) (hr : rs.map (fun i => ws[i]?) = wr.map some) (hnd : va_nd rs = true) (hdis : ∀ j ∈ rs, j ∉ [i]) (hst : (st.map fun v => v.category).sum ≤ 8) (hd : decode cc pc = .ok (.invokespecial index, 3)) (k : ∀ u : Nat → Nat, ps u → JN x g A nL Q (wr ++ ws' u) (n1 + c1) (n2 + s1) (pc + 3) lv st) : JN x g A nL Q ws n1 n2 pc lv (As.reverse ++ .ref h :: st) := by
  intro ls H locs hl hP hD hS
  have hC : [i].map (fun i => ws[i]?) = [(h, e)].map some := by simp [hi]
  have hPc : va_P g.1 vwCl [(h, e)] H := hP.sub [i] (by simp [hi])
  have hFc := va_free (wc := [(h, e)]) hD hS C.2.2.2.2.2.2.1 [i] hC
  refine va_callv (va_runIN (As := As) (rest := st) (b := h) ⟨C.1, C.2.1, C.2.2.1, C.2.2.2.1, C.2.2.2.2.1⟩ (hM H.size) (⟨va_cnB n C.2.2.2.2.1 (gin_of (gin_c h5)) rfl rfl rfl h1 (C.2.2.2.2.1 _ h4) hy ⟨Nat.le_trans hR.1 C.2.2.2.2.2.2.2.2.2.2.1, Nat.le_trans hR.2 C.2.2.2.2.2.2.2.2.2.2.2.1⟩, hy1, C.2.2.2.2.1 _ h2⟩) ⟨KN_blind (hX H.size), fun U hU hW => ⟨rfl, by rw [hU], by rw [hU]; exact hPc, va_K.moved hW.alike C.2.2.2.2.2.1, hX2 H locs U hP hD hS hU hW⟩⟩ rfl hn hl.1 rfl (lv_room hst) hd ⟨Nat.le_trans hCC.1 C.2.2.2.2.2.2.2.2.2.2.2.2.1, Nat.le_trans hCC.2 C.2.2.2.2.2.2.2.2.2.2.2.2.2⟩) hS (fun q _ h => hFc q h) hFc ?_
  intro u t H1 locs1 ht hvm hps hB hz1 hk1 hS1
  obtain ⟨hP1, hD1⟩ := hB
  rw [ht] at hP1
  obtain ⟨hP2, hD2⟩ := va_join (wr := wr) (w1 := ws' u) hP hD [i] rs hC hr hnd hdis hk1 hFc hP1 hD1
  exact k u hps ls H1 locs1 hl hP2 hD2 hS1
theorem JN_fill (C : CN x g A cc nL own rt0 I F L CC SS) (hF : StF g A x.2.2.2.2.1 x.2.2.2.2.1.heap) (q0 : Nat) {n aa : Nat} {f : Nat → Int32} {v : Int32} (cl : (Nat → Int32) → va_W) (ha : cl f = ws) (hq : ws[q0]? = some (aa, .inl (g.2.1 0, n, .inl f))) (hsf : ∀ f' : Nat → Int32, ws.set q0 (aa, .inl (g.2.1 0, n, .inl f')) = cl f') (had : ∀ f' : Nat → Int32, ws.map (fun q => q.1) = (cl f').map (fun q => q.1)) (hn : n < 2 ^ 31) {index : Nat} (h1 : Cond.methodLink own index yJ7_fill_53178 ∈ gT) (hd : decode cc pc = .ok (.invokestatic index, 3)) (hR : 0 + 1 ≤ F ∧ 8 + (4 + 11) + 0 ≤ L) (hCC : n1 ≤ CC ∧ n2 ≤ SS) (hst : (st.map fun v => v.category).sum ≤ 8) (k : JN x g A nL Q (cl (ar_fill n v f)) n1 n2 (pc + 3) lv st) : JN x g A nL Q ws n1 n2 pc lv (.int v :: .ref aa :: st) := by
  subst ha
  intro ls H locs hl hP hD hS
  have hDa : ∀ f' : Nat → Int32, va_D A (cl f') := fun f' => va_D_ad (had f') hD
  refine va_callv (va_runS (As := [.ref aa, .int v]) (rest := st) ⟨C.1, C.2.1, C.2.2.1, C.2.2.2.1, C.2.2.2.2.1⟩ (c_fill (g := g) (A := A) (cl := cl) (w := f) (sf := fun f' => f') (v := v) hq hsf hn) (va_cwS 2 C.2.2.2.2.1 (gin_S h1 mw_77 mw_5 mw_78) rfl rfl rfl (by decide +kernel) ⟨Nat.le_trans hR.1 C.2.2.2.2.2.2.2.2.2.2.1, Nat.le_trans hR.2 C.2.2.2.2.2.2.2.2.2.2.2.1⟩) ⟨Wo_blind, fun U hU hW => ⟨rfl, Wo_in C.2.2.2.2.2.1 hDa hF hP hS hU hW⟩⟩ rfl rfl hl.1 rfl (lv_room hst) hd ⟨Nat.le_trans hCC.1 C.2.2.2.2.2.2.2.2.2.2.2.2.1, Nat.le_trans hCC.2 C.2.2.2.2.2.2.2.2.2.2.2.2.2⟩) hS (fun q _ h => h) (fun q h => h) ?_
  intro u t H1 locs1 ht _ hK hB _ _ hS1
  subst hK
  exact k ls H1 locs1 hl (ht ▸ hB) (hDa _) hS1
end
abbrev wn_X2_init (g : Gd) (h : Nat) (c0 : Nat) (u : Nat → Nat) : va_W := [(h, .inr (2, [.ref c0, .int 0, .int 0, .int 0, .int 0]))]
set_option maxRecDepth 10000 in
theorem c_X2_init {l : Launch} {g : Gd} {h c0 : Nat} : KN l yX2_init cX2_init 2 1 20 0 0 g h [.ref c0] (.inr (2, [.null, .int 0, .int 0, .int 0, .int 0])) (fun _ _ => True) (fun _ => True) (wn_X2_init g h c0) := by
  refine KN_of (by decide +kernel) (Nat.le_of_ble_eq_true rfl) rfl (fun x hx C hX => ?_)
  refine JN_aload_n C 0 dX2_init_0 rfl rfl ?_
  refine JN_obj C mw_56 dX2_init_1 (Nat.le_of_ble_eq_true rfl) (Nat.le_of_ble_eq_true rfl) (Nat.le_of_ble_eq_true rfl) ?_
  refine JN_aload_n C 0 dX2_init_4 rfl rfl ?_
  refine JN_aload_n C 1 dX2_init_5 rfl rfl ?_
  refine JN_putF C (Cn := RX2) (T := TX2) (N := 5) uw_X2 tyX2 tyX2_ok nmX2 0 rfl rfl 0 (by decide) mw_57 rfl rfl rfl rfl rfl (Nat.le_of_ble_eq_true rfl) (ws1 := [(h, .inr (2, [.ref c0, .int 0, .int 0, .int 0, .int 0]))]) rfl dX2_init_6 ?_
  exact JN_ret C rfl (fun k => k) trivial [0] (by decide) rfl rfl rfl rfl dX2_init_9
abbrev wn_X1_init (g : Gd) (h : Nat) (u : Nat → Nat) : va_W := [(h, .inr (1, [.ref (u 0), .ref (u 1), .ref (u 2), .int 0, .int 0, .int 0, .int 0, .int 0, .int 0, .int 0, .int 0, .int 0, .int 0])), ((u 0), .inl (g.2.1 0, 1200, .inl (fun _ => 0))), ((u 1), .inl (g.2.1 0, 961, .inl (fun _ => 0))), ((u 2), .inl (g.2.1 0, 81, .inl (fun _ => 0)))]
set_option maxRecDepth 10000 in
theorem c_X1_init {l : Launch} {g : Gd} {h : Nat} : KN l yX1_init cX1_init 1 1 20 3 2242 g h [] (.inr (1, [.null, .null, .null, .int 0, .int 0, .int 0, .int 0, .int 0, .int 0, .int 0, .int 0, .int 0, .int 0])) (fun _ _ => True) (fun _ => True) (wn_X1_init g h) := by
  refine KN_of (by decide +kernel) (Nat.le_of_ble_eq_true rfl) rfl (fun x hx C hX => ?_)
  refine JN_aload_n C 0 dX1_init_0 rfl rfl ?_
  refine JN_obj C mw_26 dX1_init_1 (Nat.le_of_ble_eq_true rfl) (Nat.le_of_ble_eq_true rfl) (Nat.le_of_ble_eq_true rfl) ?_
  refine JN_aload_n C 0 dX1_init_4 rfl rfl ?_
  refine JN_sipush (v := (1200 : Int32)) C dX1_init_5 (by decide) ?_
  refine JN_newI (N := 1200) C (by decide) (by decide) (by decide) (Nat.le_of_ble_eq_true rfl) (Nat.le_of_ble_eq_true rfl) dX1_init_8 (fun q1 => ?_)
  refine JN_putF C (Cn := RX1) (T := TX1) (N := 13) uw_X1 tyX1 tyX1_ok nmX1 0 rfl rfl 0 (by decide) mw_27 rfl rfl rfl rfl rfl (Nat.le_of_ble_eq_true rfl) (ws1 := [(h, .inr (1, [.ref q1, .null, .null, .int 0, .int 0, .int 0, .int 0, .int 0, .int 0, .int 0, .int 0, .int 0, .int 0])), (q1, .inl (g.2.1 0, 1200, .inl (fun _ => 0)))]) rfl dX1_init_10 ?_
  refine JN_aload_n C 0 dX1_init_13 rfl rfl ?_
  refine JN_sipush (v := (961 : Int32)) C dX1_init_14 (by decide) ?_
  refine JN_newI (N := 961) C (by decide) (by decide) (by decide) (Nat.le_of_ble_eq_true rfl) (Nat.le_of_ble_eq_true rfl) dX1_init_17 (fun q2 => ?_)
  refine JN_putF C (Cn := RX1) (T := TX1) (N := 13) uw_X1 tyX1 tyX1_ok nmX1 0 rfl rfl 1 (by decide) mw_28 rfl rfl rfl rfl rfl (Nat.le_of_ble_eq_true rfl) (ws1 := [(h, .inr (1, [.ref q1, .ref q2, .null, .int 0, .int 0, .int 0, .int 0, .int 0, .int 0, .int 0, .int 0, .int 0, .int 0])), (q1, .inl (g.2.1 0, 1200, .inl (fun _ => 0))), (q2, .inl (g.2.1 0, 961, .inl (fun _ => 0)))]) rfl dX1_init_19 ?_
  refine JN_aload_n C 0 dX1_init_22 rfl rfl ?_
  refine JN_bipush (v := (81 : Int32)) C dX1_init_23 (by decide) ?_
  refine JN_newI (N := 81) C (by decide) (by decide) (by decide) (Nat.le_of_ble_eq_true rfl) (Nat.le_of_ble_eq_true rfl) dX1_init_25 (fun q3 => ?_)
  refine JN_putF C (Cn := RX1) (T := TX1) (N := 13) uw_X1 tyX1 tyX1_ok nmX1 0 rfl rfl 2 (by decide) mw_29 rfl rfl rfl rfl rfl (Nat.le_of_ble_eq_true rfl) (ws1 := [(h, .inr (1, [.ref q1, .ref q2, .ref q3, .int 0, .int 0, .int 0, .int 0, .int 0, .int 0, .int 0, .int 0, .int 0, .int 0])), (q1, .inl (g.2.1 0, 1200, .inl (fun _ => 0))), (q2, .inl (g.2.1 0, 961, .inl (fun _ => 0))), (q3, .inl (g.2.1 0, 81, .inl (fun _ => 0)))]) rfl dX1_init_27 ?_
  exact JN_ret C rfl (fun k => match k with | 0 => q1 | 1 => q2 | _ => q3) trivial [0, 1, 2, 3] (by decide) rfl rfl rfl rfl dX1_init_30
abbrev wn_X0_init (g : Gd) (h : Nat) (c0 : Nat) (u : Nat → Nat) : va_W := [(h, .inr (0, [.ref (u 0), .ref (u 1), .ref (u 2), .ref (u 3), .ref (u 4), .ref c0, .ref (u 5), .int 0, .int 0])), ((u 0), .inl (g.2.1 0, 12, .inl (fun _ => 0))), ((u 1), .inl (g.2.1 0, 12, .inl (fun _ => 0))), ((u 2), .inl (g.2.1 0, 12, .inl (fun _ => 0))), ((u 3), .inl (g.2.1 0, 12, .inl (fun _ => 0))), ((u 4), .inl (g.2.1 0, 12, .inl (fun _ => 0))), ((u 5), .inr (2, [.ref c0, .int 0, .int 0, .int 0, .int 0]))]
set_option maxRecDepth 10000 in
theorem c_X0_init {l : Launch} {g : Gd} {h c0 : Nat} : KN l yX0_init cX0_init 2 2 41 6 65 g h [.ref c0] (.inr (0, [.null, .null, .null, .null, .null, .null, .null, .int 0, .int 0])) (fun _ _ => True) (fun _ => True) (wn_X0_init g h c0) := by
  refine KN_of (by decide +kernel) (Nat.le_of_ble_eq_true rfl) rfl (fun x hx C hX => ?_)
  refine JN_aload_n C 0 dX0_init_0 rfl rfl ?_
  refine JN_obj C mw_50 dX0_init_1 (Nat.le_of_ble_eq_true rfl) (Nat.le_of_ble_eq_true rfl) (Nat.le_of_ble_eq_true rfl) ?_
  refine JN_aload_n C 0 dX0_init_4 rfl rfl ?_
  refine JN_bipush (v := (12 : Int32)) C dX0_init_5 (by decide) ?_
  refine JN_newI (N := 12) C (by decide) (by decide) (by decide) (Nat.le_of_ble_eq_true rfl) (Nat.le_of_ble_eq_true rfl) dX0_init_7 (fun q1 => ?_)
  refine JN_putF C (Cn := RX0) (T := TX0) (N := 9) uw_X0 tyX0 tyX0_ok nmX0 0 rfl rfl 0 (by decide) mw_63 rfl rfl rfl rfl rfl (Nat.le_of_ble_eq_true rfl) (ws1 := [(h, .inr (0, [.ref q1, .null, .null, .null, .null, .null, .null, .int 0, .int 0])), (q1, .inl (g.2.1 0, 12, .inl (fun _ => 0)))]) rfl dX0_init_9 ?_
  refine JN_aload_n C 0 dX0_init_12 rfl rfl ?_
  refine JN_bipush (v := (12 : Int32)) C dX0_init_13 (by decide) ?_
  refine JN_newI (N := 12) C (by decide) (by decide) (by decide) (Nat.le_of_ble_eq_true rfl) (Nat.le_of_ble_eq_true rfl) dX0_init_15 (fun q2 => ?_)
  refine JN_putF C (Cn := RX0) (T := TX0) (N := 9) uw_X0 tyX0 tyX0_ok nmX0 0 rfl rfl 1 (by decide) mw_65 rfl rfl rfl rfl rfl (Nat.le_of_ble_eq_true rfl) (ws1 := [(h, .inr (0, [.ref q1, .ref q2, .null, .null, .null, .null, .null, .int 0, .int 0])), (q1, .inl (g.2.1 0, 12, .inl (fun _ => 0))), (q2, .inl (g.2.1 0, 12, .inl (fun _ => 0)))]) rfl dX0_init_17 ?_
  refine JN_aload_n C 0 dX0_init_20 rfl rfl ?_
  refine JN_bipush (v := (12 : Int32)) C dX0_init_21 (by decide) ?_
  refine JN_newI (N := 12) C (by decide) (by decide) (by decide) (Nat.le_of_ble_eq_true rfl) (Nat.le_of_ble_eq_true rfl) dX0_init_23 (fun q3 => ?_)
  refine JN_putF C (Cn := RX0) (T := TX0) (N := 9) uw_X0 tyX0 tyX0_ok nmX0 0 rfl rfl 2 (by decide) mw_67 rfl rfl rfl rfl rfl (Nat.le_of_ble_eq_true rfl) (ws1 := [(h, .inr (0, [.ref q1, .ref q2, .ref q3, .null, .null, .null, .null, .int 0, .int 0])), (q1, .inl (g.2.1 0, 12, .inl (fun _ => 0))), (q2, .inl (g.2.1 0, 12, .inl (fun _ => 0))), (q3, .inl (g.2.1 0, 12, .inl (fun _ => 0)))]) rfl dX0_init_25 ?_
  refine JN_aload_n C 0 dX0_init_28 rfl rfl ?_
  refine JN_bipush (v := (12 : Int32)) C dX0_init_29 (by decide) ?_
  refine JN_newI (N := 12) C (by decide) (by decide) (by decide) (Nat.le_of_ble_eq_true rfl) (Nat.le_of_ble_eq_true rfl) dX0_init_31 (fun q4 => ?_)
  refine JN_putF C (Cn := RX0) (T := TX0) (N := 9) uw_X0 tyX0 tyX0_ok nmX0 0 rfl rfl 3 (by decide) mw_69 rfl rfl rfl rfl rfl (Nat.le_of_ble_eq_true rfl) (ws1 := [(h, .inr (0, [.ref q1, .ref q2, .ref q3, .ref q4, .null, .null, .null, .int 0, .int 0])), (q1, .inl (g.2.1 0, 12, .inl (fun _ => 0))), (q2, .inl (g.2.1 0, 12, .inl (fun _ => 0))), (q3, .inl (g.2.1 0, 12, .inl (fun _ => 0))), (q4, .inl (g.2.1 0, 12, .inl (fun _ => 0)))]) rfl dX0_init_33 ?_
  refine JN_aload_n C 0 dX0_init_36 rfl rfl ?_
  refine JN_bipush (v := (12 : Int32)) C dX0_init_37 (by decide) ?_
  refine JN_newI (N := 12) C (by decide) (by decide) (by decide) (Nat.le_of_ble_eq_true rfl) (Nat.le_of_ble_eq_true rfl) dX0_init_39 (fun q5 => ?_)
  refine JN_putF C (Cn := RX0) (T := TX0) (N := 9) uw_X0 tyX0 tyX0_ok nmX0 0 rfl rfl 4 (by decide) mw_71 rfl rfl rfl rfl rfl (Nat.le_of_ble_eq_true rfl) (ws1 := [(h, .inr (0, [.ref q1, .ref q2, .ref q3, .ref q4, .ref q5, .null, .null, .int 0, .int 0])), (q1, .inl (g.2.1 0, 12, .inl (fun _ => 0))), (q2, .inl (g.2.1 0, 12, .inl (fun _ => 0))), (q3, .inl (g.2.1 0, 12, .inl (fun _ => 0))), (q4, .inl (g.2.1 0, 12, .inl (fun _ => 0))), (q5, .inl (g.2.1 0, 12, .inl (fun _ => 0)))]) rfl dX0_init_41 ?_
  refine JN_aload_n C 0 dX0_init_44 rfl rfl ?_
  refine JN_aload_n C 1 dX0_init_45 rfl rfl ?_
  refine JN_putF C (Cn := RX0) (T := TX0) (N := 9) uw_X0 tyX0 tyX0_ok nmX0 0 rfl rfl 5 (by decide) mw_72 rfl rfl rfl rfl rfl (Nat.le_of_ble_eq_true rfl) (ws1 := [(h, .inr (0, [.ref q1, .ref q2, .ref q3, .ref q4, .ref q5, .ref c0, .null, .int 0, .int 0])), (q1, .inl (g.2.1 0, 12, .inl (fun _ => 0))), (q2, .inl (g.2.1 0, 12, .inl (fun _ => 0))), (q3, .inl (g.2.1 0, 12, .inl (fun _ => 0))), (q4, .inl (g.2.1 0, 12, .inl (fun _ => 0))), (q5, .inl (g.2.1 0, 12, .inl (fun _ => 0)))]) rfl dX0_init_46 ?_
  refine JN_aload_n C 0 dX0_init_49 rfl rfl ?_
  refine JN_new (ci := 2) (fs := [.null, .int 0, .int 0, .int 0, .int 0]) C uw_X2 tyX2 tyX2_ok mw_51 mw_52 mw_4 rfl (fun j hj => by rcases (show j = 0 ∨ j = 1 ∨ j = 2 ∨ j = 3 ∨ j = 4 by omega) with rfl | rfl | rfl | rfl | rfl <;> rfl) (Nat.le_of_ble_eq_true rfl) (Nat.le_of_ble_eq_true rfl) dX0_init_50 (fun q6 => ?_)
  refine JN_dup C dX0_init_53 rfl ?_
  refine JN_aload_n C 1 dX0_init_54 rfl rfl ?_
  refine JN_call C (As := [.ref c0]) (n := 1) (c_X2_init) mw_53 mw_54 mw_4 mw_55 rfl (by decide +kernel) ⟨Nat.le_of_ble_eq_true rfl, Nat.le_of_ble_eq_true rfl⟩ ⟨Nat.le_of_ble_eq_true rfl, Nat.le_of_ble_eq_true rfl⟩ rfl (fun _ _ _ _ _ h => h) (fun _ _ _ _ _ _ _ _ => trivial) 6 [0, 1, 2, 3, 4, 5] [(h, .inr (0, [.ref q1, .ref q2, .ref q3, .ref q4, .ref q5, .ref c0, .null, .int 0, .int 0])), (q1, .inl (g.2.1 0, 12, .inl (fun _ => 0))), (q2, .inl (g.2.1 0, 12, .inl (fun _ => 0))), (q3, .inl (g.2.1 0, 12, .inl (fun _ => 0))), (q4, .inl (g.2.1 0, 12, .inl (fun _ => 0))), (q5, .inl (g.2.1 0, 12, .inl (fun _ => 0)))] rfl rfl (by decide) (by decide) (Nat.le_of_ble_eq_true rfl) dX0_init_55 (fun u7 _ => ?_)
  refine JN_putF C (Cn := RX0) (T := TX0) (N := 9) uw_X0 tyX0 tyX0_ok nmX0 0 rfl rfl 6 (by decide) mw_73 rfl rfl rfl rfl rfl (Nat.le_of_ble_eq_true rfl) (ws1 := [(h, .inr (0, [.ref q1, .ref q2, .ref q3, .ref q4, .ref q5, .ref c0, .ref q6, .int 0, .int 0])), (q1, .inl (g.2.1 0, 12, .inl (fun _ => 0))), (q2, .inl (g.2.1 0, 12, .inl (fun _ => 0))), (q3, .inl (g.2.1 0, 12, .inl (fun _ => 0))), (q4, .inl (g.2.1 0, 12, .inl (fun _ => 0))), (q5, .inl (g.2.1 0, 12, .inl (fun _ => 0))), (q6, .inr (2, [.ref c0, .int 0, .int 0, .int 0, .int 0]))]) rfl dX0_init_58 ?_
  exact JN_ret C rfl (fun k => match k with | 0 => q1 | 1 => q2 | 2 => q3 | 3 => q4 | 4 => q5 | _ => q6) trivial [0, 1, 2, 3, 4, 5, 6] (by decide) rfl rfl rfl rfl dX0_init_61
def xw0 : XW := (((fun _ => 0), (fun _ => 0), (ar_fill 24 (-2) (fun _ => 0)), 0, 0, 0, -1), ((fun _ => 0), (fun _ => 0), (fun _ => 0), 0, 0, 0, 0, 0, 0, 0, 0, 0, 0), ((fun _ => 0), (fun _ => 0), (fun _ => 0), (fun _ => 0), (fun _ => 0), 0, 0), (0, 0, 0, 0))
def mw0 : MW := ((fun _ => 0), (fun _ => 0), 0, 0, 0, -1, 0, 0, 0, 0, 0, (fun _ => 0), (fun _ => 0), (fun _ => 0), (fun _ => 0), 0, (fun _ => 0), (fun _ => 0), 0, 0, (fun _ => 0), (fun _ => 0), 0, 0, 0, 0, (fun _ => 0), 0)
set_option maxRecDepth 10000 in
set_option maxHeartbeats 4000000 in
theorem c_X3_init {l : Launch} {g : Gd} {h : Nat} : KN l yX3_init cX3_init 1 3 62 14 3953 g h [] (.inr (3, [.null, .null, .null, .null, .null, .int 0, .int 0, .int 0, .int 0])) (fun sz U => StF g (va_A [(h, .inr (3, [.null, .null, .null, .null, .null, .int 0, .int 0, .int 0, .int 0]))] sz) U U.heap ∧ va_Nw (.methodLinkNest RX3 18 yX1_init "ColumnReader") U) (fun u => u 0 = h) (fun u => xCl g u xw0) := by
  refine KN_of (by decide +kernel) (Nat.le_of_ble_eq_true rfl) rfl (fun x hx C hX => ?_)
  obtain ⟨hF, hNest⟩ := hX
  refine JN_aload_n C 0 dX3_init_0 rfl rfl ?_
  refine JN_obj C mw_19 dX3_init_1 (Nat.le_of_ble_eq_true rfl) (Nat.le_of_ble_eq_true rfl) (Nat.le_of_ble_eq_true rfl) ?_
  refine JN_aload_n C 0 dX3_init_4 rfl rfl ?_
  refine JN_sipush (v := (1200 : Int32)) C dX3_init_5 (by decide) ?_
  refine JN_newI (N := 1200) C (by decide) (by decide) (by decide) (Nat.le_of_ble_eq_true rfl) (Nat.le_of_ble_eq_true rfl) dX3_init_8 (fun q1 => ?_)
  refine JN_putF C (Cn := RX3) (T := TX3) (N := 9) uw_X3 tyX3 tyX3_ok nmX3 0 rfl rfl 0 (by decide) mw_79 rfl rfl rfl rfl rfl (Nat.le_of_ble_eq_true rfl) (ws1 := [(h, .inr (3, [.ref q1, .null, .null, .null, .null, .int 0, .int 0, .int 0, .int 0])), (q1, .inl (g.2.1 0, 1200, .inl (fun _ => 0)))]) rfl dX3_init_10 ?_
  refine JN_aload_n C 0 dX3_init_13 rfl rfl ?_
  refine JN_sipush (v := (400 : Int32)) C dX3_init_14 (by decide) ?_
  refine JN_newI (N := 400) C (by decide) (by decide) (by decide) (Nat.le_of_ble_eq_true rfl) (Nat.le_of_ble_eq_true rfl) dX3_init_17 (fun q2 => ?_)
  refine JN_putF C (Cn := RX3) (T := TX3) (N := 9) uw_X3 tyX3 tyX3_ok nmX3 0 rfl rfl 1 (by decide) mw_80 rfl rfl rfl rfl rfl (Nat.le_of_ble_eq_true rfl) (ws1 := [(h, .inr (3, [.ref q1, .ref q2, .null, .null, .null, .int 0, .int 0, .int 0, .int 0])), (q1, .inl (g.2.1 0, 1200, .inl (fun _ => 0))), (q2, .inl (g.2.1 0, 400, .inl (fun _ => 0)))]) rfl dX3_init_19 ?_
  refine JN_aload_n C 0 dX3_init_22 rfl rfl ?_
  refine JN_new (ci := 1) (fs := [.null, .null, .null, .int 0, .int 0, .int 0, .int 0, .int 0, .int 0, .int 0, .int 0, .int 0, .int 0]) C uw_X1 tyX1 tyX1_ok mw_22 mw_23 mw_2 rfl (fun j hj => by rcases (show j = 0 ∨ j = 1 ∨ j = 2 ∨ j = 3 ∨ j = 4 ∨ j = 5 ∨ j = 6 ∨ j = 7 ∨ j = 8 ∨ j = 9 ∨ j = 10 ∨ j = 11 ∨ j = 12 by omega) with rfl | rfl | rfl | rfl | rfl | rfl | rfl | rfl | rfl | rfl | rfl | rfl | rfl <;> rfl) (Nat.le_of_ble_eq_true rfl) (Nat.le_of_ble_eq_true rfl) dX3_init_23 (fun q3 => ?_)
  refine JN_dup C dX3_init_26 rfl ?_
  refine JN_callN C (As := []) (n := 0) (c_X1_init) hNest mw_24 mw_2 mw_25 rfl (by decide +kernel) ⟨Nat.le_of_ble_eq_true rfl, Nat.le_of_ble_eq_true rfl⟩ ⟨Nat.le_of_ble_eq_true rfl, Nat.le_of_ble_eq_true rfl⟩ rfl (fun _ _ _ _ _ h => h) (fun _ _ _ _ _ _ _ _ => trivial) 3 [0, 1, 2] [(h, .inr (3, [.ref q1, .ref q2, .null, .null, .null, .int 0, .int 0, .int 0, .int 0])), (q1, .inl (g.2.1 0, 1200, .inl (fun _ => 0))), (q2, .inl (g.2.1 0, 400, .inl (fun _ => 0)))] rfl rfl (by decide) (by decide) (Nat.le_of_ble_eq_true rfl) dX3_init_27 (fun u4 _ => ?_)
  refine JN_putF C (Cn := RX3) (T := TX3) (N := 9) uw_X3 tyX3 tyX3_ok nmX3 0 rfl rfl 2 (by decide) mw_81 rfl rfl rfl rfl rfl (Nat.le_of_ble_eq_true rfl) (ws1 := [(h, .inr (3, [.ref q1, .ref q2, .ref q3, .null, .null, .int 0, .int 0, .int 0, .int 0])), (q1, .inl (g.2.1 0, 1200, .inl (fun _ => 0))), (q2, .inl (g.2.1 0, 400, .inl (fun _ => 0))), (q3, .inr (1, [.ref (u4 0), .ref (u4 1), .ref (u4 2), .int 0, .int 0, .int 0, .int 0, .int 0, .int 0, .int 0, .int 0, .int 0, .int 0])), ((u4 0), .inl (g.2.1 0, 1200, .inl (fun _ => 0))), ((u4 1), .inl (g.2.1 0, 961, .inl (fun _ => 0))), ((u4 2), .inl (g.2.1 0, 81, .inl (fun _ => 0)))]) rfl dX3_init_30 ?_
  refine JN_aload_n C 0 dX3_init_33 rfl rfl ?_
  refine JN_new (ci := 0) (fs := [.null, .null, .null, .null, .null, .null, .null, .int 0, .int 0]) C uw_X0 tyX0 tyX0_ok mw_45 mw_46 mw_3 rfl (fun j hj => by rcases (show j = 0 ∨ j = 1 ∨ j = 2 ∨ j = 3 ∨ j = 4 ∨ j = 5 ∨ j = 6 ∨ j = 7 ∨ j = 8 by omega) with rfl | rfl | rfl | rfl | rfl | rfl | rfl | rfl | rfl <;> rfl) (Nat.le_of_ble_eq_true rfl) (Nat.le_of_ble_eq_true rfl) dX3_init_34 (fun q5 => ?_)
  refine JN_dup C dX3_init_37 rfl ?_
  refine JN_aload_n C 0 dX3_init_38 rfl rfl ?_
  refine JN_get C (Cn := RX3) (T := TX3) (N := 9) uw_X3 0 rfl rfl 2 (by decide) mw_81 rfl rfl dX3_init_39 ?_
  refine JN_call C (As := [.ref q3]) (n := 1) (c_X0_init) mw_47 mw_48 mw_3 mw_49 rfl (by decide +kernel) ⟨Nat.le_of_ble_eq_true rfl, Nat.le_of_ble_eq_true rfl⟩ ⟨Nat.le_of_ble_eq_true rfl, Nat.le_of_ble_eq_true rfl⟩ rfl (fun _ _ _ _ _ h => h) (fun _ _ _ _ _ _ _ _ => trivial) 7 [0, 1, 2, 3, 4, 5, 6] [(h, .inr (3, [.ref q1, .ref q2, .ref q3, .null, .null, .int 0, .int 0, .int 0, .int 0])), (q1, .inl (g.2.1 0, 1200, .inl (fun _ => 0))), (q2, .inl (g.2.1 0, 400, .inl (fun _ => 0))), (q3, .inr (1, [.ref (u4 0), .ref (u4 1), .ref (u4 2), .int 0, .int 0, .int 0, .int 0, .int 0, .int 0, .int 0, .int 0, .int 0, .int 0])), ((u4 0), .inl (g.2.1 0, 1200, .inl (fun _ => 0))), ((u4 1), .inl (g.2.1 0, 961, .inl (fun _ => 0))), ((u4 2), .inl (g.2.1 0, 81, .inl (fun _ => 0)))] rfl rfl (by decide) (by decide) (Nat.le_of_ble_eq_true rfl) dX3_init_42 (fun u6 _ => ?_)
  refine JN_putF C (Cn := RX3) (T := TX3) (N := 9) uw_X3 tyX3 tyX3_ok nmX3 0 rfl rfl 3 (by decide) mw_82 rfl rfl rfl rfl rfl (Nat.le_of_ble_eq_true rfl) (ws1 := [(h, .inr (3, [.ref q1, .ref q2, .ref q3, .ref q5, .null, .int 0, .int 0, .int 0, .int 0])), (q1, .inl (g.2.1 0, 1200, .inl (fun _ => 0))), (q2, .inl (g.2.1 0, 400, .inl (fun _ => 0))), (q3, .inr (1, [.ref (u4 0), .ref (u4 1), .ref (u4 2), .int 0, .int 0, .int 0, .int 0, .int 0, .int 0, .int 0, .int 0, .int 0, .int 0])), ((u4 0), .inl (g.2.1 0, 1200, .inl (fun _ => 0))), ((u4 1), .inl (g.2.1 0, 961, .inl (fun _ => 0))), ((u4 2), .inl (g.2.1 0, 81, .inl (fun _ => 0))), (q5, .inr (0, [.ref (u6 0), .ref (u6 1), .ref (u6 2), .ref (u6 3), .ref (u6 4), .ref q3, .ref (u6 5), .int 0, .int 0])), ((u6 0), .inl (g.2.1 0, 12, .inl (fun _ => 0))), ((u6 1), .inl (g.2.1 0, 12, .inl (fun _ => 0))), ((u6 2), .inl (g.2.1 0, 12, .inl (fun _ => 0))), ((u6 3), .inl (g.2.1 0, 12, .inl (fun _ => 0))), ((u6 4), .inl (g.2.1 0, 12, .inl (fun _ => 0))), ((u6 5), .inr (2, [.ref q3, .int 0, .int 0, .int 0, .int 0]))]) rfl dX3_init_45 ?_
  refine JN_aload_n C 0 dX3_init_48 rfl rfl ?_
  refine JN_bipush (v := (24 : Int32)) C dX3_init_49 (by decide) ?_
  refine JN_newI (N := 24) C (by decide) (by decide) (by decide) (Nat.le_of_ble_eq_true rfl) (Nat.le_of_ble_eq_true rfl) dX3_init_51 (fun q7 => ?_)
  refine JN_putF C (Cn := RX3) (T := TX3) (N := 9) uw_X3 tyX3 tyX3_ok nmX3 0 rfl rfl 4 (by decide) mw_83 rfl rfl rfl rfl rfl (Nat.le_of_ble_eq_true rfl) (ws1 := [(h, .inr (3, [.ref q1, .ref q2, .ref q3, .ref q5, .ref q7, .int 0, .int 0, .int 0, .int 0])), (q1, .inl (g.2.1 0, 1200, .inl (fun _ => 0))), (q2, .inl (g.2.1 0, 400, .inl (fun _ => 0))), (q3, .inr (1, [.ref (u4 0), .ref (u4 1), .ref (u4 2), .int 0, .int 0, .int 0, .int 0, .int 0, .int 0, .int 0, .int 0, .int 0, .int 0])), ((u4 0), .inl (g.2.1 0, 1200, .inl (fun _ => 0))), ((u4 1), .inl (g.2.1 0, 961, .inl (fun _ => 0))), ((u4 2), .inl (g.2.1 0, 81, .inl (fun _ => 0))), (q5, .inr (0, [.ref (u6 0), .ref (u6 1), .ref (u6 2), .ref (u6 3), .ref (u6 4), .ref q3, .ref (u6 5), .int 0, .int 0])), ((u6 0), .inl (g.2.1 0, 12, .inl (fun _ => 0))), ((u6 1), .inl (g.2.1 0, 12, .inl (fun _ => 0))), ((u6 2), .inl (g.2.1 0, 12, .inl (fun _ => 0))), ((u6 3), .inl (g.2.1 0, 12, .inl (fun _ => 0))), ((u6 4), .inl (g.2.1 0, 12, .inl (fun _ => 0))), ((u6 5), .inr (2, [.ref q3, .int 0, .int 0, .int 0, .int 0])), (q7, .inl (g.2.1 0, 24, .inl (fun _ => 0)))]) rfl dX3_init_53 ?_
  refine JN_aload_n C 0 dX3_init_56 rfl rfl ?_
  refine JN_iconst (v := (-1 : Int32)) C dX3_init_57 (by decide) ?_
  refine JN_put C (Cn := RX3) (T := TX3) (N := 9) uw_X3 tyX3 tyX3_ok nmX3 0 rfl rfl 8 (by decide) mw_87 rfl rfl rfl rfl (Nat.le_of_ble_eq_true rfl) (ws1 := [(h, .inr (3, [.ref q1, .ref q2, .ref q3, .ref q5, .ref q7, .int 0, .int 0, .int 0, .int (-1 : Int32)])), (q1, .inl (g.2.1 0, 1200, .inl (fun _ => 0))), (q2, .inl (g.2.1 0, 400, .inl (fun _ => 0))), (q3, .inr (1, [.ref (u4 0), .ref (u4 1), .ref (u4 2), .int 0, .int 0, .int 0, .int 0, .int 0, .int 0, .int 0, .int 0, .int 0, .int 0])), ((u4 0), .inl (g.2.1 0, 1200, .inl (fun _ => 0))), ((u4 1), .inl (g.2.1 0, 961, .inl (fun _ => 0))), ((u4 2), .inl (g.2.1 0, 81, .inl (fun _ => 0))), (q5, .inr (0, [.ref (u6 0), .ref (u6 1), .ref (u6 2), .ref (u6 3), .ref (u6 4), .ref q3, .ref (u6 5), .int 0, .int 0])), ((u6 0), .inl (g.2.1 0, 12, .inl (fun _ => 0))), ((u6 1), .inl (g.2.1 0, 12, .inl (fun _ => 0))), ((u6 2), .inl (g.2.1 0, 12, .inl (fun _ => 0))), ((u6 3), .inl (g.2.1 0, 12, .inl (fun _ => 0))), ((u6 4), .inl (g.2.1 0, 12, .inl (fun _ => 0))), ((u6 5), .inr (2, [.ref q3, .int 0, .int 0, .int 0, .int 0])), (q7, .inl (g.2.1 0, 24, .inl (fun _ => 0)))]) rfl dX3_init_58 ?_
  refine JN_aload_n C 0 dX3_init_61 rfl rfl ?_
  refine JN_get C (Cn := RX3) (T := TX3) (N := 9) uw_X3 0 rfl rfl 4 (by decide) mw_83 rfl rfl dX3_init_62 ?_
  refine JN_bipush (v := (-2 : Int32)) C dX3_init_65 (by decide) ?_
  refine JN_fill C hF 14 (v := (-2 : Int32)) (fun f => [(h, .inr (3, [.ref q1, .ref q2, .ref q3, .ref q5, .ref q7, .int 0, .int 0, .int 0, .int (-1 : Int32)])), (q1, .inl (g.2.1 0, 1200, .inl (fun _ => 0))), (q2, .inl (g.2.1 0, 400, .inl (fun _ => 0))), (q3, .inr (1, [.ref (u4 0), .ref (u4 1), .ref (u4 2), .int 0, .int 0, .int 0, .int 0, .int 0, .int 0, .int 0, .int 0, .int 0, .int 0])), ((u4 0), .inl (g.2.1 0, 1200, .inl (fun _ => 0))), ((u4 1), .inl (g.2.1 0, 961, .inl (fun _ => 0))), ((u4 2), .inl (g.2.1 0, 81, .inl (fun _ => 0))), (q5, .inr (0, [.ref (u6 0), .ref (u6 1), .ref (u6 2), .ref (u6 3), .ref (u6 4), .ref q3, .ref (u6 5), .int 0, .int 0])), ((u6 0), .inl (g.2.1 0, 12, .inl (fun _ => 0))), ((u6 1), .inl (g.2.1 0, 12, .inl (fun _ => 0))), ((u6 2), .inl (g.2.1 0, 12, .inl (fun _ => 0))), ((u6 3), .inl (g.2.1 0, 12, .inl (fun _ => 0))), ((u6 4), .inl (g.2.1 0, 12, .inl (fun _ => 0))), ((u6 5), .inr (2, [.ref q3, .int 0, .int 0, .int 0, .int 0])), (q7, .inl (g.2.1 0, 24, .inl f))]) rfl rfl (fun _ => rfl) (fun _ => rfl) (by decide) mw_76 dX3_init_67 ⟨Nat.le_of_ble_eq_true rfl, Nat.le_of_ble_eq_true rfl⟩ ⟨Nat.le_of_ble_eq_true rfl, Nat.le_of_ble_eq_true rfl⟩ (Nat.le_of_ble_eq_true rfl) ?_
  exact JN_ret C rfl (fun k => match k with | 0 => h | 1 => q3 | 2 => q5 | 3 => (u6 5) | 4 => q1 | 5 => q2 | 6 => q7 | 7 => (u4 0) | 8 => (u4 1) | 9 => (u4 2) | 10 => (u6 0) | 11 => (u6 1) | 12 => (u6 2) | 13 => (u6 3) | _ => (u6 4)) rfl [0, 3, 7, 13, 1, 2, 14, 4, 5, 6, 8, 9, 10, 11, 12] (by decide) rfl rfl rfl rfl dX3_init_70
set_option maxRecDepth 10000 in
set_option maxHeartbeats 4000000 in
theorem c_X4_init {l : Launch} {g : Gd} {h : Nat} : KN l yX4_init cX4_init 1 1 20 11 5029 g h [] (.inr (4, [.null, .null, .int 0, .int 0, .int 0, .int 0, .int 0, .int 0, .int 0, .int 0, .int 0, .null, .null, .null, .null, .int 0, .null, .null, .long 0, .int 0, .null, .null, .int 0, .int 0, .int 0, .int 0, .null, .int 0])) (fun _ _ => True) (fun u => u 0 = h) (fun u => mCl g u mw0) := by
  refine KN_of (by decide +kernel) (Nat.le_of_ble_eq_true rfl) rfl (fun x hx C hX => ?_)
  refine JN_aload_n C 0 dX4_init_0 rfl rfl ?_
  refine JN_obj C mw_459 dX4_init_1 (Nat.le_of_ble_eq_true rfl) (Nat.le_of_ble_eq_true rfl) (Nat.le_of_ble_eq_true rfl) ?_
  refine JN_aload_n C 0 dX4_init_4 rfl rfl ?_
  refine JN_sipush (v := (400 : Int32)) C dX4_init_5 (by decide) ?_
  refine JN_newB (N := 400) C (by decide) (by decide) (by decide) (Nat.le_of_ble_eq_true rfl) (Nat.le_of_ble_eq_true rfl) dX4_init_8 (fun q1 => ?_)
  refine JN_putF C (Cn := RX4) (T := TX4) (N := 28) uw_X4 tyX4 tyX4_ok nmX4 0 rfl rfl 0 (by decide) mw_460 rfl rfl rfl rfl rfl (Nat.le_of_ble_eq_true rfl) (ws1 := [(h, .inr (4, [.ref q1, .null, .int 0, .int 0, .int 0, .int 0, .int 0, .int 0, .int 0, .int 0, .int 0, .null, .null, .null, .null, .int 0, .null, .null, .long 0, .int 0, .null, .null, .int 0, .int 0, .int 0, .int 0, .null, .int 0])), (q1, .inl (g.2.1 1, 400, .inl (fun _ => 0)))]) rfl dX4_init_10 ?_
  refine JN_aload_n C 0 dX4_init_13 rfl rfl ?_
  refine JN_sipush (v := (1200 : Int32)) C dX4_init_14 (by decide) ?_
  refine JN_newB (N := 1200) C (by decide) (by decide) (by decide) (Nat.le_of_ble_eq_true rfl) (Nat.le_of_ble_eq_true rfl) dX4_init_17 (fun q2 => ?_)
  refine JN_putF C (Cn := RX4) (T := TX4) (N := 28) uw_X4 tyX4 tyX4_ok nmX4 0 rfl rfl 1 (by decide) mw_461 rfl rfl rfl rfl rfl (Nat.le_of_ble_eq_true rfl) (ws1 := [(h, .inr (4, [.ref q1, .ref q2, .int 0, .int 0, .int 0, .int 0, .int 0, .int 0, .int 0, .int 0, .int 0, .null, .null, .null, .null, .int 0, .null, .null, .long 0, .int 0, .null, .null, .int 0, .int 0, .int 0, .int 0, .null, .int 0])), (q1, .inl (g.2.1 1, 400, .inl (fun _ => 0))), (q2, .inl (g.2.1 1, 1200, .inl (fun _ => 0)))]) rfl dX4_init_19 ?_
  refine JN_aload_n C 0 dX4_init_22 rfl rfl ?_
  refine JN_iconst (v := (-1 : Int32)) C dX4_init_23 (by decide) ?_
  refine JN_put C (Cn := RX4) (T := TX4) (N := 28) uw_X4 tyX4 tyX4_ok nmX4 0 rfl rfl 5 (by decide) mw_465 rfl rfl rfl rfl (Nat.le_of_ble_eq_true rfl) (ws1 := [(h, .inr (4, [.ref q1, .ref q2, .int 0, .int 0, .int 0, .int (-1 : Int32), .int 0, .int 0, .int 0, .int 0, .int 0, .null, .null, .null, .null, .int 0, .null, .null, .long 0, .int 0, .null, .null, .int 0, .int 0, .int 0, .int 0, .null, .int 0])), (q1, .inl (g.2.1 1, 400, .inl (fun _ => 0))), (q2, .inl (g.2.1 1, 1200, .inl (fun _ => 0)))]) rfl dX4_init_24 ?_
  refine JN_aload_n C 0 dX4_init_27 rfl rfl ?_
  refine JN_bipush (v := (81 : Int32)) C dX4_init_28 (by decide) ?_
  refine JN_newI (N := 81) C (by decide) (by decide) (by decide) (Nat.le_of_ble_eq_true rfl) (Nat.le_of_ble_eq_true rfl) dX4_init_30 (fun q3 => ?_)
  refine JN_putF C (Cn := RX4) (T := TX4) (N := 28) uw_X4 tyX4 tyX4_ok nmX4 0 rfl rfl 11 (by decide) mw_471 rfl rfl rfl rfl rfl (Nat.le_of_ble_eq_true rfl) (ws1 := [(h, .inr (4, [.ref q1, .ref q2, .int 0, .int 0, .int 0, .int (-1 : Int32), .int 0, .int 0, .int 0, .int 0, .int 0, .ref q3, .null, .null, .null, .int 0, .null, .null, .long 0, .int 0, .null, .null, .int 0, .int 0, .int 0, .int 0, .null, .int 0])), (q1, .inl (g.2.1 1, 400, .inl (fun _ => 0))), (q2, .inl (g.2.1 1, 1200, .inl (fun _ => 0))), (q3, .inl (g.2.1 0, 81, .inl (fun _ => 0)))]) rfl dX4_init_32 ?_
  refine JN_aload_n C 0 dX4_init_35 rfl rfl ?_
  refine JN_sipush (v := (960 : Int32)) C dX4_init_36 (by decide) ?_
  refine JN_newI (N := 960) C (by decide) (by decide) (by decide) (Nat.le_of_ble_eq_true rfl) (Nat.le_of_ble_eq_true rfl) dX4_init_39 (fun q4 => ?_)
  refine JN_putF C (Cn := RX4) (T := TX4) (N := 28) uw_X4 tyX4 tyX4_ok nmX4 0 rfl rfl 12 (by decide) mw_472 rfl rfl rfl rfl rfl (Nat.le_of_ble_eq_true rfl) (ws1 := [(h, .inr (4, [.ref q1, .ref q2, .int 0, .int 0, .int 0, .int (-1 : Int32), .int 0, .int 0, .int 0, .int 0, .int 0, .ref q3, .ref q4, .null, .null, .int 0, .null, .null, .long 0, .int 0, .null, .null, .int 0, .int 0, .int 0, .int 0, .null, .int 0])), (q1, .inl (g.2.1 1, 400, .inl (fun _ => 0))), (q2, .inl (g.2.1 1, 1200, .inl (fun _ => 0))), (q3, .inl (g.2.1 0, 81, .inl (fun _ => 0))), (q4, .inl (g.2.1 0, 960, .inl (fun _ => 0)))]) rfl dX4_init_41 ?_
  refine JN_aload_n C 0 dX4_init_44 rfl rfl ?_
  refine JN_sipush (v := (960 : Int32)) C dX4_init_45 (by decide) ?_
  refine JN_newI (N := 960) C (by decide) (by decide) (by decide) (Nat.le_of_ble_eq_true rfl) (Nat.le_of_ble_eq_true rfl) dX4_init_48 (fun q5 => ?_)
  refine JN_putF C (Cn := RX4) (T := TX4) (N := 28) uw_X4 tyX4 tyX4_ok nmX4 0 rfl rfl 13 (by decide) mw_473 rfl rfl rfl rfl rfl (Nat.le_of_ble_eq_true rfl) (ws1 := [(h, .inr (4, [.ref q1, .ref q2, .int 0, .int 0, .int 0, .int (-1 : Int32), .int 0, .int 0, .int 0, .int 0, .int 0, .ref q3, .ref q4, .ref q5, .null, .int 0, .null, .null, .long 0, .int 0, .null, .null, .int 0, .int 0, .int 0, .int 0, .null, .int 0])), (q1, .inl (g.2.1 1, 400, .inl (fun _ => 0))), (q2, .inl (g.2.1 1, 1200, .inl (fun _ => 0))), (q3, .inl (g.2.1 0, 81, .inl (fun _ => 0))), (q4, .inl (g.2.1 0, 960, .inl (fun _ => 0))), (q5, .inl (g.2.1 0, 960, .inl (fun _ => 0)))]) rfl dX4_init_50 ?_
  refine JN_aload_n C 0 dX4_init_53 rfl rfl ?_
  refine JN_sipush (v := (1200 : Int32)) C dX4_init_54 (by decide) ?_
  refine JN_newB (N := 1200) C (by decide) (by decide) (by decide) (Nat.le_of_ble_eq_true rfl) (Nat.le_of_ble_eq_true rfl) dX4_init_57 (fun q6 => ?_)
  refine JN_putF C (Cn := RX4) (T := TX4) (N := 28) uw_X4 tyX4 tyX4_ok nmX4 0 rfl rfl 14 (by decide) mw_474 rfl rfl rfl rfl rfl (Nat.le_of_ble_eq_true rfl) (ws1 := [(h, .inr (4, [.ref q1, .ref q2, .int 0, .int 0, .int 0, .int (-1 : Int32), .int 0, .int 0, .int 0, .int 0, .int 0, .ref q3, .ref q4, .ref q5, .ref q6, .int 0, .null, .null, .long 0, .int 0, .null, .null, .int 0, .int 0, .int 0, .int 0, .null, .int 0])), (q1, .inl (g.2.1 1, 400, .inl (fun _ => 0))), (q2, .inl (g.2.1 1, 1200, .inl (fun _ => 0))), (q3, .inl (g.2.1 0, 81, .inl (fun _ => 0))), (q4, .inl (g.2.1 0, 960, .inl (fun _ => 0))), (q5, .inl (g.2.1 0, 960, .inl (fun _ => 0))), (q6, .inl (g.2.1 1, 1200, .inl (fun _ => 0)))]) rfl dX4_init_59 ?_
  refine JN_aload_n C 0 dX4_init_62 rfl rfl ?_
  refine JN_bipush (v := (24 : Int32)) C dX4_init_63 (by decide) ?_
  refine JN_newZ (N := 24) C (by decide) (by decide) (by decide) (Nat.le_of_ble_eq_true rfl) (Nat.le_of_ble_eq_true rfl) dX4_init_65 (fun q7 => ?_)
  refine JN_putF C (Cn := RX4) (T := TX4) (N := 28) uw_X4 tyX4 tyX4_ok nmX4 0 rfl rfl 16 (by decide) mw_476 rfl rfl rfl rfl rfl (Nat.le_of_ble_eq_true rfl) (ws1 := [(h, .inr (4, [.ref q1, .ref q2, .int 0, .int 0, .int 0, .int (-1 : Int32), .int 0, .int 0, .int 0, .int 0, .int 0, .ref q3, .ref q4, .ref q5, .ref q6, .int 0, .ref q7, .null, .long 0, .int 0, .null, .null, .int 0, .int 0, .int 0, .int 0, .null, .int 0])), (q1, .inl (g.2.1 1, 400, .inl (fun _ => 0))), (q2, .inl (g.2.1 1, 1200, .inl (fun _ => 0))), (q3, .inl (g.2.1 0, 81, .inl (fun _ => 0))), (q4, .inl (g.2.1 0, 960, .inl (fun _ => 0))), (q5, .inl (g.2.1 0, 960, .inl (fun _ => 0))), (q6, .inl (g.2.1 1, 1200, .inl (fun _ => 0))), (q7, .inl (g.2.1 2, 24, .inl (fun _ => 0)))]) rfl dX4_init_67 ?_
  refine JN_aload_n C 0 dX4_init_70 rfl rfl ?_
  refine JN_bipush (v := (24 : Int32)) C dX4_init_71 (by decide) ?_
  refine JN_newI (N := 24) C (by decide) (by decide) (by decide) (Nat.le_of_ble_eq_true rfl) (Nat.le_of_ble_eq_true rfl) dX4_init_73 (fun q8 => ?_)
  refine JN_putF C (Cn := RX4) (T := TX4) (N := 28) uw_X4 tyX4 tyX4_ok nmX4 0 rfl rfl 17 (by decide) mw_477 rfl rfl rfl rfl rfl (Nat.le_of_ble_eq_true rfl) (ws1 := [(h, .inr (4, [.ref q1, .ref q2, .int 0, .int 0, .int 0, .int (-1 : Int32), .int 0, .int 0, .int 0, .int 0, .int 0, .ref q3, .ref q4, .ref q5, .ref q6, .int 0, .ref q7, .ref q8, .long 0, .int 0, .null, .null, .int 0, .int 0, .int 0, .int 0, .null, .int 0])), (q1, .inl (g.2.1 1, 400, .inl (fun _ => 0))), (q2, .inl (g.2.1 1, 1200, .inl (fun _ => 0))), (q3, .inl (g.2.1 0, 81, .inl (fun _ => 0))), (q4, .inl (g.2.1 0, 960, .inl (fun _ => 0))), (q5, .inl (g.2.1 0, 960, .inl (fun _ => 0))), (q6, .inl (g.2.1 1, 1200, .inl (fun _ => 0))), (q7, .inl (g.2.1 2, 24, .inl (fun _ => 0))), (q8, .inl (g.2.1 0, 24, .inl (fun _ => 0)))]) rfl dX4_init_75 ?_
  refine JN_aload_n C 0 dX4_init_78 rfl rfl ?_
  refine JN_bipush (v := (80 : Int32)) C dX4_init_79 (by decide) ?_
  refine JN_newI (N := 80) C (by decide) (by decide) (by decide) (Nat.le_of_ble_eq_true rfl) (Nat.le_of_ble_eq_true rfl) dX4_init_81 (fun q9 => ?_)
  refine JN_putF C (Cn := RX4) (T := TX4) (N := 28) uw_X4 tyX4 tyX4_ok nmX4 0 rfl rfl 20 (by decide) mw_480 rfl rfl rfl rfl rfl (Nat.le_of_ble_eq_true rfl) (ws1 := [(h, .inr (4, [.ref q1, .ref q2, .int 0, .int 0, .int 0, .int (-1 : Int32), .int 0, .int 0, .int 0, .int 0, .int 0, .ref q3, .ref q4, .ref q5, .ref q6, .int 0, .ref q7, .ref q8, .long 0, .int 0, .ref q9, .null, .int 0, .int 0, .int 0, .int 0, .null, .int 0])), (q1, .inl (g.2.1 1, 400, .inl (fun _ => 0))), (q2, .inl (g.2.1 1, 1200, .inl (fun _ => 0))), (q3, .inl (g.2.1 0, 81, .inl (fun _ => 0))), (q4, .inl (g.2.1 0, 960, .inl (fun _ => 0))), (q5, .inl (g.2.1 0, 960, .inl (fun _ => 0))), (q6, .inl (g.2.1 1, 1200, .inl (fun _ => 0))), (q7, .inl (g.2.1 2, 24, .inl (fun _ => 0))), (q8, .inl (g.2.1 0, 24, .inl (fun _ => 0))), (q9, .inl (g.2.1 0, 80, .inl (fun _ => 0)))]) rfl dX4_init_83 ?_
  refine JN_aload_n C 0 dX4_init_86 rfl rfl ?_
  refine JN_bipush (v := (80 : Int32)) C dX4_init_87 (by decide) ?_
  refine JN_newI (N := 80) C (by decide) (by decide) (by decide) (Nat.le_of_ble_eq_true rfl) (Nat.le_of_ble_eq_true rfl) dX4_init_89 (fun q10 => ?_)
  refine JN_putF C (Cn := RX4) (T := TX4) (N := 28) uw_X4 tyX4 tyX4_ok nmX4 0 rfl rfl 21 (by decide) mw_481 rfl rfl rfl rfl rfl (Nat.le_of_ble_eq_true rfl) (ws1 := [(h, .inr (4, [.ref q1, .ref q2, .int 0, .int 0, .int 0, .int (-1 : Int32), .int 0, .int 0, .int 0, .int 0, .int 0, .ref q3, .ref q4, .ref q5, .ref q6, .int 0, .ref q7, .ref q8, .long 0, .int 0, .ref q9, .ref q10, .int 0, .int 0, .int 0, .int 0, .null, .int 0])), (q1, .inl (g.2.1 1, 400, .inl (fun _ => 0))), (q2, .inl (g.2.1 1, 1200, .inl (fun _ => 0))), (q3, .inl (g.2.1 0, 81, .inl (fun _ => 0))), (q4, .inl (g.2.1 0, 960, .inl (fun _ => 0))), (q5, .inl (g.2.1 0, 960, .inl (fun _ => 0))), (q6, .inl (g.2.1 1, 1200, .inl (fun _ => 0))), (q7, .inl (g.2.1 2, 24, .inl (fun _ => 0))), (q8, .inl (g.2.1 0, 24, .inl (fun _ => 0))), (q9, .inl (g.2.1 0, 80, .inl (fun _ => 0))), (q10, .inl (g.2.1 0, 80, .inl (fun _ => 0)))]) rfl dX4_init_91 ?_
  refine JN_aload_n C 0 dX4_init_94 rfl rfl ?_
  refine JN_bipush (v := (20 : Int32)) C dX4_init_95 (by decide) ?_
  refine JN_newB (N := 20) C (by decide) (by decide) (by decide) (Nat.le_of_ble_eq_true rfl) (Nat.le_of_ble_eq_true rfl) dX4_init_97 (fun q11 => ?_)
  refine JN_putF C (Cn := RX4) (T := TX4) (N := 28) uw_X4 tyX4 tyX4_ok nmX4 0 rfl rfl 26 (by decide) mw_486 rfl rfl rfl rfl rfl (Nat.le_of_ble_eq_true rfl) (ws1 := [(h, .inr (4, [.ref q1, .ref q2, .int 0, .int 0, .int 0, .int (-1 : Int32), .int 0, .int 0, .int 0, .int 0, .int 0, .ref q3, .ref q4, .ref q5, .ref q6, .int 0, .ref q7, .ref q8, .long 0, .int 0, .ref q9, .ref q10, .int 0, .int 0, .int 0, .int 0, .ref q11, .int 0])), (q1, .inl (g.2.1 1, 400, .inl (fun _ => 0))), (q2, .inl (g.2.1 1, 1200, .inl (fun _ => 0))), (q3, .inl (g.2.1 0, 81, .inl (fun _ => 0))), (q4, .inl (g.2.1 0, 960, .inl (fun _ => 0))), (q5, .inl (g.2.1 0, 960, .inl (fun _ => 0))), (q6, .inl (g.2.1 1, 1200, .inl (fun _ => 0))), (q7, .inl (g.2.1 2, 24, .inl (fun _ => 0))), (q8, .inl (g.2.1 0, 24, .inl (fun _ => 0))), (q9, .inl (g.2.1 0, 80, .inl (fun _ => 0))), (q10, .inl (g.2.1 0, 80, .inl (fun _ => 0))), (q11, .inl (g.2.1 1, 20, .inl (fun _ => 0)))]) rfl dX4_init_99 ?_
  exact JN_ret C rfl (fun k => match k with | 0 => h | 1 => q1 | 2 => q2 | 3 => q3 | 4 => q4 | 5 => q5 | 6 => q6 | 7 => q7 | 8 => q8 | 9 => q9 | 10 => q10 | _ => q11) rfl [0, 1, 2, 3, 4, 5, 6, 7, 8, 9, 10, 11] (by decide) rfl rfl rfl rfl dX4_init_102
