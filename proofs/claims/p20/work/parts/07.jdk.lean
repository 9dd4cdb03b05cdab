/-! the JDK's own members over the text constants and over rows: length, charAt, fill, arraycopy, a wide ldc -/
theorem st_ldcW {p : Program} {l : Launch} {e : Env} {R : Room} {s : State} {m : MethodId} {args : Array Value} {below : List Frame} {meth : Method} {c : Code} {T : State} {locs : List Loc} {cells slots : Nat}
    (X : Stand p l e R s m args below meth c T locs cells slots) (hexec : p.tables.exec = Jvm.exec) {own text : String} {index : Nat} {a : Addr} (hown : s.vm.findClass own = some m.cls)
    (hconst : (Cond.stringRef own index text).before args s = true) (hev : (Term.string own index).eval args s none [] s = some (.ref a)) {g : JFrame} (hg : g.method = m) (hdg : decode c.code g.pc = .ok (.ldc_w index, 3)) :
    ∀ target, Steps p.tables e below (T.setTop { g with pc := g.pc + 3, stack := .ref a :: g.stack }) target → Steps p.tables e below (T.setTop g) target := by
  obtain ⟨k, cf, i, a', hk, hcf, hcp, -, hr, hev'⟩ := Cond.stringRef_spec hown hconst
  cases hev.symm.trans hev'
  obtain ⟨k', hk', he⟩ := X.warmed.alike.2.2 _ _ hk
  have hr' : k'.resolved[index]? = some (some (.string a)) := by
    rcases X.warmed.entry hk hk' index with h | ⟨h, -⟩
    · rw [h]; exact hr
    · rw [hr] at h; cases h
  intro target hrest
  subst hg
  jvm_step X.here [hexec, hdg, ldc_w.wp_string (e := e) (s := T) (f := g) X.here.top hk' (by rw [he]; exact hcf) hcp hr']
  exact hrest
section
variable {Wd : Type} {x : Mx} {g : Gd} {A : Nat → Prop} {cl : Wd → va_W} {cc : ByteArray} {nL : Nat} {own : String} {ret : Option FieldType} {F L : Nat} {Q : State → Prop} {w : Wd} {pc : Nat} {lv : List (Nat × Value)} {st : List Value}
theorem J_ldcSw (C : Cx x g A cl cc nL own ret F L) (i : Nat) {index : Nat} {tx : String} {bs : List Int32} (hc : sxTab[i]? = some (own, index, tx, bs)) (hd : decode cc pc = .ok (.ldc_w index, 3)) (k : J x g A cl nL Q w (pc + 3) lv (.ref (g.2.2.1 i) :: st)) : J x g A cl nL Q w (pc) lv st := by
  intro ls H locs hl hP hS T hT X
  obtain ⟨t, a1, b1⟩ := k ls H locs hl hP hS T hT X
  have hZ := C.2.2.2.2.2.2.2.1.2.1 i _ hc
  exact ⟨t, st_ldcW X C.1 C.2.2.2.1 (text := tx) (a := g.2.2.1 i) hZ.1 hZ.2 (g := F0 x.2.2.2.2.2.1 pc ls st) rfl (by rw [C.2.1]; exact hd) t a1, b1⟩
theorem J_getX (C : Cx x g A cl cc nL own ret F L) {o n d : String} {v : Value} {q index : Nat} (hE : va_OF o n d v q A x.2.2.2.2.1 x.2.2.2.2.1.heap) (hlink : Cond.fieldLink own index o n d ∈ gT) (hd : decode cc pc = .ok (.getfield index, 3)) (k : J x g A cl nL Q w (pc + 3) lv (v :: st)) : J x g A cl nL Q w (pc) lv (.ref q :: st) :=
  fun ls H locs hl hP hS => vk_getf C.1 C.2.1 hE hS C.2.2.2.1 (C.2.2.2.2.1 _ hlink) (fun _ h => h) hd (k ls H locs hl hP hS)
theorem J_null (C : Cx x g A cl cc nL own ret F L) {j i : Nat} {k : Fin 4} (hd : decode cc pc = .ok (.aload_n k, 1)) (hi : (k : Nat) = i) (hj : lv[j]? = some (i, .null)) (kk : J x g A cl nL Q w (pc + 1) lv (.null :: st)) : J x g A cl nL Q w (pc) lv st :=
  fun ls H locs hl hP hS => lv_aload_nN C.1 C.2.1 hd hi (lv_at hl j hj) (kk ls H locs hl hP hS)
theorem J_world {w1 : Wd} (h : cl w = cl w1) (k : J x g A cl nL Q w1 pc lv st) : J x g A cl nL Q w pc lv st := fun ls H locs hl hP hS => k ls H locs hl (h ▸ hP) hS
def cpOk (sp dp n : Int32) (n0 n1 : Nat) : Prop := ¬ sp < 0 ∧ ¬ dp < 0 ∧ ¬ n < 0 ∧ sp.toNatClampNeg + n.toNatClampNeg ≤ n0 ∧ dp.toNatClampNeg + n.toNatClampNeg ≤ n1
theorem J_copy (C : Cx x g A cl cc nL own ret F L) (q0 q1 : Nat) {a0 a1 n0 n1 : Nat} {f f1 : Nat → Int32} {sp dp n : Int32} (ha0 : (cl w)[q0]? = some (a0, .inl (g.2.1 0, n0, .inl f))) (ha1 : (cl w)[q1]? = some (a1, .inl (g.2.1 0, n1, .inl f1))) {w1 : Wd} (hw : (cl w).set q1 (a1, .inl (g.2.1 0, n1, .inl (va_cpy f f1 sp.toNatClampNeg dp.toNatClampNeg n.toNatClampNeg))) = cl w1) {index : Nat} (h1 : Cond.methodLink own index arraycopyName ∈ gT) (hd : decode cc pc = .ok (.invokestatic index, 3)) (hF : 1 ≤ F) (hL : 32 ≤ L) (hst : (st.map fun v => v.category).sum ≤ 8) {X : Prop} (h : cpOk sp dp n n0 n1 ∧ X) (k : X → J x g A cl nL Q w1 (pc + 3) lv st) : J x g A cl nL Q w (pc) lv (.int n :: .int dp :: .ref a1 :: .int sp :: .ref a0 :: st) := by
  obtain ⟨⟨g1, g2, g3, g4, g5⟩, h⟩ := h
  intro ls H locs hl hP hS
  exact va_copyi C.1 C.2.1 (C.2.2.1.trans hl.1.symm) C.2.2.2.1 (C.2.2.2.2.1 _ h1) (C.2.2.2.2.1 _ mw_101) (C.2.2.2.2.1 _ mw_100) (C.2.2.2.2.1 (.initialized "java/lang/System") mw_7) C.2.2.2.2.2.1 hP (C.2.2.2.2.2.2.1 w) hS q0 q1 0 0 ha0 ha1 rfl rfl rfl g1 g2 g3 g4 g5 (fun _ _ => rfl) (Nat.le_trans hF C.2.2.2.2.2.2.2.2.2.2.1)
    (Nat.le_trans (show _ ≤ 32 by have : nativeFrameWords "java/lang/System" "arraycopy" 5 = 7 := by decide
                                  omega) (Nat.le_trans hL C.2.2.2.2.2.2.2.2.2.2.2.1)) hd (fun H locs hP _ hS => k h ls H locs hl (hw ▸ hP) hS)
theorem J_min (C : Cx x g A cl cc nL own ret F L) {index : Nat} {u v : Int32} (h1 : Cond.methodLink own index yJ9_min_7cf53 ∈ gT) (hd : decode cc pc = .ok (.invokestatic index, 3)) (hF : 1 ≤ F) (hL : 21 ≤ L) (hst : (st.map fun v => v.category).sum ≤ 8) (k : J x g A cl nL Q w (pc + 3) lv (.int (if v < u then v else u) :: st)) : J x g A cl nL Q w (pc) lv (.int v :: .int u :: st) := by
  intro ls H locs hl hP hS
  exact va_mmin C.1 C.2.1 (C.2.2.1.trans hl.1.symm) C.2.2.2.1 (C.2.2.2.2.1 _ h1) (C.2.2.2.2.1 _ mw_128) (C.2.2.2.2.1 _ mw_8) (C.2.2.2.2.1 _ mw_129) (Nat.le_trans hF C.2.2.2.2.2.2.2.2.2.2.1) (Nat.le_trans (Nat.le_trans (Nat.add_le_add_right hst 13) hL) C.2.2.2.2.2.2.2.2.2.2.2.1) C.2.2.2.2.2.2.2.2.2.2.2.2.1 C.2.2.2.2.2.2.2.2.2.2.2.2.2 hd (k ls H locs hl hP hS)
/-- the row behind a fill of its first n places -/
def ar_fill (n : Nat) (v : Int32) (f : Nat → Int32) : Nat → Int32 := fun j => if j < n then v else f j
theorem ar_fill_s (i : Nat) (v : Int32) (f : Nat → Int32) : upd (ar_fill i v f) i v = ar_fill (i + 1) v f := by
  funext j
  simp only [upd, ar_fill]
  by_cases h : j = i
  · subst h; simp
  · by_cases h2 : j < i
    · simp [h, h2, Nat.lt_succ_of_lt h2]
    · simp [h, h2, show ¬ j < i + 1 by omega]
theorem set_self {α : Type} {l : List α} {i : Nat} {y : α} (h : l[i]? = some y) : l.set i y = l := by
  apply List.ext_getElem?
  intro j
  by_cases e : i = j
  · subst e
    rw [List.getElem?_set_self (List.getElem?_eq_some_iff.mp h).1, h]
  · rw [List.getElem?_set_ne e]
theorem s_fill {n aa q0 : Nat} {f : Nat → Int32} {v : Int32} {sf : (Nat → Int32) → Wd} (C : Cx x g A cl cJ7_fill_53178 4 RJ7 none F L) (hn : n < 2 ^ 31) (ha : ∀ f' : Nat → Int32, (cl (sf f'))[q0]? = some (aa, .inl (g.2.1 0, n, .inl f'))) (hsf : ∀ f' f2 : Nat → Int32, (cl (sf f')).set q0 (aa, .inl (g.2.1 0, n, .inl f2)) = cl (sf f2)) :
    ∀ (k i : Nat), i + k = n → J x g A cl 4 (JQ x A (QcV g A cl (fun w' => w' = sf (ar_fill n v f)))) (sf (ar_fill i v f)) 5 [(0, .ref aa), (1, .int v), (2, .int (nI i)), (3, .int (nI n))] [] := by
  intro k
  induction k with
  | zero =>
    intro i hi
    refine J_iload_n C 2 dJ7_fill_53178_5 rfl rfl ?_
    refine J_iload_n C 3 dJ7_fill_53178_6 rfl rfl ?_
    refine J_icmp_ge (tgt := 20) (X := True) (Y := False) C dJ7_fill_53178_7 (by decide) ⟨fun _ => trivial, fun h => h (nI_le (by omega) (by omega))⟩ (fun _ => ?_) (fun h => h.elim)
    exact J_vret C dJ7_fill_53178_20 (by rw [show i = n by omega])
  | succ k ih =>
    intro i hi
    refine J_iload_n C 2 dJ7_fill_53178_5 rfl rfl ?_
    refine J_iload_n C 3 dJ7_fill_53178_6 rfl rfl ?_
    refine J_icmp_ge (tgt := 20) (X := False) (Y := True) C dJ7_fill_53178_7 (by decide) ⟨fun h => nI_ge (show i < n by omega) hn h, fun _ => trivial⟩ (fun h => h.elim) (fun _ => ?_)
    refine J_aload_n C 0 dJ7_fill_53178_10 rfl rfl ?_
    refine J_iload_n C 2 dJ7_fill_53178_11 rfl rfl ?_
    refine J_iload_n C 1 dJ7_fill_53178_12 rfl rfl ?_
    refine J_iast C q0 (ha _) (w1 := sf (ar_fill (i + 1) v f)) (by rw [nI_clamp (by omega), ar_fill_s]; exact hsf _ _) (X := True) dJ7_fill_53178_13 ⟨vp_in_nI (by omega) hn, trivial⟩ (fun _ => ?_)
    refine J_iinc C 2 [(2, .int (nI (i + 1))), (0, .ref aa), (1, .int v), (3, .int (nI n))] dJ7_fill_53178_14 rfl (nI_1 i) (by decide) rfl ?_
    refine J_goto (tgt := 5) C dJ7_fill_53178_17 (by decide) ?_
    refine J_lv [1, 2, 0, 3] rfl ?_
    exact ih (i + 1) (by omega)
theorem c_fill {l : Launch} {n aa q0 : Nat} {f : Nat → Int32} {v : Int32} {sf : (Nat → Int32) → Wd} (ha : (cl w)[q0]? = some (aa, .inl (g.2.1 0, n, .inl f))) (hsf : ∀ f' : Nat → Int32, (cl w).set q0 (aa, .inl (g.2.1 0, n, .inl f')) = cl (sf f')) (hn : n < 2 ^ 31) : Kt l yJ7_fill_53178 cJ7_fill_53178 4 none 0 0 g A cl [.ref aa, .int v] w (QcV g A cl (fun w' => w' = sf (ar_fill n v f))) := by
  refine Kt_of (by decide +kernel) (Nat.le_of_ble_eq_true rfl) (fun x hx C => ?_)
  have hq := (List.getElem?_eq_some_iff.mp ha).1
  have ha2 : ∀ f' : Nat → Int32, (cl (sf f'))[q0]? = some (aa, .inl (g.2.1 0, n, .inl f')) := fun f' => by rw [← hsf, List.getElem?_set_self hq]
  have hs2 : ∀ f' f2 : Nat → Int32, (cl (sf f')).set q0 (aa, .inl (g.2.1 0, n, .inl f2)) = cl (sf f2) := fun f' f2 => by rw [← hsf, List.set_set, hsf]
  have h0 : cl w = cl (sf (ar_fill 0 v f)) := by
    rw [← hsf, show ar_fill 0 v f = f from funext fun j => if_neg (Nat.not_lt_zero j), set_self ha]
  refine J_world h0 ?_
  refine J_iconst (v := nI 0) C dJ7_fill_53178_0 (by decide) ?_
  refine J_istore_n C [(2, .int (nI 0)), (0, .ref aa), (1, .int v)] dJ7_fill_53178_1 rfl (by decide) rfl ?_
  refine J_aload_n C 1 dJ7_fill_53178_2 rfl rfl ?_
  refine J_alen C q0 0 (ha2 _) rfl (v := nI n) rfl dJ7_fill_53178_3 ?_
  refine J_istore_n C [(3, .int (nI n)), (2, .int (nI 0)), (0, .ref aa), (1, .int v)] dJ7_fill_53178_4 rfl (by decide) rfl ?_
  refine J_lv [2, 3, 1, 0] rfl ?_
  exact s_fill C hn ha2 hs2 n 0 (by omega)
theorem J_fill (C : Cx x g A cl cc nL own ret F L) (q0 : Nat) {n aa : Nat} {f : Nat → Int32} {v : Int32} (ha : (cl w)[q0]? = some (aa, .inl (g.2.1 0, n, .inl f))) {sf : (Nat → Int32) → Wd} (hsf : ∀ f' : Nat → Int32, (cl w).set q0 (aa, .inl (g.2.1 0, n, .inl f')) = cl (sf f')) (hn : n < 2 ^ 31) {index : Nat} (h1 : Cond.methodLink own index yJ7_fill_53178 ∈ gT) (hd : decode cc pc = .ok (.invokestatic index, 3)) (hR : 0 + 1 ≤ F ∧ 8 + (4 + 11) + 0 ≤ L) (hst : (st.map fun v => v.category).sum ≤ 8) (k : J x g A cl nL Q (sf (ar_fill n v f)) (pc + 3) lv st) : J x g A cl nL Q w (pc) lv (.int v :: .ref aa :: st) :=
  J_callSv C (As := [.ref aa, .int v]) (n := 2) (c_fill ha hsf hn) h1 mw_77 mw_5 mw_78 (by decide +kernel) hR rfl hst hd (fun w' hK => by subst hK; exact k)
/-! texts -/
theorem rc_S (C : Cx x g A cl cc nL own ret F L) {i : Nat} (hi : i < 32) (H : Heap) (locs : List Loc) (hP : va_P g.1 vwCl (cl w) H) (hS : va_S A x.2.2.2.2.1.heap H locs) : ∃ cell : Cell, H[g.2.2.1 i]? = some cell ∧ cell.vm.isStatics = false ∧ x.2.2.2.2.1.vm.findClass RJ0 = some cell.cls := by
  obtain ⟨h1, -⟩ := C.2.2.2.2.2.2.2.1.1 i hi
  obtain ⟨cell, e1, e2, e3, -⟩ := h1.kept hS.2.1
  exact ⟨cell, e1, e2, e3⟩
theorem c_coder {l : Launch} {i : Nat} (hi : i < 32) : Kt l yJ0_coder_7d493 cJ0_coder_7d493 1 (some .byte) 0 0 g A cl [.ref (g.2.2.1 i)] w (QcI g A cl (fun r w' => r = 0 ∧ w' = w)) := by
  refine Kt_of (by decide +kernel) (Nat.le_of_ble_eq_true rfl) (fun x hx C => ?_)
  obtain ⟨h1, h2, h3, h4⟩ := id (C.2.2.2.2.2.2.2.1.1 i hi)
  refine J_gets C C.2.2.2.2.2.2.2.1.2.2.1 mw_208 dJ0_coder_7d493_0 ?_
  refine J_if_eq (tgt := 13) (X := False) (Y := True) C dJ0_coder_7d493_3 (by decide) ⟨fun h => absurd h (by decide), fun _ => trivial⟩ (fun h => h.elim) (fun _ => ?_)
  refine J_aload_n C 0 dJ0_coder_7d493_6 rfl rfl ?_
  refine J_getX C h2 mw_749 dJ0_coder_7d493_7 ?_
  refine J_goto (tgt := 14) C dJ0_coder_7d493_10 (by decide) ?_
  exact J_zret C dJ0_coder_7d493_14 rfl ⟨rfl, rfl⟩
theorem c_isLatin1 {l : Launch} {i : Nat} (hi : i < 32) : Kt l yJ0_isLatin1_aae02 cJ0_isLatin1_aae02 1 (some .boolean) 0 0 g A cl [.ref (g.2.2.1 i)] w (QcI g A cl (fun r w' => r = 1 ∧ w' = w)) := by
  refine Kt_of (by decide +kernel) (Nat.le_of_ble_eq_true rfl) (fun x hx C => ?_)
  obtain ⟨h1, h2, h3, h4⟩ := id (C.2.2.2.2.2.2.2.1.1 i hi)
  refine J_gets C C.2.2.2.2.2.2.2.1.2.2.1 mw_208 dJ0_isLatin1_aae02_0 ?_
  refine J_if_eq (tgt := 17) (X := False) (Y := True) C dJ0_isLatin1_aae02_3 (by decide) ⟨fun h => absurd h (by decide), fun _ => trivial⟩ (fun h => h.elim) (fun _ => ?_)
  refine J_aload_n C 0 dJ0_isLatin1_aae02_6 rfl rfl ?_
  refine J_getX C h2 mw_749 dJ0_isLatin1_aae02_7 ?_
  refine J_if_ne (tgt := 17) (X := False) (Y := True) C dJ0_isLatin1_aae02_10 (by decide) ⟨fun h => h rfl, fun _ => trivial⟩ (fun h => h.elim) (fun _ => ?_)
  refine J_iconst (v := (1 : Int32)) C dJ0_isLatin1_aae02_13 (by decide) ?_
  refine J_goto (tgt := 18) C dJ0_isLatin1_aae02_14 (by decide) ?_
  exact J_zret C dJ0_isLatin1_aae02_18 rfl ⟨rfl, rfl⟩
theorem c_pcheck {l : Launch} {i n : Int32} {q : Value} (h0 : ¬ i < 0) (h1 : i < n) (hq : q.category = 1) : Kt l yJ3_checkIndex_8e157 cJ3_checkIndex_8e157 3 (some .int) 0 0 g A cl [.int i, .int n, q] w (QcI g A cl (fun r w' => r = i ∧ w' = w)) := by
  refine Kt_of (by decide +kernel) (by cases q <;> first | exact Nat.le_of_ble_eq_true rfl | cases hq) (fun x hx C => ?_)
  refine J_iload_n C 0 dJ3_checkIndex_8e157_0 rfl rfl ?_
  refine J_if_lt (tgt := 9) (X := False) (Y := True) C dJ3_checkIndex_8e157_1 (by decide) ⟨fun h => h0 h, fun _ => trivial⟩ (fun h => h.elim) (fun _ => ?_)
  refine J_iload_n C 0 dJ3_checkIndex_8e157_4 rfl rfl ?_
  refine J_iload_n C 1 dJ3_checkIndex_8e157_5 rfl rfl ?_
  refine J_icmp_lt (tgt := 16) (X := True) (Y := False) C dJ3_checkIndex_8e157_6 (by decide) ⟨fun _ => trivial, fun h => h h1⟩ (fun _ => ?_) (fun h => h.elim)
  refine J_iload_n C 0 dJ3_checkIndex_8e157_16 rfl rfl ?_
  exact J_iret C dJ3_checkIndex_8e157_17 ⟨rfl, rfl⟩
theorem c_scheck {l : Launch} {i n : Int32} (h0 : ¬ i < 0) (h1 : i < n) : Kt l yJ0_checkIndex_df160 cJ0_checkIndex_df160 2 none 1 22 g A cl [.int i, .int n] w (QcV g A cl (fun w' => w' = w)) := by
  refine Kt_of (by decide +kernel) (Nat.le_of_ble_eq_true rfl) (fun x hx C => ?_)
  have step : ∀ q : Value, q.category = 1 → va_Z "jdk/internal/util/Preconditions" "SIOOBE_FORMATTER" "Ljava/util/function/BiFunction;" q A x.2.2.2.2.1 x.2.2.2.2.1.heap → J x g A cl 2 (JQ x A (QcV g A cl (fun w' => w' = w))) w 0 (lv_args 0 [.int i, .int n]) [] := by
    intro q hq hZ
    refine J_iload_n C 0 dJ0_checkIndex_df160_0 rfl rfl ?_
    refine J_iload_n C 1 dJ0_checkIndex_df160_1 rfl rfl ?_
    refine J_gets C hZ mw_223 dJ0_checkIndex_df160_2 ?_
    refine J_callSi C (As := [.int i, .int n, q]) (n := 3) (c_pcheck h0 h1 hq) mw_224 mw_225 mw_11 mw_226 (by decide +kernel) ⟨Nat.le_of_ble_eq_true rfl, Nat.le_of_ble_eq_true rfl⟩ rfl (Nat.le_of_ble_eq_true rfl) dJ0_checkIndex_df160_5 (fun r w' hK => ?_)
    obtain ⟨-, rfl⟩ := hK
    refine J_pop C dJ0_checkIndex_df160_8 rfl ?_
    exact J_vret C dJ0_checkIndex_df160_9 rfl
  rcases C.2.2.2.2.2.2.2.1.2.2.2.1 with h | ⟨t, h⟩
  · exact step .null rfl h
  · exact step (.ref t) rfl h
def sx_ch (k j : Nat) : Int32 := ((((sxB k).getD j 0) &&& 255).toUInt32 % 65536).toInt32
theorem c_lcharAt {l : Launch} {i : Int32} {k : Nat} (hk : k < 32) (hn : (sxB k).length < 2 ^ 31) (hi : vp_in i (sxB k).length) : Kt l yJ1_charAt_3b067 cJ1_charAt_3b067 2 (some .char) 2 43 g A cl [.ref (g.2.2.2 (10 + k)), .int i] w (QcI g A cl (fun r w' => r = sx_ch k i.toNatClampNeg ∧ w' = w)) := by
  refine Kt_of (by decide +kernel) (Nat.le_of_ble_eq_true rfl) (fun x hx C => ?_)
  obtain ⟨-, -, -, hT⟩ := id (C.2.2.2.2.2.2.2.1.1 k hk)
  obtain ⟨j, hj, rfl⟩ := vp_in_of hi hn
  refine J_iload_n C 1 dJ1_charAt_3b067_0 rfl rfl ?_
  refine J_aload_n C 0 dJ1_charAt_3b067_1 rfl rfl ?_
  refine J_tlen C hT (v := nI (sxB k).length) rfl dJ1_charAt_3b067_2 ?_
  refine J_callSv C (As := [.int (nI j), .int (nI (sxB k).length)]) (n := 2) (c_scheck (nI_pos (by omega)) (nI_lt hj hn)) mw_220 mw_221 mw_9 mw_222 (by decide +kernel) ⟨Nat.le_of_ble_eq_true rfl, Nat.le_of_ble_eq_true rfl⟩ rfl (Nat.le_of_ble_eq_true rfl) dJ1_charAt_3b067_3 (fun w' hK => ?_)
  subst hK
  refine J_aload_n C 0 dJ1_charAt_3b067_6 rfl rfl ?_
  refine J_iload_n C 1 dJ1_charAt_3b067_7 rfl rfl ?_
  refine J_tb (X := True) C hT dJ1_charAt_3b067_8 ⟨hi, trivial⟩ (fun _ => ?_)
  refine J_sipush (v := (255 : Int32)) C dJ1_charAt_3b067_9 (by decide) ?_
  refine J_iand C dJ1_charAt_3b067_12 ?_
  refine J_i2c C dJ1_charAt_3b067_13 ?_
  exact J_zret C dJ1_charAt_3b067_14 (pk_nc _) ⟨rfl, rfl⟩
def Ps_len (K : Int32 → Prop) (k : Nat) : Prop := k < 32 ∧ K (nI (sxB k).length)
def Ps_chr (K : Int32 → Prop) (k : Nat) (i : Int32) : Prop := k < 32 ∧ vp_in i (sxB k).length ∧ K (sx_ch k i.toNatClampNeg)
theorem sx_small : ∀ k, k < 32 → (sxB k).length < 2 ^ 31 := by decide +kernel
theorem c_J0_length {l : Launch} {k : Nat} {K : Int32 → Prop} (h : Ps_len K k) : Kt l yJ0_length_8abf5 cJ0_length_8abf5 1 (some .int) 1 20 g A cl [.ref (g.2.2.1 k)] w (QcI g A cl (fun r w' => K r ∧ w' = w)) := by
  refine Kt_of (by decide +kernel) (Nat.le_of_ble_eq_true rfl) (fun x hx C => ?_)
  obtain ⟨hk, h⟩ := h
  obtain ⟨h1, h2, h3, h4⟩ := id (C.2.2.2.2.2.2.2.1.1 k hk)
  refine J_aload_n C 0 dJ0_length_8abf5_0 rfl rfl ?_
  refine J_getX C h3 mw_748 dJ0_length_8abf5_1 ?_
  refine J_tlen C h4 (v := nI (sxB k).length) rfl dJ0_length_8abf5_4 ?_
  refine J_aload_n C 0 dJ0_length_8abf5_5 rfl rfl ?_
  refine J_callVi C (As := []) (b := g.2.2.1 k) (n := 0) (c_coder hk) mw_204 mw_205 mw_206 mw_9 mw_207 (by decide +kernel) ⟨Nat.le_of_ble_eq_true rfl, Nat.le_of_ble_eq_true rfl⟩ rfl (rc_S C hk) (Nat.le_of_ble_eq_true rfl) dJ0_length_8abf5_6 (fun r w' hK => ?_)
  obtain ⟨rfl, rfl⟩ := hK
  refine J_ishr C dJ0_length_8abf5_9 ?_
  exact J_iret C dJ0_length_8abf5_10 ⟨by rw [sc_shr0 (sx_small k hk)]; exact h, rfl⟩
theorem c_J0_charAt {l : Launch} {k : Nat} {i : Int32} {K : Int32 → Prop} (h : Ps_chr K k i) : Kt l yJ0_charAt_5068e cJ0_charAt_5068e 2 (some .char) 3 64 g A cl [.ref (g.2.2.1 k), .int i] w (QcI g A cl (fun r w' => K r ∧ w' = w)) := by
  refine Kt_of (by decide +kernel) (Nat.le_of_ble_eq_true rfl) (fun x hx C => ?_)
  obtain ⟨hk, hi, h⟩ := h
  obtain ⟨h1, h2, h3, h4⟩ := id (C.2.2.2.2.2.2.2.1.1 k hk)
  refine J_aload_n C 0 dJ0_charAt_5068e_0 rfl rfl ?_
  refine J_callVi C (As := []) (b := g.2.2.1 k) (n := 0) (c_isLatin1 hk) mw_213 mw_214 mw_215 mw_9 mw_216 (by decide +kernel) ⟨Nat.le_of_ble_eq_true rfl, Nat.le_of_ble_eq_true rfl⟩ rfl (rc_S C hk) (Nat.le_of_ble_eq_true rfl) dJ0_charAt_5068e_1 (fun r w' hK => ?_)
  obtain ⟨rfl, rfl⟩ := hK
  refine J_if_eq (tgt := 16) (X := False) (Y := True) C dJ0_charAt_5068e_4 (by decide) ⟨fun h => absurd h (by decide), fun _ => trivial⟩ (fun h => h.elim) (fun _ => ?_)
  refine J_aload_n C 0 dJ0_charAt_5068e_7 rfl rfl ?_
  refine J_getX C h3 mw_748 dJ0_charAt_5068e_8 ?_
  refine J_iload_n C 1 dJ0_charAt_5068e_11 rfl rfl ?_
  refine J_callSi C (As := [.ref (g.2.2.2 (10 + k)), .int i]) (n := 2) (c_lcharAt hk (sx_small k hk) hi) mw_217 mw_218 mw_10 mw_219 (by decide +kernel) ⟨Nat.le_of_ble_eq_true rfl, Nat.le_of_ble_eq_true rfl⟩ rfl (Nat.le_of_ble_eq_true rfl) dJ0_charAt_5068e_12 (fun r w' hK => ?_)
  obtain ⟨rfl, rfl⟩ := hK
  exact J_zret C dJ0_charAt_5068e_15 (pk_nc _) ⟨h, rfl⟩
theorem k_J0_length_8abf5 (C : Cx x g A cl cc nL own ret F L) {index k0 : Nat} {K : Int32 → Prop} (h1 : Cond.methodLink own index yJ0_length_8abf5 ∈ gT) (hd : decode cc pc = .ok (.invokevirtual index, 3)) (hR : 1 + 1 ≤ F ∧ 8 + (1 + 11) + 20 ≤ L) (hst : (st.map fun v => v.category).sum ≤ 8) (h : Ps_len K k0) (k : ∀ r, K r → J x g A cl nL Q w (pc + 3) lv (.int r :: st)) : J x g A cl nL Q w (pc) lv (.ref (g.2.2.1 k0) :: st) :=
  J_callVi C (As := []) (b := g.2.2.1 k0) (n := 0) (c_J0_length h) h1 mw_201 mw_202 mw_9 mw_203 (by decide +kernel) hR rfl (rc_S C h.1) hst hd (fun r w' hK => by
    obtain ⟨hK, rfl⟩ := hK
    exact k r hK)
theorem k_J0_charAt_5068e (C : Cx x g A cl cc nL own ret F L) {index k0 : Nat} {i : Int32} {K : Int32 → Prop} (h1 : Cond.methodLink own index yJ0_charAt_5068e ∈ gT) (hd : decode cc pc = .ok (.invokevirtual index, 3)) (hR : 3 + 1 ≤ F ∧ 8 + (2 + 11) + 64 ≤ L) (hst : (st.map fun v => v.category).sum ≤ 8) (h : Ps_chr K k0 i) (k : ∀ r, K r → J x g A cl nL Q w (pc + 3) lv (.int r :: st)) : J x g A cl nL Q w (pc) lv (.int i :: .ref (g.2.2.1 k0) :: st) :=
  J_callVi C (As := [.int i]) (b := g.2.2.1 k0) (n := 1) (c_J0_charAt h) h1 mw_210 mw_211 mw_9 mw_212 (by decide +kernel) hR rfl (rc_S C h.1) hst hd (fun r w' hK => by
    obtain ⟨hK, rfl⟩ := hK
    exact k r hK)
end
