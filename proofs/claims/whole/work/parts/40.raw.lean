/-! RAW WALKS: where objects are made, the world is a list that grows; kc, ks: cells and slots that are new -/
def JR (E : JE) (nL : Nat) (Q : State → Prop) (lv : List (Nat × Value)) (pc : Nat) (st : List Value) (ws : va_W) (kc ks : Nat) : Prop :=
  ∀ (H : Heap) (locs : List Loc) (ls : Array Slot), va_P (jV E).1 vwCl ws H → va_D (jA E) ws → va_S (jA E) (jS E).heap H locs → lv_has ls nL lv →
    W E.1.1 E.1.2.1 E.1.2.2.1 (jR E) (jS E) (jM E) (jG E) (jB E) (jT E) (jC E) H locs kc ks Q (F0 (jM E) pc ls st)
def XR (E : JE) (nL : Nat) (cc : ByteArray) (own : String) (ret : Option FieldType) (F L MC MS : Nat) (cI : ClassId) : Prop :=
  JX E nL cc own ret F L ∧ jK E = (0, 0, MC, MS) ∧ (jV E).2.1[0]? = some (cI, .int)
theorem XR_R {E : JE} {nL F L MC MS : Nat} {cc : ByteArray} {own : String} {ret : Option FieldType} {cI : ClassId} (X : XR E nL cc own ret F L MC MS cI) : jR E = { frames := F, cells := MC, slots := MS, locals := L } := by
  have h : jR E = _ := X.1.2.2.2.2.2.1
  rw [h, X.2.1]
section RRows
variable {E : JE} {nL F L MC MS : Nat} {cI : ClassId} {cc : ByteArray} {own : String} {ret : Option FieldType} {Q : State → Prop} {lv lv' : List (Nat × Value)} {pc pc' : Nat} {st st' : List Value} {ws ws' : va_W} {kc ks : Nat}
theorem rxx (X : XR E nL cc own ret F L MC MS cI) : E.1.1.tables.exec = Jvm.exec := jxx X.1
theorem rxb (X : XR E nL cc own ret F L MC MS cI) : (jC E).code = cc := jxb X.1
theorem rxo (X : XR E nL cc own ret F L MC MS cI) : (jS E).vm.findClass own = some (jM E).cls := jxo X.1
theorem rxt (X : XR E nL cc own ret F L MC MS cI) : ∀ w ∈ lw_ok, w.before (jG E) (jS E) = true := jxt X.1
theorem Rstep (h : ∀ (H : Heap) (locs : List Loc) (ls : Array Slot), lv_has ls nL lv → (∀ ls' : Array Slot, lv_has ls' nL lv' → W E.1.1 E.1.2.1 E.1.2.2.1 (jR E) (jS E) (jM E) (jG E) (jB E) (jT E) (jC E) H locs kc ks Q (F0 (jM E) pc' ls' st')) → W E.1.1 E.1.2.1 E.1.2.2.1 (jR E) (jS E) (jM E) (jG E) (jB E) (jT E) (jC E) H locs kc ks Q (F0 (jM E) pc ls st)) (kk : JR E nL Q lv' pc' st' ws kc ks) : JR E nL Q lv pc st ws kc ks :=
  fun H locs ls hP hD hS hl => h H locs ls hl (fun ls' hl' => kk H locs ls' hP hD hS hl')
theorem R_ws (ws' : va_W) (h : ws = ws') (kk : JR E nL Q lv pc st ws' kc ks) : JR E nL Q lv pc st ws kc ks := h ▸ kk
theorem R_wid {kc' ks' : Nat} (h1 : kc ≤ kc') (h2 : ks ≤ ks') (kk : JR E nL Q lv pc st ws kc' ks') : JR E nL Q lv pc st ws kc ks := fun H locs ls hP hD hS hl => W.widen h1 h2 (kk H locs ls hP hD hS hl)
theorem R_sub (pl : List Nat) (h : lv_pick lv pl = lv') (kk : JR E nL Q lv' pc st ws kc ks) : JR E nL Q lv pc st ws kc ks := Rstep (fun H locs ls hl k => k ls (lv_sub hl pl h)) kk
theorem R_iconst {n : Int} {v : Int32} (X : XR E nL cc own ret F L MC MS cI) (hdg : decode cc pc = .ok (.iconst n, 1)) (hv : Int32.ofInt n = v) (kk : JR E nL Q lv (pc + 1) (.int v :: st) ws kc ks) : JR E nL Q lv pc (st) ws kc ks := Rstep (fun H locs ls hl k => lv_iconst (rxx X) (rxb X) hdg hv (k ls hl)) kk
theorem R_bipush {n : Int} {v : Int32} (X : XR E nL cc own ret F L MC MS cI) (hdg : decode cc pc = .ok (.bipush n, 2)) (hv : (Int8.ofInt n).toInt32 = v) (kk : JR E nL Q lv (pc + 2) (.int v :: st) ws kc ks) : JR E nL Q lv pc (st) ws kc ks := Rstep (fun H locs ls hl k => lv_bipush (rxx X) (rxb X) hdg hv (k ls hl)) kk
theorem R_sipush {n : Int} {v : Int32} (X : XR E nL cc own ret F L MC MS cI) (hdg : decode cc pc = .ok (.sipush n, 3)) (hv : (Int16.ofInt n).toInt32 = v) (kk : JR E nL Q lv (pc + 3) (.int v :: st) ws kc ks) : JR E nL Q lv pc (st) ws kc ks := Rstep (fun H locs ls hl k => lv_sipush (rxx X) (rxb X) hdg hv (k ls hl)) kk
theorem R_dup {va : Value} (X : XR E nL cc own ret F L MC MS cI) (hdg : decode cc pc = .ok (.dup, 1)) (hva : va.category = 1) (kk : JR E nL Q lv (pc + 1) (va :: va :: st) ws kc ks) : JR E nL Q lv pc (va :: st) ws kc ks := Rstep (fun H locs ls hl k => lv_dup (rxx X) (rxb X) hdg hva (k ls hl)) kk
theorem R_dup_x1 {va vb : Value} (X : XR E nL cc own ret F L MC MS cI) (hdg : decode cc pc = .ok (.dup_x1, 1)) (hva : va.category = 1) (hvb : vb.category = 1) (kk : JR E nL Q lv (pc + 1) (va :: vb :: va :: st) ws kc ks) : JR E nL Q lv pc (va :: vb :: st) ws kc ks := Rstep (fun H locs ls hl k => lv_dup_x1 (rxx X) (rxb X) hdg hva hvb (k ls hl)) kk
theorem R_pop {va : Value} (X : XR E nL cc own ret F L MC MS cI) (hdg : decode cc pc = .ok (.pop, 1)) (hva : va.category = 1) (kk : JR E nL Q lv (pc + 1) (st) ws kc ks) : JR E nL Q lv pc (va :: st) ws kc ks := Rstep (fun H locs ls hl k => lv_pop (rxx X) (rxb X) hdg hva (k ls hl)) kk
theorem R_iadd {x y : Int32} (X : XR E nL cc own ret F L MC MS cI) (hdg : decode cc pc = .ok (.iadd, 1))  (kk : JR E nL Q lv (pc + 1) (.int (x + y) :: st) ws kc ks) : JR E nL Q lv pc (.int y :: .int x :: st) ws kc ks := Rstep (fun H locs ls hl k => lv_iadd (rxx X) (rxb X) hdg  (k ls hl)) kk
theorem R_isub {x y : Int32} (X : XR E nL cc own ret F L MC MS cI) (hdg : decode cc pc = .ok (.isub, 1))  (kk : JR E nL Q lv (pc + 1) (.int (x - y) :: st) ws kc ks) : JR E nL Q lv pc (.int y :: .int x :: st) ws kc ks := Rstep (fun H locs ls hl k => lv_isub (rxx X) (rxb X) hdg  (k ls hl)) kk
theorem R_iand {x y : Int32} (X : XR E nL cc own ret F L MC MS cI) (hdg : decode cc pc = .ok (.iand, 1))  (kk : JR E nL Q lv (pc + 1) (.int (x &&& y) :: st) ws kc ks) : JR E nL Q lv pc (.int y :: .int x :: st) ws kc ks := Rstep (fun H locs ls hl k => lv_iand (rxx X) (rxb X) hdg  (k ls hl)) kk
theorem R_iload_n {k : Fin 4} {i : Nat} {x : Int32} (X : XR E nL cc own ret F L MC MS cI) (q : Nat) (hdg : decode cc pc = .ok (.iload_n k, 1)) (hi : (k : Nat) = i) (hq : lv[q]? = some (i, .int x)) (kk : JR E nL Q lv (pc + 1) (.int x :: st) ws kc ks) : JR E nL Q lv pc st ws kc ks := Rstep (fun H locs ls hl k => lv_iload_n (rxx X) (rxb X) hdg hi (lv_at hl q hq) (k ls hl)) kk
theorem R_iload {i : Nat} {x : Int32} (X : XR E nL cc own ret F L MC MS cI) (q : Nat) (hdg : decode cc pc = .ok (.iload i, 2)) (hq : lv[q]? = some (i, .int x)) (kk : JR E nL Q lv (pc + 2) (.int x :: st) ws kc ks) : JR E nL Q lv pc st ws kc ks := Rstep (fun H locs ls hl k => lv_iload (rxx X) (rxb X) hdg (lv_at hl q hq) (k ls hl)) kk
theorem R_istore_n {k : Fin 4} {i : Nat} {x : Int32} (lv' : List (Nat × Value)) (X : XR E nL cc own ret F L MC MS cI) (hdg : decode cc pc = .ok (.istore_n k, 1)) (hi : (k : Nat) = i) (hn : i < nL) (hl' : (i, Value.int x) :: lv.filter (fun q => !(q.1 == i) && !(q.1 + 1 == i && q.2.category == 2)) = lv') (kk : JR E nL Q lv' (pc + 1) st ws kc ks) : JR E nL Q lv pc (.int x :: st) ws kc ks := Rstep (fun H locs ls hl k => lv_istore_n (rxx X) (rxb X) hdg hi hl hn hl' (fun ls' h' => k ls' h')) kk
theorem R_istore {i : Nat} {x : Int32} (lv' : List (Nat × Value)) (X : XR E nL cc own ret F L MC MS cI) (hdg : decode cc pc = .ok (.istore i, 2)) (hn : i < nL) (hl' : (i, Value.int x) :: lv.filter (fun q => !(q.1 == i) && !(q.1 + 1 == i && q.2.category == 2)) = lv') (kk : JR E nL Q lv' (pc + 2) st ws kc ks) : JR E nL Q lv pc (.int x :: st) ws kc ks := Rstep (fun H locs ls hl k => lv_istore (rxx X) (rxb X) hdg hl hn hl' (fun ls' h' => k ls' h')) kk
theorem R_aload_n {k : Fin 4} {i : Nat} {x : Nat} (X : XR E nL cc own ret F L MC MS cI) (q : Nat) (hdg : decode cc pc = .ok (.aload_n k, 1)) (hi : (k : Nat) = i) (hq : lv[q]? = some (i, .ref x)) (kk : JR E nL Q lv (pc + 1) (.ref x :: st) ws kc ks) : JR E nL Q lv pc st ws kc ks := Rstep (fun H locs ls hl k => lv_aload_n (rxx X) (rxb X) hdg hi (lv_at hl q hq) (k ls hl)) kk
theorem R_aload {i : Nat} {x : Nat} (X : XR E nL cc own ret F L MC MS cI) (q : Nat) (hdg : decode cc pc = .ok (.aload i, 2)) (hq : lv[q]? = some (i, .ref x)) (kk : JR E nL Q lv (pc + 2) (.ref x :: st) ws kc ks) : JR E nL Q lv pc st ws kc ks := Rstep (fun H locs ls hl k => lv_aload (rxx X) (rxb X) hdg (lv_at hl q hq) (k ls hl)) kk
theorem R_astore_n {k : Fin 4} {i : Nat} {x : Nat} (lv' : List (Nat × Value)) (X : XR E nL cc own ret F L MC MS cI) (hdg : decode cc pc = .ok (.astore_n k, 1)) (hi : (k : Nat) = i) (hn : i < nL) (hl' : (i, Value.ref x) :: lv.filter (fun q => !(q.1 == i) && !(q.1 + 1 == i && q.2.category == 2)) = lv') (kk : JR E nL Q lv' (pc + 1) st ws kc ks) : JR E nL Q lv pc (.ref x :: st) ws kc ks := Rstep (fun H locs ls hl k => lv_astore_n (rxx X) (rxb X) hdg hi hl hn hl' (fun ls' h' => k ls' h')) kk
theorem R_astore {i : Nat} {x : Nat} (lv' : List (Nat × Value)) (X : XR E nL cc own ret F L MC MS cI) (hdg : decode cc pc = .ok (.astore i, 2)) (hn : i < nL) (hl' : (i, Value.ref x) :: lv.filter (fun q => !(q.1 == i) && !(q.1 + 1 == i && q.2.category == 2)) = lv') (kk : JR E nL Q lv' (pc + 2) st ws kc ks) : JR E nL Q lv pc (.ref x :: st) ws kc ks := Rstep (fun H locs ls hl k => lv_astore (rxx X) (rxb X) hdg hl hn hl' (fun ls' h' => k ls' h')) kk
theorem R_iinc {i : Nat} {n : Int} {x v : Int32} (lv' : List (Nat × Value)) (X : XR E nL cc own ret F L MC MS cI) (q : Nat) (hdg : decode cc pc = .ok (.iinc i n, 3)) (hq : lv[q]? = some (i, .int x)) (hv : x + Int32.ofInt n = v) (hn : i < nL) (hl' : (i, Value.int v) :: lv.filter (fun q => !(q.1 == i) && !(q.1 + 1 == i && q.2.category == 2)) = lv') (kk : JR E nL Q lv' (pc + 3) st ws kc ks) : JR E nL Q lv pc st ws kc ks := Rstep (fun H locs ls hl k => lv_iinc (rxx X) (rxb X) hdg hl hq hv hn hl' (fun ls' h' => k ls' h')) kk
theorem R_goto {off : Int} {tgt : Nat} (X : XR E nL cc own ret F L MC MS cI) (hdg : decode cc pc = .ok (.goto off, 3)) (ht : (pc : Int) + off = (tgt : Int)) (kk : JR E nL Q lv tgt st ws kc ks) : JR E nL Q lv pc st ws kc ks := Rstep (fun H locs ls hl k => lv_goto (rxx X) (rxb X) hdg ht (k ls hl)) kk
theorem R_icmp_ge {x y : Int32} {off : Int} {tgt : Nat} (X : XR E nL cc own ret F L MC MS cI) (hdg : decode cc pc = .ok (.if_icmp .ge off, 3)) (ht : (pc : Int) + off = (tgt : Int)) (kt : y ≤ x → JR E nL Q lv tgt st ws kc ks) (kf : ¬ y ≤ x → JR E nL Q lv (pc + 3) st ws kc ks) : JR E nL Q lv pc (.int y :: .int x :: st) ws kc ks :=
  fun H locs ls hP hD hS hl => lv_icmp_ge (rxx X) (rxb X) hdg ht (fun q => kt q H locs ls hP hD hS hl) (fun q => kf q H locs ls hP hD hS hl)
theorem R_objI {a index : Nat} (X : XR E nL cc own ret F L MC MS cI) (hlink : Cond.methodLink own index Lib.objectInit ∈ lw_ok) (hinst : Cond.instanceMethod Lib.objectInit ∈ lw_ok) (hcode : Cond.code Lib.objectInit ⟨#[0xb1]⟩ 1 none ∈ lw_ok) (hF : 1 ≤ F) (hL : (st.map fun v => v.category).sum + 12 ≤ L) (hdg : decode cc pc = .ok (.invokespecial index, 3)) (kk : JR E nL Q lv (pc + 3) st ws kc ks) : JR E nL Q lv pc (.ref a :: st) ws kc ks := by
  intro H locs ls hP hD hS hl
  have hR := XR_R X
  exact W.objInit (g := F0 (jM E) pc ls (.ref a :: st)) (rxx X) (rxb X) (rxo X) (rxt X _ hlink) (rxt X _ hinst) (rxt X _ hcode) rfl (hl.1.trans X.1.1.2.2.1.symm) rfl hdg (by rw [hR]; exact hF) (by rw [hR]; show 2 * 0 + _ + 12 ≤ L; omega) (kk H locs ls hP hD hS hl)
theorem R_ci {tys : List (ClassId × FieldType)} {s : State} {D : va_G} {cA cI : ClassId} (hK : va_K D vwCl tys s) (h0 : tys[0]? = some (cI, .int)) (hK1 : va_K D vwCl (tys ++ [(cA, .int)]) s) : cA = cI := by
  have h1 : s.vm.findClass ("[" ++ FieldType.int.toString) = some cI := (hK.2 0 _ h0).2
  have h2 : s.vm.findClass ("[" ++ FieldType.int.toString) = some cA := (hK1.2 tys.length (cA, .int) (by rw [List.getElem?_append_right (Nat.le_refl _), Nat.sub_self]; rfl)).2
  exact Option.some.inj (h2.symm.trans h1)
theorem R_newi {n : Int32} (N : Nat) (X : XR E nL cc own ret F L MC MS cI) (hac : Cond.arrayClass .int ∈ lw_ok) (hn : ¬ n < 0) (hN : n.toNatClampNeg = N) (hb4 : N * componentBytes .int ≤ 536870912) (hc : kc + 1 ≤ MC) (hs : ks + N ≤ MS) (hdg : decode cc pc = .ok (.newarray .int, 2)) (kk : ∀ q : Nat, JR E nL Q lv (pc + 2) (.ref q :: st) (ws ++ [(q, .inl (cI, N, .inl (fun _ => 0)))]) (kc + 1) (ks + N)) : JR E nL Q lv pc (.int n :: st) ws kc ks := by
  intro H locs ls hP hD hS hl
  have hR := XR_R X
  refine va_newa (atype := .int) (ty := .int) (N' := N) (a0 := (N, .inl (fun _ => 0))) (rxx X) (rxb X) (rxt X _ hac) rfl X.1.2.1 hP hD hS X.1.2.2.1 (fun cA => vp_cell_i cA _ _) hn hN hb4 (by rw [hR]; exact hc) (by rw [hR]; exact hs) hdg (fun q cA H1 hK1 hP1 hD1 hS1 => ?_)
  have e : cA = cI := R_ci X.1.2.1 X.2.2 hK1
  subst e
  exact kk q H1 locs ls hP1 hD1 hS1 hl
theorem R_newq {n : Int32} {C : String} {index j : Nat} {cA : ClassId} (N : Nat) (X : XR E nL cc own ret F L MC MS cI) (hcl : Cond.classLink own index C ∈ lw_ok) (hover : va_AO C (jS E)) (hj : (jV E).2.1[j]? = some (cA, .object C)) (hn : ¬ n < 0) (hN : n.toNatClampNeg = N) (hb4 : N * 4 ≤ 536870912) (hc : kc + 1 ≤ MC) (hs : ks + N ≤ MS) (hdg : decode cc pc = .ok (.anewarray index, 3)) (kk : ∀ q : Nat, JR E nL Q lv (pc + 3) (.ref q :: st) (ws ++ [(q, .inl (cA, N, .inr (.inr (.inr (.inr (fun _ => none))))))]) (kc + 1) (ks + N)) : JR E nL Q lv pc (.int n :: st) ws kc ks := by
  intro H locs ls hP hD hS hl
  have hR := XR_R X
  refine va_newq (C := C) (N' := N) (rxx X) (rxb X) (rxo X) (rxt X _ hcl) hover X.1.2.1 hP hD hS X.1.2.2.1 hn hN hb4 (by rw [hR]; exact hc) (by rw [hR]; exact hs) hdg (fun q c1 H1 hK1 hP1 hD1 hS1 => ?_)
  have h1 : va_RA (jS E) cA (.object C) := (X.1.2.1.2 j _ hj).2
  have h2 : va_RA (jS E) c1 (.object C) := (hK1.2 (jV E).2.1.length (c1, .object C) (by rw [List.getElem?_append_right (Nat.le_refl _), Nat.sub_self]; rfl)).2
  obtain ⟨_, _, -, -, -, e1⟩ := h1
  obtain ⟨_, _, -, -, -, e2⟩ := h2
  have e : c1 = cA := Option.some.inj (e2.symm.trans e1)
  subst e
  exact kk q H1 locs ls hP1 hD1 hS1 hl
theorem R_new {C : String} {T : u_T} {N ci index : Nat} (fs : List Value) (X : XR E nL cc own ret F L MC MS cI) (hin : ∀ w ∈ u_ws C T N, w ∈ lw_ok) (ty : Nat → FieldType) (hty : ∀ k, k < N → parseFieldDescriptor (T k).2.2.1 = some (ty k)) (hcl : Cond.classLink own index C ∈ lw_ok) (hinst : Cond.instantiable C N ∈ lw_ok) (hini : Cond.initialized C ∈ lw_ok) (hc : vwCl[ci]? = some (C, T, N)) (hfs : ∀ j, j < N → defaultValue (ty j) = vp_V fs j) (hcc : kc + 1 ≤ MC) (hcs : ks + N ≤ MS) (hdg : decode cc pc = .ok (.new index, 3)) (kk : ∀ q : Nat, JR E nL Q lv (pc + 3) (.ref q :: st) (ws ++ [(q, .inr (ci, fs))]) (kc + 1) (ks + N)) : JR E nL Q lv pc st ws kc ks := by
  intro H locs ls hP hD hS hl
  have hR := XR_R X
  exact va_new (rxx X) (rxb X) (rxt X) hin ty hty (rxo X) (rxt X _ hcl) (rxt X _ hinst) (rxt X _ hini) X.1.2.1 hP hD hS X.1.2.2.1 hc hfs (by rw [hR]; exact hcc) (by rw [hR]; exact hcs) hdg (fun q H1 hP1 hD1 hS1 => kk q H1 locs ls hP1 hD1 hS1 hl)
theorem R_put (k q : Nat) {ci N a index : Nat} {C ref : String} {T : u_T} {fs : List Value} {ty : FieldType} {v : Value} (X : XR E nL cc own ret F L MC MS cI) (hin : ∀ w ∈ u_ws C T N, w ∈ lw_ok) (ty0 : Nat → FieldType) (hty : ∀ k, k < N → parseFieldDescriptor (T k).2.2.1 = some (ty0 k)) (hnm : ∀ a, a < N → ∀ b, b < N → a ≠ b → (T a).2.1 ≠ (T b).2.1) (ha : ws[q]? = some (a, .inr (ci, fs))) (hc : vwCl[ci]? = some (C, T, N)) (hk : k < N) (href : ref = (T k).1) (hlink : Cond.fieldLink own index ref (T k).2.1 (T k).2.2.1 ∈ lw_ok) (hfin : (T k).2.2.2 = false) (hn : narrow ty v = v) (hd : parseFieldDescriptor (T k).2.2.1 = some ty) (hfit : fits ty v = true) (hl0 : k < fs.length) (hdg : decode cc pc = .ok (.putfield index, 3)) (kk : JR E nL Q lv (pc + 3) st (ws.set q (a, .inr (ci, fs.set k v))) kc ks) : JR E nL Q lv pc (v :: .ref a :: st) ws kc ks := by
  intro H locs ls hP hD hS hl
  subst href
  exact va_put (rxx X) (rxb X) (rxt X) hin ty0 hty hnm (rxo X) X.1.2.1 hP hD hS q ha hc k hk (rxt X _ hlink) (fun _ h9 => h9) hfin hd hn hfit hl0 hdg (fun H1 locs1 hP1 hD1 hS1 => kk H1 locs1 ls hP1 hD1 hS1 hl)
theorem R_putF (k q : Nat) {ci N a index : Nat} {C ref : String} {T : u_T} {fs : List Value} {ty : FieldType} {v : Value} (X : XR E nL cc own ret F L MC MS cI) (hnm2 : (jT E).name = "<init>") (hin : ∀ w ∈ u_ws C T N, w ∈ lw_ok) (ty0 : Nat → FieldType) (hty : ∀ k, k < N → parseFieldDescriptor (T k).2.2.1 = some (ty0 k)) (hnm : ∀ a, a < N → ∀ b, b < N → a ≠ b → (T a).2.1 ≠ (T b).2.1) (ha : ws[q]? = some (a, .inr (ci, fs))) (hc : vwCl[ci]? = some (C, T, N)) (hk : k < N) (href : ref = (T k).1) (hlink : Cond.fieldLink own index ref (T k).2.1 (T k).2.2.1 ∈ lw_ok) (hfin : (T k).2.2.2 = true) (hdecl : (T k).1 = own) (hn : narrow ty v = v) (hd : parseFieldDescriptor (T k).2.2.1 = some ty) (hfit : fits ty v = true) (hl0 : k < fs.length) (hdg : decode cc pc = .ok (.putfield index, 3)) (kk : JR E nL Q lv (pc + 3) st (ws.set q (a, .inr (ci, fs.set k v))) kc ks) : JR E nL Q lv pc (v :: .ref a :: st) ws kc ks := by
  intro H locs ls hP hD hS hl
  subst href
  exact va_putF (rxx X) (rxb X) (rxt X) hin ty0 hty hnm (rxo X) X.1.2.1 hP hD hS q ha hc k hk (rxt X _ hlink) (fun _ h9 => h9) hfin hnm2 hdecl hd hn hfit hl0 hdg (fun H1 locs1 hP1 hD1 hS1 => kk H1 locs1 ls hP1 hD1 hS1 hl)
theorem R_get (k q : Nat) {ci N a index : Nat} {C ref : String} {T : u_T} {fs : List Value} {v : Value} (X : XR E nL cc own ret F L MC MS cI) (hin : ∀ w ∈ u_ws C T N, w ∈ lw_ok) (ha : ws[q]? = some (a, .inr (ci, fs))) (hc : vwCl[ci]? = some (C, T, N)) (hk : k < N) (href : ref = (T k).1) (hlink : Cond.fieldLink own index ref (T k).2.1 (T k).2.2.1 ∈ lw_ok) (hv : fs[k]? = some v) (hdg : decode cc pc = .ok (.getfield index, 3)) (kk : JR E nL Q lv (pc + 3) (v :: st) ws kc ks) : JR E nL Q lv pc (.ref a :: st) ws kc ks := by
  intro H locs ls hP hD hS hl
  subst href
  exact va_get (rxx X) (rxb X) (rxt X) hin (rxo X) X.1.2.1 hP q ha hc k hk (rxt X _ hlink) (fun _ h9 => h9) hv hdg (kk H locs ls hP hD hS hl)
theorem R_iast (q : Nat) {a n : Nat} {f : Nat → Int32} {i x : Int32} (X : XR E nL cc own ret F L MC MS cI) (ha : ws[q]? = some (a, .inl (cI, n, .inl f))) (hi : vp_in i n) (hdg : decode cc pc = .ok (.iastore, 1)) (kk : JR E nL Q lv (pc + 1) st (ws.set q (a, .inl (cI, n, .inl (upd f i.toNatClampNeg x)))) kc ks) : JR E nL Q lv pc (.int x :: .int i :: .ref a :: st) ws kc ks :=
  fun H locs ls hP hD hS hl => va_iast (rxx X) (rxb X) X.1.2.1 hP hD hS q 0 ha X.2.2 hi hdg (fun H1 locs1 hP1 hD1 hS1 => kk H1 locs1 ls hP1 hD1 hS1 hl)
theorem R_iald (q : Nat) {a n : Nat} {f : Nat → Int32} {i : Int32} (X : XR E nL cc own ret F L MC MS cI) (ha : ws[q]? = some (a, .inl (cI, n, .inl f))) (hi : vp_in i n) (hdg : decode cc pc = .ok (.iaload, 1)) (kk : JR E nL Q lv (pc + 1) (.int (f i.toNatClampNeg) :: st) ws kc ks) : JR E nL Q lv pc (.int i :: .ref a :: st) ws kc ks :=
  fun H locs ls hP hD hS hl => va_iald (rxx X) (rxb X) X.1.2.1 hP q 0 ha X.2.2 hi hdg (kk H locs ls hP hD hS hl)
theorem R_alen (q : Nat) {a n : Nat} {f : Nat → Int32} {v : Int32} (X : XR E nL cc own ret F L MC MS cI) (ha : ws[q]? = some (a, .inl (cI, n, .inl f))) (hv : Int32.ofNat n = v) (hdg : decode cc pc = .ok (.arraylength, 1)) (kk : JR E nL Q lv (pc + 1) (.int v :: st) ws kc ks) : JR E nL Q lv pc (.ref a :: st) ws kc ks :=
  fun H locs ls hP hD hS hl => va_alen (rxx X) (rxb X) X.1.2.1 hP q 0 ha X.2.2 hv hdg (kk H locs ls hP hD hS hl)
/-- the last cell of the world, a row of ints that is being filled -/
theorem R_fill {pre : va_W} {a n : Nat} {f : Nat → Int32} {i x : Int32} (X : XR E nL cc own ret F L MC MS cI) (hi : vp_in i n) (hdg : decode cc pc = .ok (.iastore, 1)) (kk : JR E nL Q lv (pc + 1) st (pre ++ [(a, .inl (cI, n, .inl (upd f i.toNatClampNeg x)))]) kc ks) : JR E nL Q lv pc (.int x :: .int i :: .ref a :: st) (pre ++ [(a, .inl (cI, n, .inl f))]) kc ks := by
  refine R_iast pre.length X (n := n) (f := f) (by rw [List.getElem?_append_right (Nat.le_refl _), Nat.sub_self]; rfl) hi hdg ?_
  rw [List.set_append_right _ _ (Nat.le_refl _), Nat.sub_self]
  exact kk
theorem R_aast (q qk ci : Nat) {j a n v : Nat} {cA : ClassId} {rr : vw_C} {vs : List Value} {f : Nat → Option Nat} {i : Int32} (X : XR E nL cc own ret F L MC MS cI) (ha : ws[q]? = some (a, .inl (cA, n, .inr (.inr (.inr (.inr f)))))) (hj : (jV E).2.1[j]? = some (cA, .object rr.1)) (hv : ws[qk]? = some (v, .inr (ci, vs))) (hc : vwCl[ci]? = some rr) (hi : vp_in i n) (hdg : decode cc pc = .ok (.aastore, 1)) (kk : JR E nL Q lv (pc + 1) st (ws.set q (a, .inl (cA, n, .inr (.inr (.inr (.inr (va_up f i.toNatClampNeg (some v)))))))) kc ks) : JR E nL Q lv pc (.ref v :: .int i :: .ref a :: st) ws kc ks :=
  fun H locs ls hP hD hS hl => va_astq (rxx X) (rxb X) X.1.2.1 hP hD hS q j qk ci ha hj hv hc hi hdg (fun H1 locs1 hP1 hD1 hS1 => kk H1 locs1 ls hP1 hD1 hS1 hl)
end RRows
/-! CONTRACTS of raw walks -/
def RPre (V : JV) (wc : va_W) (As : List Value) (sz : Nat) : Array Value → State → Prop := va_Pc As (fun U => U.heap.size = sz ∧ va_P V.1 vwCl wc U.heap ∧ va_K V.1 vwCl V.2.1 U ∧ va_D (fun _ => True) wc ∧ V.2.2.2 (va_A wc sz) U)
def RPost {S : Type} (V : JV) (A : Nat → Prop) (val : S → Option Value) (post : S → Prop) (w1 : S → va_W) : Array Value → State → Outcome → State → Prop := fun _ st o t => (∃ x : S, o = .returned (val x) ∧ post x ∧ va_P V.1 vwCl (w1 x) t.heap ∧ va_K V.1 vwCl V.2.1 t ∧ va_D A (w1 x)) ∧ va_F A st t
def RMet {S : Type} (V : JV) (l : Launch) (y : MethodName) (cc : ByteArray) (nL : Nat) (ret : Option FieldType) (F L MC MS : Nat) (As : List Value) (wc : va_W) (val : S → Option Value) (post : S → Prop) (w1 : S → va_W) : Prop :=
  ∀ sz : Nat, Met l y (Cond.code y cc nL ret :: lw_ok) { frames := F, cells := MC, slots := MS, locals := L } (RPre V wc As sz) (RPost V (va_A wc sz) val post w1) MC MS (va_A wc sz)
theorem R_of {S : Type} {V : JV} {l : Launch} {y : MethodName} {cc : ByteArray} {nL : Nat} {ret : Option FieldType} {F L MC MS : Nat} {cI : ClassId} {As : List Value} {wc : va_W} {val : S → Option Value} {post : S → Prop} {w1 : S → va_W} (hV : VOK V) (hI : V.2.1[0]? = some (cI, .int)) (hy : plainName y.cls = true) (hn : (lg_sl As).length ≤ nL)
    (body : ∀ E : JE, jL E = l → jV E = V → XR E nL cc y.cls ret F L MC MS cI → (jT E).name = y.name → JR E nL (MQ (jB E) (RPost V (jA E) val post w1) (jG E) (jS E) MC MS (jA E)) (lv_args 0 As) 0 [] wc 0 0) : RMet V l y cc nL ret F L MC MS As wc val post w1 := by
  intro sz
  refine Met.ofW (cc := cc) (maxL := nL) (ret := ret) hy rfl ?_
  intro p e s m args below meth c s₁ B hml hv
  obtain ⟨rfl, hsz, hP, hK, hD0, hZ⟩ := hv
  have hts := atoms_spec (ws := Cond.code y cc nL ret :: lw_ok) B.pre
  have hin : meth.name = y.name := (name_of_methodNamed B.named B.method).1
  subst hsz
  rw [lg_entry_eq]
  exact body ((p, l, e, { frames := F, cells := MC, slots := MS, locals := L }, s, m), (As.toArray, below, meth, c), va_A wc s.heap.size, V, (0, 0, MC, MS)) rfl rfl ⟨⟨⟨B.exec, B.bytes, hml, findClass_of_methodNamed B.named, fun w hw => hts w (List.mem_cons_of_mem _ hw)⟩, hK, fun q h => Or.inr h, B.returns, B.notSynchronized, rfl, ⟨Nat.zero_le _, Nat.zero_le _⟩, hV, hZ⟩, rfl, hI⟩ hin s.heap [] _ hP hD0.self va_S.rf (lv_entry As hn)
section REnds
variable {E : JE} {nL F L MC MS : Nat} {cI : ClassId} {cc : ByteArray} {own : String} {lv : List (Nat × Value)} {pc : Nat} {ws : va_W} {S : Type} {val : S → Option Value} {post : S → Prop} {w1 : S → va_W} {V : JV}
theorem R_vret (x : S) (hval : val x = none) (hp : post x) (hw : ws = w1 x) (hV : jV E = V) (X : XR E nL cc own none F L MC MS cI) (hdg : decode cc pc = .ok (.return_, 1)) : JR E nL (MQ (jB E) (RPost V (jA E) val post w1) (jG E) (jS E) MC MS (jA E)) lv pc [] ws MC MS := by
  subst hV
  intro H locs ls hP hD hS hl
  subst hw
  exact W.vret (rxx X) (rxb X) X.1.2.2.2.1 (fun t ht hW => ⟨⟨x, by rw [hval], hp, by rw [ht]; exact hP, va_K.moved hW.alike X.1.2.1, hD⟩, hS.F ht⟩) hS.2.2 hdg X.1.2.2.2.2.1
end REnds
section RCalls
variable {E : JE} {nL F L MC MS : Nat} {cI : ClassId} {cc : ByteArray} {own : String} {ret : Option FieldType} {Q : State → Prop} {lv : List (Nat × Value)} {pc : Nat} {st : List Value} {ws : va_W} {kc ks : Nat}
/-- behind a call of a raw contract, by places -/
theorem R_call {S : Type} {val : S → Option Value} {post : S → Prop} {w1 : S → va_W} {wc wr : va_W} {mk : Array Value} {st0 : List Value} {MC1 MS1 : Nat} (isC isR : List Nat) (X : XR E nL cc own ret F L MC MS cI) (hC : isC.map (fun i => ws[i]?) = wc.map some) (hR : isR.map (fun i => ws[i]?) = wr.map some) (hcn : va_nd isC = true) (hnd : va_nd isR = true) (hdis : ∀ i ∈ isR, i ∉ isC)
    (hrun : ∀ (H : Heap) (locs : List Loc) (ls : Array Slot), va_P (jV E).1 vwCl ws H → va_D (jA E) ws → va_S (jA E) (jS E).heap H locs → lv_has ls nL lv → va_P (jV E).1 vwCl wc H → va_D (jA E) wc → va_Run E.1.1 E.1.2.1 E.1.2.2.1 (jR E) (jS E) (jM E) (jG E) (jB E) (jT E) (jC E) H locs kc ks MC1 MS1 (F0 (jM E) pc ls st0) st (RPost (jV E) (va_A wc H.size) val post w1 mk) (va_A wc H.size))
    (kk : ∀ x : S, post x → JR E nL Q lv (pc + 3) ((val x).toList ++ st) (wr ++ w1 x) (kc + MC1) (ks + MS1)) : JR E nL Q lv pc st0 ws kc ks := by
  intro H locs ls hP hD hS hl
  have hPc : va_P (jV E).1 vwCl wc H := by
    intro k q hk
    have h1 : (isC.map (fun i => ws[i]?))[k]? = some (some q) := by rw [hC, List.getElem?_map, hk]; rfl
    rw [List.getElem?_map] at h1
    cases hi : isC[k]? with
    | none => rw [hi] at h1; cases h1
    | some i => rw [hi] at h1; exact hP i q (Option.some.inj h1)
  have hF := va_free hD hS X.1.2.2.1 isC hC
  have hDw : va_D (jA E) wc := hD.sub isC hcn hC
  intro T hT XX
  obtain ⟨v, st₀, t, T', Lc, h0, X', hL, e1, e2, ⟨⟨x, hv, hp, hP1, hK1, hD1⟩, hz, hk⟩, stp⟩ := hrun H locs ls hP hD hS hl hPc hDw T hT XX
  rw [h0] at hz hk
  have hv : v = val x := by injection hv
  subst hv
  obtain ⟨hPj, hDj⟩ := va_join (wr := wr) (w1 := w1 x) hP hD isC isR hC hR hnd hdis hk hF hP1 hD1
  have hS1 : va_S (jA E) (jS E).heap T'.heap (locs ++ Lc) := ⟨Nat.le_trans hS.1 (by rw [e1]; exact hz), fun q h1 h2 => by rw [e1, hk q (Nat.lt_of_lt_of_le h1 hS.1) (fun z => h2 (hF q z))]; exact hS.2.1 q h1 h2, fun q hq => by
      rcases List.mem_append.mp hq with h | h
      · exact hS.2.2 q h
      · exact hF _ (hL q h)⟩
  obtain ⟨t2, a1, b1⟩ := kk x hp T'.heap (locs ++ Lc) ls (by rw [e1]; exact hPj) hDj hS1 hl T' rfl X'
  exact ⟨t2, stp t2 a1, b1⟩
theorem R_pre (X : XR E nL cc own ret F L MC MS cI) {wc : va_W} {H : Heap} {locs : List Loc} (hP : va_P (jV E).1 vwCl wc H) (hD : va_D (jA E) wc) (hS : va_S (jA E) (jS E).heap H locs) (As : List Value) : PreS (jS E) H (RPre (jV E) wc As H.size) As :=
  ⟨fun a U g mk q => ⟨q.1, q.2.1, q.2.2.1, va_K.moved (u := U) (U := U.calling g mk a) (Vm.Alike.refl U.vm) q.2.2.2.1, q.2.2.2.2.1, X.1.2.2.2.2.2.2.2.1.2 _ U g mk a q.2.2.2.2.2⟩,
   fun U hU hW => ⟨rfl, by rw [hU], by rw [hU]; exact hP, va_K.moved hW.alike X.1.2.1, hD.weaken (fun _ _ _ _ => trivial), X.1.2.2.2.2.2.2.2.1.1 _ _ _ U locs X.1.2.2.2.2.2.2.2.2 (jA_in hD hS X.1.2.2.1) (by rw [hU]; exact hS) hW⟩⟩
theorem R_cb (X : XR E nL cc own ret F L MC MS cI) {y : MethodName} {bytes : ByteArray} {maxL n index : Nat} {ret1 : Option FieldType} {F1 L1 MC1 MS1 : Nat} (hw : WI y bytes maxL ret1 n) (hlink : Cond.methodLink own index y ∈ lw_ok) (hR : F1 + 1 ≤ F ∧ 8 + (maxL + 11) + L1 ≤ L) : CallB (jR E) (jS E) (jG E) own index y bytes maxL ret1 (Cond.code y bytes maxL ret1 :: lw_ok) { frames := F1, cells := MC1, slots := MS1, locals := L1 } MC1 MS1 n := by
  have hR' := XR_R X
  exact callB_of n (rxt X) (lw_okG hw.1) rfl rfl rfl (rxt X _ hw.2.1) (rxt X _ hlink) hw.2.2 (by rw [hR']; exact hR)
theorem R_cI {S : Type} {post : S → Prop} {w1 : S → va_W} {As : List Value} {b n index maxL F1 L1 MC1 MS1 : Nat} {y : MethodName} {bytes : ByteArray} {wc wr : va_W} {st0 : List Value} (isC isR : List Nat) (X : XR E nL cc own ret F L MC MS cI) (hM : RMet (jV E) (jL E) y bytes maxL none F1 L1 MC1 MS1 (.ref b :: As) wc (fun _ : S => none) post w1) (hC : isC.map (fun i => ws[i]?) = wc.map some) (hR : isR.map (fun i => ws[i]?) = wr.map some) (hcn : va_nd isC = true) (hnd : va_nd isR = true) (hdis : ∀ i ∈ isR, i ∉ isC) (hst0 : st0 = As.reverse ++ .ref b :: st) (hw : WI y bytes maxL none n) (hy : y.name = "<init>") (hi : Cond.instanceMethod y ∈ lw_ok) (hlink : Cond.methodLink own index y ∈ lw_ok) (hRm : F1 + 1 ≤ F ∧ 8 + (maxL + 11) + L1 ≤ L) (hfit : kc + MC1 ≤ MC ∧ ks + MS1 ≤ MS) (hn : As.length = n) (hsum : (st.map fun v => v.category).sum ≤ 8) (hdg : decode cc pc = .ok (.invokespecial index, 3))
    (kk : ∀ x : S, post x → JR E nL Q lv (pc + 3) st (wr ++ w1 x) (kc + MC1) (ks + MS1)) : JR E nL Q lv pc st0 ws kc ks := by
  have hR' := XR_R X
  exact R_call (mk := (Value.ref b :: As).toArray) isC isR X hC hR hcn hnd hdis (fun H locs ls hP hD hS hl hPc hDc => va_runI (As := As) (rest := st) X.1.1 (hM H.size) ⟨R_cb X hw hlink hRm, hy, rxt X _ hi⟩ (R_pre X hPc hDc hS (.ref b :: As)) rfl hn hl.1 hst0 (lv_room (pc := pc) (ls := ls) (rest := st0) (m := jM E) hsum) hdg (by rw [hR']; exact hfit)) kk
theorem R_cIN {S : Type} {post : S → Prop} {w1 : S → va_W} {As : List Value} {b n index maxL F1 L1 MC1 MS1 : Nat} {host : String} {y : MethodName} {bytes : ByteArray} {wc wr : va_W} {st0 : List Value} (isC isR : List Nat) (X : XR E nL cc own ret F L MC MS cI) (hM : RMet (jV E) (jL E) y bytes maxL none F1 L1 MC1 MS1 (.ref b :: As) wc (fun _ : S => none) post w1) (hC : isC.map (fun i => ws[i]?) = wc.map some) (hR : isR.map (fun i => ws[i]?) = wr.map some) (hcn : va_nd isC = true) (hnd : va_nd isR = true) (hdis : ∀ i ∈ isR, i ∉ isC) (hst0 : st0 = As.reverse ++ .ref b :: st) (hw : WI y bytes maxL none n) (hy : y.name = "<init>") (hi : Cond.instanceMethod y ∈ lw_ok) (hlink : va_Nw (.methodLinkNest own index y host) (jS E)) (hRm : F1 + 1 ≤ F ∧ 8 + (maxL + 11) + L1 ≤ L) (hfit : kc + MC1 ≤ MC ∧ ks + MS1 ≤ MS) (hn : As.length = n) (hsum : (st.map fun v => v.category).sum ≤ 8) (hdg : decode cc pc = .ok (.invokespecial index, 3))
    (kk : ∀ x : S, post x → JR E nL Q lv (pc + 3) st (wr ++ w1 x) (kc + MC1) (ks + MS1)) : JR E nL Q lv pc st0 ws kc ks := by
  have hR' := XR_R X
  exact R_call (mk := (Value.ref b :: As).toArray) isC isR X hC hR hcn hnd hdis (fun H locs ls hP hD hS hl hPc hDc => va_runIN (As := As) (rest := st) X.1.1 (hM H.size) ⟨va_cnB n (rxt X) (lw_okG hw.1) rfl rfl rfl hlink (rxt X _ hw.2.1) hw.2.2 (by rw [hR']; exact hRm), hy, rxt X _ hi⟩ (R_pre X hPc hDc hS (.ref b :: As)) rfl hn hl.1 hst0 (lv_room (pc := pc) (ls := ls) (rest := st0) (m := jM E) hsum) hdg (by rw [hR']; exact hfit)) kk
end RCalls
/-- numbers as places -/
theorem vp_lit {i : Int32} {n : Nat} (h : decide (¬ (i < 0 ∨ n ≤ i.toNatClampNeg)) = true) : vp_in i n := by
  unfold vp_in
  exact of_decide_eq_true h
