/-! THE WORDS: one list for every method: the tables' words that survive a call -/
def lw_ok : List Cond := lw_tbl.filter goodWord
theorem lw_okm {w : Cond} (i : Nat) (h : lw_tbl[i]? = some w) (hg : goodWord w = true) : w ∈ lw_ok := List.mem_filter.mpr ⟨List.mem_of_getElem? h, hg⟩
theorem lw_okG {c : Cond} (hc : c ∈ lw_ok) : GoodIn lw_ok (c :: lw_ok) := by
  intro w hw
  have h1 : w ∈ lw_ok := by
    rcases List.mem_cons.mp hw with h | h
    · rw [h]; exact hc
    · exact h
  exact ⟨h1, good_of_word (List.mem_filter.mp h1).2⟩
theorem lw_ok_hts {args : Array Value} {s : State} (h : ∀ w ∈ lw_tbl, w.before args s = true) : ∀ w ∈ lw_ok, w.before args s = true := fun w hw => h w (List.mem_filter.mp hw).1
/-! THE STATE: numbers by object and field, rows by object and field -/
abbrev ST : Type := (Nat → Nat → Int32) × (Nat → Nat → Nat → Int32)
def gs (o k : Nat) (σ : ST) : Int32 := σ.1 o k
def ga (o k : Nat) (σ : ST) : Nat → Int32 := σ.2 o k
def ps (o k : Nat) (v : Int32) (σ : ST) : ST := (fun a b => if a = o ∧ b = k then v else σ.1 a b, σ.2)
def pa (o k : Nat) (f : Nat → Int32) (σ : ST) : ST := (σ.1, fun a b => if a = o ∧ b = k then f else σ.2 a b)
/-! RESIDUAL PROGRAMS: what is still to be done, as a function -/
def chk {α : Type} (i : Int32) (n : Nat) (r : Option α) : Option α := if i < 0 ∨ n ≤ i.toNatClampNeg then none else r
def ald {α : Type} (f : Nat → Int32) (n : Nat) (i : Int32) (K : Int32 → Option α) : Option α := if i < 0 ∨ n ≤ i.toNatClampNeg then none else K (f i.toNatClampNeg)
def ast {α : Type} (o k n : Nat) (i x : Int32) (σ : ST) (K : ST → Option α) : Option α := if i < 0 ∨ n ≤ i.toNatClampNeg then none else K (pa o k (upd (ga o k σ) i.toNatClampNeg x) σ)
def put {α : Type} (o k : Nat) (v : Int32) (σ : ST) (K : ST → Option α) : Option α := K (ps o k v σ)
def bnd {α β : Type} (r : Option (α × ST)) (K : α → ST → Option β) : Option β := match r with
  | none => none
  | some q => K q.1 q.2
def idv {α : Type} (y : Int32) (r : Option α) : Option α := if y = 0 then none else r
def ldv {α : Type} (y : Int64) (r : Option α) : Option α := if y = 0 then none else r
def retz (v : Int32) (σ : ST) : Option (Int32 × ST) := if v = 0 ∨ v = 1 then some (v, σ) else none
def mxI (x y : Int32) : Int32 := if x < y then y else x
def mnI (x y : Int32) : Int32 := if y < x then y else x
/-! WHAT A WALK STANDS IN -/
abbrev JV : Type := va_G × List (ClassId × FieldType) × (ST → va_W) × ((Nat → Prop) → State → Prop)
abbrev JE : Type := (Program × Launch × Env × Room × State × MethodId) × (Array Value × List Frame × Method × Code) × (Nat → Prop) × JV × (Nat × Nat × Nat × Nat)
abbrev jS (E : JE) : State := E.1.2.2.2.2.1
abbrev jM (E : JE) : MethodId := E.1.2.2.2.2.2
abbrev jR (E : JE) : Room := E.1.2.2.2.1
abbrev jL (E : JE) : Launch := E.1.2.1
abbrev jG (E : JE) : Array Value := E.2.1.1
abbrev jB (E : JE) : List Frame := E.2.1.2.1
abbrev jT (E : JE) : Method := E.2.1.2.2.1
abbrev jC (E : JE) : Code := E.2.1.2.2.2
abbrev jA (E : JE) : Nat → Prop := E.2.2.1
abbrev jV (E : JE) : JV := E.2.2.2.1
/-- how many cells and slots are new, how many may be at the end -/
abbrev jK (E : JE) : Nat × Nat × Nat × Nat := E.2.2.2.2
abbrev JW (E : JE) (H : Heap) (locs : List Loc) (Q : State → Prop) (pc : Nat) (ls : Array Slot) (st : List Value) : Prop := W E.1.1 E.1.2.1 E.1.2.2.1 (jR E) (jS E) (jM E) (jG E) (jB E) (jT E) (jC E) H locs (jK E).1 (jK E).2.1 Q (F0 (jM E) pc ls st)
def QJ {ρ : Type} (val : ρ → Option Value) (V : JV) (A : Nat → Prop) (x : ρ) (σ : ST) : Array Value → State → Outcome → State → Prop := fun _ st o t =>
  (o = .returned (val x) ∧ va_P V.1 vwCl (V.2.2.1 σ) t.heap ∧ va_K V.1 vwCl V.2.1 t ∧ va_D A (V.2.2.1 σ)) ∧ va_F A st t
def VOK (V : JV) : Prop := (∀ (A A1 : Nat → Prop) (s U : State) (locs : List Loc), V.2.2.2 A s → (∀ q, A1 q → A q) → va_S A s.heap U.heap locs → s.WarmedH U.vm → V.2.2.2 A1 U) ∧ ∀ (A : Nat → Prop) (U : State) (g : JFrame) (mk : MethodId) (a : Array Value), V.2.2.2 A U → V.2.2.2 A (U.calling g mk a)
def JF {ρ : Type} (E : JE) (val : ρ → Option Value) : ρ → ST → State → Prop := fun x σ' => MQ (jB E) (QJ val (jV E) (jA E) x σ') (jG E) (jS E) (jK E).2.2.1 (jK E).2.2.2 (jA E)
def Jg {ρ : Type} (E : JE) (nL : Nat) (Fi : ρ → ST → State → Prop) (lv : List (Nat × Value)) (pc : Nat) (st : List Value) (σ : ST) (r : Option (ρ × ST)) : Prop :=
  ∀ (x : ρ) (σ' : ST), r = some (x, σ') → ∀ (H : Heap) (locs : List Loc) (ls : Array Slot), va_P (jV E).1 vwCl ((jV E).2.2.1 σ) H → va_D (jA E) ((jV E).2.2.1 σ) → va_S (jA E) (jS E).heap H locs → lv_has ls nL lv →
    JW E H locs (Fi x σ') pc ls st
/-- the fixed facts of a walk -/
def JX (E : JE) (nL : Nat) (cc : ByteArray) (own : String) (ret : Option FieldType) (F L : Nat) : Prop :=
  CallFix E.1.1 (jM E) (jC E) cc nL (jS E) (jG E) lw_ok own ∧ va_K (jV E).1 vwCl (jV E).2.1 (jS E) ∧ (∀ q, (jS E).heap.size ≤ q → jA E q) ∧ (jT E).sig.returnType = ret ∧ (jT E).locks = false ∧ jR E = { frames := F, cells := (jK E).2.2.1, slots := (jK E).2.2.2, locals := L } ∧ ((jK E).1 ≤ (jK E).2.2.1 ∧ (jK E).2.1 ≤ (jK E).2.2.2) ∧ VOK (jV E) ∧ (jV E).2.2.2 (jA E) (jS E)
theorem jxx {E : JE} {nL F L : Nat} {cc : ByteArray} {own : String} {ret : Option FieldType} (X : JX E nL cc own ret F L) : E.1.1.tables.exec = Jvm.exec := X.1.1
theorem jxb {E : JE} {nL F L : Nat} {cc : ByteArray} {own : String} {ret : Option FieldType} (X : JX E nL cc own ret F L) : (jC E).code = cc := X.1.2.1
theorem jxo {E : JE} {nL F L : Nat} {cc : ByteArray} {own : String} {ret : Option FieldType} (X : JX E nL cc own ret F L) : (jS E).vm.findClass own = some (jM E).cls := X.1.2.2.2.1
theorem jxt {E : JE} {nL F L : Nat} {cc : ByteArray} {own : String} {ret : Option FieldType} (X : JX E nL cc own ret F L) : ∀ w ∈ lw_ok, w.before (jG E) (jS E) = true := X.1.2.2.2.2
def vI : Int32 → Option Value := fun v => some (.int v)
def vL : Int64 → Option Value := fun v => some (.long v)
def vV : Unit → Option Value := fun _ => none
section JRows
variable {E : JE} {nL F L : Nat} {cc : ByteArray} {own : String} {ret : Option FieldType} {ρ : Type} {Fi : ρ → ST → State → Prop} {lv lv' : List (Nat × Value)} {pc pc' : Nat} {st st' : List Value} {σ : ST} {r r1 r2 : Option (ρ × ST)}
theorem Jstep (h : ∀ (H : Heap) (locs : List Loc) (Q : State → Prop) (ls : Array Slot), lv_has ls nL lv → (∀ ls' : Array Slot, lv_has ls' nL lv' → JW E H locs Q pc' ls' st') → JW E H locs Q pc ls st) (kk : Jg E nL Fi lv' pc' st' σ r) : Jg E nL Fi lv pc st σ r :=
  fun x σ' hr H locs ls hP hD hS hl => h H locs _ ls hl (fun ls' hl' => kk x σ' hr H locs ls' hP hD hS hl')
theorem J_exit {x : ρ} (h : ∀ (H : Heap) (locs : List Loc) (ls : Array Slot), va_P (jV E).1 vwCl ((jV E).2.2.1 σ) H → va_D (jA E) ((jV E).2.2.1 σ) → va_S (jA E) (jS E).heap H locs → lv_has ls nL lv → JW E H locs (Fi x σ) pc ls st) : Jg E nL Fi lv pc st σ (some (x, σ)) := by
  intro y σ' hr H locs ls hP hD hS hl
  cases hr
  exact h H locs ls hP hD hS hl
theorem J_none : Jg E nL Fi lv pc st σ (none : Option (ρ × ST)) := fun _ _ hr => by cases hr
theorem J_sub (ks : List Nat) (h : lv_pick lv ks = lv') (kk : Jg E nL Fi lv' pc st σ r) : Jg E nL Fi lv pc st σ r := Jstep (fun H locs Q ls hl k => k ls (lv_sub hl ks h)) kk
theorem J_ite {q : Prop} [Decidable q] (h1 : q → Jg E nL Fi lv pc st σ r1) (h2 : ¬ q → Jg E nL Fi lv pc st σ r2) : Jg E nL Fi lv pc st σ (if q then r1 else r2) := by
  by_cases hq : q
  · rw [if_pos hq]; exact h1 hq
  · rw [if_neg hq]; exact h2 hq
theorem Jcases (q : Prop) [Decidable q] (h : ∀ (H : Heap) (locs : List Loc) (Q : State → Prop) (ls : Array Slot), (q → JW E H locs Q pc' ls st') → (¬ q → ∀ pc2, pc2 = pc + 3 → JW E H locs Q pc2 ls st') → JW E H locs Q pc ls st)
    (kt : Jg E nL Fi lv pc' st' σ r1) (kf : Jg E nL Fi lv (pc + 3) st' σ r2) : Jg E nL Fi lv pc st σ (if q then r1 else r2) := by
  intro x σ' hr H locs ls hP hD hS hl
  refine h H locs _ ls (fun hq => ?_) (fun hq pc2 e => ?_)
  · rw [if_pos hq] at hr; exact kt x σ' hr H locs ls hP hD hS hl
  · subst e; rw [if_neg hq] at hr; exact kf x σ' hr H locs ls hP hD hS hl
theorem J_iconst {n : Int} {v : Int32} (X : JX E nL cc own ret F L) (hdg : decode cc pc = .ok (.iconst n, 1)) (hv : Int32.ofInt n = v) (kk : Jg E nL Fi lv (pc + 1) (.int v :: st) σ r) : Jg E nL Fi lv pc (st) σ r := Jstep (fun H locs Q ls hl k => lv_iconst (jxx X) (jxb X) hdg hv (k ls hl)) kk
theorem J_bipush {n : Int} {v : Int32} (X : JX E nL cc own ret F L) (hdg : decode cc pc = .ok (.bipush n, 2)) (hv : (Int8.ofInt n).toInt32 = v) (kk : Jg E nL Fi lv (pc + 2) (.int v :: st) σ r) : Jg E nL Fi lv pc (st) σ r := Jstep (fun H locs Q ls hl k => lv_bipush (jxx X) (jxb X) hdg hv (k ls hl)) kk
theorem J_sipush {n : Int} {v : Int32} (X : JX E nL cc own ret F L) (hdg : decode cc pc = .ok (.sipush n, 3)) (hv : (Int16.ofInt n).toInt32 = v) (kk : Jg E nL Fi lv (pc + 3) (.int v :: st) σ r) : Jg E nL Fi lv pc (st) σ r := Jstep (fun H locs Q ls hl k => lv_sipush (jxx X) (jxb X) hdg hv (k ls hl)) kk
theorem J_lconst {n : Fin 2} {v : Int64} (X : JX E nL cc own ret F L) (hdg : decode cc pc = .ok (.lconst n, 1)) (hv : Int64.ofNat (n : Nat) = v) (kk : Jg E nL Fi lv (pc + 1) (.long v :: st) σ r) : Jg E nL Fi lv pc (st) σ r := Jstep (fun H locs Q ls hl k => lv_lconst (jxx X) (jxb X) hdg hv (k ls hl)) kk
theorem J_iload_n {k : Fin 4} {i : Nat} {x : Int32} (X : JX E nL cc own ret F L) (q : Nat) (hdg : decode cc pc = .ok (.iload_n k, 1)) (hi : (k : Nat) = i) (hq : lv[q]? = some (i, .int x)) (kk : Jg E nL Fi lv (pc + 1) (.int x :: st) σ r) : Jg E nL Fi lv pc st σ r := Jstep (fun H locs Q ls hl k => lv_iload_n (jxx X) (jxb X) hdg hi (lv_at hl q hq) (k ls hl)) kk
theorem J_iload {i : Nat} {x : Int32} (X : JX E nL cc own ret F L) (q : Nat) (hdg : decode cc pc = .ok (.iload i, 2)) (hq : lv[q]? = some (i, .int x)) (kk : Jg E nL Fi lv (pc + 2) (.int x :: st) σ r) : Jg E nL Fi lv pc st σ r := Jstep (fun H locs Q ls hl k => lv_iload (jxx X) (jxb X) hdg (lv_at hl q hq) (k ls hl)) kk
theorem J_istore_n {k : Fin 4} {i : Nat} {x : Int32} (lv' : List (Nat × Value)) (X : JX E nL cc own ret F L) (hdg : decode cc pc = .ok (.istore_n k, 1)) (hi : (k : Nat) = i) (hn : i < nL) (hl' : (i, Value.int x) :: lv.filter (fun q => !(q.1 == i) && !(q.1 + 1 == i && q.2.category == 2)) = lv') (kk : Jg E nL Fi lv' (pc + 1) st σ r) : Jg E nL Fi lv pc (.int x :: st) σ r := Jstep (fun H locs Q ls hl k => lv_istore_n (jxx X) (jxb X) hdg hi hl hn hl' (fun ls' h' => k ls' h')) kk
theorem J_istore {i : Nat} {x : Int32} (lv' : List (Nat × Value)) (X : JX E nL cc own ret F L) (hdg : decode cc pc = .ok (.istore i, 2)) (hn : i < nL) (hl' : (i, Value.int x) :: lv.filter (fun q => !(q.1 == i) && !(q.1 + 1 == i && q.2.category == 2)) = lv') (kk : Jg E nL Fi lv' (pc + 2) st σ r) : Jg E nL Fi lv pc (.int x :: st) σ r := Jstep (fun H locs Q ls hl k => lv_istore (jxx X) (jxb X) hdg hl hn hl' (fun ls' h' => k ls' h')) kk
theorem J_lload_n {k : Fin 4} {i : Nat} {x : Int64} (X : JX E nL cc own ret F L) (q : Nat) (hdg : decode cc pc = .ok (.lload_n k, 1)) (hi : (k : Nat) = i) (hq : lv[q]? = some (i, .long x)) (kk : Jg E nL Fi lv (pc + 1) (.long x :: st) σ r) : Jg E nL Fi lv pc st σ r := Jstep (fun H locs Q ls hl k => lv_lload_n (jxx X) (jxb X) hdg hi (lv_at hl q hq) (k ls hl)) kk
theorem J_lload {i : Nat} {x : Int64} (X : JX E nL cc own ret F L) (q : Nat) (hdg : decode cc pc = .ok (.lload i, 2)) (hq : lv[q]? = some (i, .long x)) (kk : Jg E nL Fi lv (pc + 2) (.long x :: st) σ r) : Jg E nL Fi lv pc st σ r := Jstep (fun H locs Q ls hl k => lv_lload (jxx X) (jxb X) hdg (lv_at hl q hq) (k ls hl)) kk
theorem J_lstore_n {k : Fin 4} {i : Nat} {x : Int64} (lv' : List (Nat × Value)) (X : JX E nL cc own ret F L) (hdg : decode cc pc = .ok (.lstore_n k, 1)) (hi : (k : Nat) = i) (hn : i + 1 < nL) (hl' : (i, Value.long x) :: lv.filter (fun q => !(q.1 == i) && (!(q.1 == i + 1) && !(q.1 + 1 == i && q.2.category == 2))) = lv') (kk : Jg E nL Fi lv' (pc + 1) st σ r) : Jg E nL Fi lv pc (.long x :: st) σ r := Jstep (fun H locs Q ls hl k => lv_lstore_n (jxx X) (jxb X) hdg hi hl hn hl' (fun ls' h' => k ls' h')) kk
theorem J_lstore {i : Nat} {x : Int64} (lv' : List (Nat × Value)) (X : JX E nL cc own ret F L) (hdg : decode cc pc = .ok (.lstore i, 2)) (hn : i + 1 < nL) (hl' : (i, Value.long x) :: lv.filter (fun q => !(q.1 == i) && (!(q.1 == i + 1) && !(q.1 + 1 == i && q.2.category == 2))) = lv') (kk : Jg E nL Fi lv' (pc + 2) st σ r) : Jg E nL Fi lv pc (.long x :: st) σ r := Jstep (fun H locs Q ls hl k => lv_lstore (jxx X) (jxb X) hdg hl hn hl' (fun ls' h' => k ls' h')) kk
theorem J_aload_n {k : Fin 4} {i : Nat} {x : Nat} (X : JX E nL cc own ret F L) (q : Nat) (hdg : decode cc pc = .ok (.aload_n k, 1)) (hi : (k : Nat) = i) (hq : lv[q]? = some (i, .ref x)) (kk : Jg E nL Fi lv (pc + 1) (.ref x :: st) σ r) : Jg E nL Fi lv pc st σ r := Jstep (fun H locs Q ls hl k => lv_aload_n (jxx X) (jxb X) hdg hi (lv_at hl q hq) (k ls hl)) kk
theorem J_aload {i : Nat} {x : Nat} (X : JX E nL cc own ret F L) (q : Nat) (hdg : decode cc pc = .ok (.aload i, 2)) (hq : lv[q]? = some (i, .ref x)) (kk : Jg E nL Fi lv (pc + 2) (.ref x :: st) σ r) : Jg E nL Fi lv pc st σ r := Jstep (fun H locs Q ls hl k => lv_aload (jxx X) (jxb X) hdg (lv_at hl q hq) (k ls hl)) kk
theorem J_astore_n {k : Fin 4} {i : Nat} {x : Nat} (lv' : List (Nat × Value)) (X : JX E nL cc own ret F L) (hdg : decode cc pc = .ok (.astore_n k, 1)) (hi : (k : Nat) = i) (hn : i < nL) (hl' : (i, Value.ref x) :: lv.filter (fun q => !(q.1 == i) && !(q.1 + 1 == i && q.2.category == 2)) = lv') (kk : Jg E nL Fi lv' (pc + 1) st σ r) : Jg E nL Fi lv pc (.ref x :: st) σ r := Jstep (fun H locs Q ls hl k => lv_astore_n (jxx X) (jxb X) hdg hi hl hn hl' (fun ls' h' => k ls' h')) kk
theorem J_astore {i : Nat} {x : Nat} (lv' : List (Nat × Value)) (X : JX E nL cc own ret F L) (hdg : decode cc pc = .ok (.astore i, 2)) (hn : i < nL) (hl' : (i, Value.ref x) :: lv.filter (fun q => !(q.1 == i) && !(q.1 + 1 == i && q.2.category == 2)) = lv') (kk : Jg E nL Fi lv' (pc + 2) st σ r) : Jg E nL Fi lv pc (.ref x :: st) σ r := Jstep (fun H locs Q ls hl k => lv_astore (jxx X) (jxb X) hdg hl hn hl' (fun ls' h' => k ls' h')) kk
theorem J_iinc {i : Nat} {n : Int} {x v : Int32} (lv' : List (Nat × Value)) (X : JX E nL cc own ret F L) (q : Nat) (hdg : decode cc pc = .ok (.iinc i n, 3)) (hq : lv[q]? = some (i, .int x)) (hv : x + Int32.ofInt n = v) (hn : i < nL) (hl' : (i, Value.int v) :: lv.filter (fun q => !(q.1 == i) && !(q.1 + 1 == i && q.2.category == 2)) = lv') (kk : Jg E nL Fi lv' (pc + 3) st σ r) : Jg E nL Fi lv pc st σ r := Jstep (fun H locs Q ls hl k => lv_iinc (jxx X) (jxb X) hdg hl hq hv hn hl' (fun ls' h' => k ls' h')) kk
theorem J_iadd {x y : Int32} (X : JX E nL cc own ret F L) (hdg : decode cc pc = .ok (.iadd, 1))  (kk : Jg E nL Fi lv (pc + 1) (.int (x + y) :: st) σ r) : Jg E nL Fi lv pc (.int y :: .int x :: st) σ r := Jstep (fun H locs Q ls hl k => lv_iadd (jxx X) (jxb X) hdg  (k ls hl)) kk
theorem J_isub {x y : Int32} (X : JX E nL cc own ret F L) (hdg : decode cc pc = .ok (.isub, 1))  (kk : Jg E nL Fi lv (pc + 1) (.int (x - y) :: st) σ r) : Jg E nL Fi lv pc (.int y :: .int x :: st) σ r := Jstep (fun H locs Q ls hl k => lv_isub (jxx X) (jxb X) hdg  (k ls hl)) kk
theorem J_imul {x y : Int32} (X : JX E nL cc own ret F L) (hdg : decode cc pc = .ok (.imul, 1))  (kk : Jg E nL Fi lv (pc + 1) (.int (x * y) :: st) σ r) : Jg E nL Fi lv pc (.int y :: .int x :: st) σ r := Jstep (fun H locs Q ls hl k => lv_imul (jxx X) (jxb X) hdg  (k ls hl)) kk
theorem J_iand {x y : Int32} (X : JX E nL cc own ret F L) (hdg : decode cc pc = .ok (.iand, 1))  (kk : Jg E nL Fi lv (pc + 1) (.int (x &&& y) :: st) σ r) : Jg E nL Fi lv pc (.int y :: .int x :: st) σ r := Jstep (fun H locs Q ls hl k => lv_iand (jxx X) (jxb X) hdg  (k ls hl)) kk
theorem J_ior {x y : Int32} (X : JX E nL cc own ret F L) (hdg : decode cc pc = .ok (.ior, 1))  (kk : Jg E nL Fi lv (pc + 1) (.int (x ||| y) :: st) σ r) : Jg E nL Fi lv pc (.int y :: .int x :: st) σ r := Jstep (fun H locs Q ls hl k => lv_ior (jxx X) (jxb X) hdg  (k ls hl)) kk
theorem J_ishl {x y : Int32} (X : JX E nL cc own ret F L) (hdg : decode cc pc = .ok (.ishl, 1))  (kk : Jg E nL Fi lv (pc + 1) (.int (x <<< (y &&& 31)) :: st) σ r) : Jg E nL Fi lv pc (.int y :: .int x :: st) σ r := Jstep (fun H locs Q ls hl k => lv_ishl (jxx X) (jxb X) hdg  (k ls hl)) kk
theorem J_ishr {x y : Int32} (X : JX E nL cc own ret F L) (hdg : decode cc pc = .ok (.ishr, 1))  (kk : Jg E nL Fi lv (pc + 1) (.int (x >>> (y &&& 31)) :: st) σ r) : Jg E nL Fi lv pc (.int y :: .int x :: st) σ r := Jstep (fun H locs Q ls hl k => lv_ishr (jxx X) (jxb X) hdg  (k ls hl)) kk
theorem J_ladd {x y : Int64} (X : JX E nL cc own ret F L) (hdg : decode cc pc = .ok (.ladd, 1))  (kk : Jg E nL Fi lv (pc + 1) (.long (x + y) :: st) σ r) : Jg E nL Fi lv pc (.long y :: .long x :: st) σ r := Jstep (fun H locs Q ls hl k => lv_ladd (jxx X) (jxb X) hdg  (k ls hl)) kk
theorem J_lsub {x y : Int64} (X : JX E nL cc own ret F L) (hdg : decode cc pc = .ok (.lsub, 1))  (kk : Jg E nL Fi lv (pc + 1) (.long (x - y) :: st) σ r) : Jg E nL Fi lv pc (.long y :: .long x :: st) σ r := Jstep (fun H locs Q ls hl k => lv_lsub (jxx X) (jxb X) hdg  (k ls hl)) kk
theorem J_lmul {x y : Int64} (X : JX E nL cc own ret F L) (hdg : decode cc pc = .ok (.lmul, 1))  (kk : Jg E nL Fi lv (pc + 1) (.long (x * y) :: st) σ r) : Jg E nL Fi lv pc (.long y :: .long x :: st) σ r := Jstep (fun H locs Q ls hl k => lv_lmul (jxx X) (jxb X) hdg  (k ls hl)) kk
theorem J_idiv {x y : Int32} (X : JX E nL cc own ret F L) (hdg : decode cc pc = .ok (.idiv, 1)) (hne : ¬ y = 0) (kk : Jg E nL Fi lv (pc + 1) (.int (x / y) :: st) σ r) : Jg E nL Fi lv pc (.int y :: .int x :: st) σ r := Jstep (fun H locs Q ls hl k => lv_idiv (jxx X) (jxb X) hdg hne (k ls hl)) kk
theorem J_irem {x y : Int32} (X : JX E nL cc own ret F L) (hdg : decode cc pc = .ok (.irem, 1)) (hne : ¬ y = 0) (kk : Jg E nL Fi lv (pc + 1) (.int (x - x / y * y) :: st) σ r) : Jg E nL Fi lv pc (.int y :: .int x :: st) σ r := Jstep (fun H locs Q ls hl k => lv_irem (jxx X) (jxb X) hdg hne (k ls hl)) kk
theorem J_ldiv {x y : Int64} (X : JX E nL cc own ret F L) (hdg : decode cc pc = .ok (.ldiv, 1)) (hne : ¬ y = 0) (kk : Jg E nL Fi lv (pc + 1) (.long (x / y) :: st) σ r) : Jg E nL Fi lv pc (.long y :: .long x :: st) σ r := Jstep (fun H locs Q ls hl k => lv_ldiv (jxx X) (jxb X) hdg hne (k ls hl)) kk
theorem J_lrem {x y : Int64} (X : JX E nL cc own ret F L) (hdg : decode cc pc = .ok (.lrem, 1)) (hne : ¬ y = 0) (kk : Jg E nL Fi lv (pc + 1) (.long (x - x / y * y) :: st) σ r) : Jg E nL Fi lv pc (.long y :: .long x :: st) σ r := Jstep (fun H locs Q ls hl k => lv_lrem (jxx X) (jxb X) hdg hne (k ls hl)) kk
theorem J_ineg {x : Int32} (X : JX E nL cc own ret F L) (hdg : decode cc pc = .ok (.ineg, 1))  (kk : Jg E nL Fi lv (pc + 1) (.int (-x) :: st) σ r) : Jg E nL Fi lv pc (.int x :: st) σ r := Jstep (fun H locs Q ls hl k => lv_ineg (jxx X) (jxb X) hdg  (k ls hl)) kk
theorem J_i2l {x : Int32} (X : JX E nL cc own ret F L) (hdg : decode cc pc = .ok (.i2l, 1)) (kk : Jg E nL Fi lv (pc + 1) (.long (x.toInt64) :: st) σ r) : Jg E nL Fi lv pc (.int x :: st) σ r := Jstep (fun H locs Q ls hl k => lv_i2l (jxx X) (jxb X) hdg rfl (k ls hl)) kk
theorem J_i2b {x : Int32} (X : JX E nL cc own ret F L) (hdg : decode cc pc = .ok (.i2b, 1)) (kk : Jg E nL Fi lv (pc + 1) (.int (x.toInt8.toInt32) :: st) σ r) : Jg E nL Fi lv pc (.int x :: st) σ r := Jstep (fun H locs Q ls hl k => lv_i2b (jxx X) (jxb X) hdg rfl (k ls hl)) kk
theorem J_i2s {x : Int32} (X : JX E nL cc own ret F L) (hdg : decode cc pc = .ok (.i2s, 1)) (kk : Jg E nL Fi lv (pc + 1) (.int (x.toInt16.toInt32) :: st) σ r) : Jg E nL Fi lv pc (.int x :: st) σ r := Jstep (fun H locs Q ls hl k => lv_i2s (jxx X) (jxb X) hdg rfl (k ls hl)) kk
theorem J_i2c {x : Int32} (X : JX E nL cc own ret F L) (hdg : decode cc pc = .ok (.i2c, 1)) (kk : Jg E nL Fi lv (pc + 1) (.int ((x.toUInt32 % 65536).toInt32) :: st) σ r) : Jg E nL Fi lv pc (.int x :: st) σ r := Jstep (fun H locs Q ls hl k => lv_i2c (jxx X) (jxb X) hdg rfl (k ls hl)) kk
theorem J_l2i {x : Int64} (X : JX E nL cc own ret F L) (hdg : decode cc pc = .ok (.l2i, 1)) (kk : Jg E nL Fi lv (pc + 1) (.int x.toInt32 :: st) σ r) : Jg E nL Fi lv pc (.long x :: st) σ r := Jstep (fun H locs Q ls hl k => lv_l2i (jxx X) (jxb X) hdg rfl (k ls hl)) kk
theorem J_lcmp {x y : Int64} (X : JX E nL cc own ret F L) (hdg : decode cc pc = .ok (.lcmp, 1)) (kk : Jg E nL Fi lv (pc + 1) (.int (lg_cmp x y) :: st) σ r) : Jg E nL Fi lv pc (.long y :: .long x :: st) σ r := Jstep (fun H locs Q ls hl k => W.lcmp (jxx X) (jxb X) hdg (k ls hl)) kk
theorem J_dup {va : Value} (X : JX E nL cc own ret F L) (hdg : decode cc pc = .ok (.dup, 1)) (hva : va.category = 1) (kk : Jg E nL Fi lv (pc + 1) (va :: va :: st) σ r) : Jg E nL Fi lv pc (va :: st) σ r := Jstep (fun H locs Q ls hl k => lv_dup (jxx X) (jxb X) hdg hva (k ls hl)) kk
theorem J_pop {va : Value} (X : JX E nL cc own ret F L) (hdg : decode cc pc = .ok (.pop, 1)) (hva : va.category = 1) (kk : Jg E nL Fi lv (pc + 1) (st) σ r) : Jg E nL Fi lv pc (va :: st) σ r := Jstep (fun H locs Q ls hl k => lv_pop (jxx X) (jxb X) hdg hva (k ls hl)) kk
theorem J_dup_x1 {va vb : Value} (X : JX E nL cc own ret F L) (hdg : decode cc pc = .ok (.dup_x1, 1)) (hva : va.category = 1) (hvb : vb.category = 1) (kk : Jg E nL Fi lv (pc + 1) (va :: vb :: va :: st) σ r) : Jg E nL Fi lv pc (va :: vb :: st) σ r := Jstep (fun H locs Q ls hl k => lv_dup_x1 (jxx X) (jxb X) hdg hva hvb (k ls hl)) kk
theorem J_dup2 {va vb : Value} (X : JX E nL cc own ret F L) (hdg : decode cc pc = .ok (.dup2, 1)) (hva : va.category = 1) (hvb : vb.category = 1) (kk : Jg E nL Fi lv (pc + 1) (va :: vb :: va :: vb :: st) σ r) : Jg E nL Fi lv pc (va :: vb :: st) σ r := Jstep (fun H locs Q ls hl k => lv_dup2_11 (jxx X) (jxb X) hdg hva hvb (k ls hl)) kk
theorem J_if_eq {x : Int32} {off : Int} {tgt : Nat} (X : JX E nL cc own ret F L) (hdg : decode cc pc = .ok (.ifCond .eq off, 3)) (ht : (pc : Int) + off = (tgt : Int)) (kt : Jg E nL Fi lv tgt st σ r1) (kf : Jg E nL Fi lv (pc + 3) st σ r2) : Jg E nL Fi lv pc (.int x :: st) σ (if x = 0 then r1 else r2) := by
  intro y σ' hr H locs ls hP hD hS hl
  refine lv_if_eq (jxx X) (jxb X) hdg ht (fun hq => ?_) (fun hq => ?_)
  · rw [if_pos hq] at hr; exact kt y σ' hr H locs ls hP hD hS hl
  · rw [if_neg hq] at hr; exact kf y σ' hr H locs ls hP hD hS hl
theorem J_if_ne {x : Int32} {off : Int} {tgt : Nat} (X : JX E nL cc own ret F L) (hdg : decode cc pc = .ok (.ifCond .ne off, 3)) (ht : (pc : Int) + off = (tgt : Int)) (kt : Jg E nL Fi lv tgt st σ r1) (kf : Jg E nL Fi lv (pc + 3) st σ r2) : Jg E nL Fi lv pc (.int x :: st) σ (if x = 0 then r2 else r1) := by
  intro y σ' hr H locs ls hP hD hS hl
  refine lv_if_ne (jxx X) (jxb X) hdg ht (fun hq => ?_) (fun hq => ?_)
  · rw [if_neg hq] at hr; exact kt y σ' hr H locs ls hP hD hS hl
  · rw [if_pos hq] at hr; exact kf y σ' hr H locs ls hP hD hS hl
theorem J_if_lt {x : Int32} {off : Int} {tgt : Nat} (X : JX E nL cc own ret F L) (hdg : decode cc pc = .ok (.ifCond .lt off, 3)) (ht : (pc : Int) + off = (tgt : Int)) (kt : Jg E nL Fi lv tgt st σ r1) (kf : Jg E nL Fi lv (pc + 3) st σ r2) : Jg E nL Fi lv pc (.int x :: st) σ (if x < 0 then r1 else r2) := by
  intro y σ' hr H locs ls hP hD hS hl
  refine lv_if_lt (jxx X) (jxb X) hdg ht (fun hq => ?_) (fun hq => ?_)
  · rw [if_pos hq] at hr; exact kt y σ' hr H locs ls hP hD hS hl
  · rw [if_neg hq] at hr; exact kf y σ' hr H locs ls hP hD hS hl
theorem J_if_ge {x : Int32} {off : Int} {tgt : Nat} (X : JX E nL cc own ret F L) (hdg : decode cc pc = .ok (.ifCond .ge off, 3)) (ht : (pc : Int) + off = (tgt : Int)) (kt : Jg E nL Fi lv tgt st σ r1) (kf : Jg E nL Fi lv (pc + 3) st σ r2) : Jg E nL Fi lv pc (.int x :: st) σ (if 0 ≤ x then r1 else r2) := by
  intro y σ' hr H locs ls hP hD hS hl
  refine lv_if_ge (jxx X) (jxb X) hdg ht (fun hq => ?_) (fun hq => ?_)
  · rw [if_pos hq] at hr; exact kt y σ' hr H locs ls hP hD hS hl
  · rw [if_neg hq] at hr; exact kf y σ' hr H locs ls hP hD hS hl
theorem J_if_gt {x : Int32} {off : Int} {tgt : Nat} (X : JX E nL cc own ret F L) (hdg : decode cc pc = .ok (.ifCond .gt off, 3)) (ht : (pc : Int) + off = (tgt : Int)) (kt : Jg E nL Fi lv tgt st σ r1) (kf : Jg E nL Fi lv (pc + 3) st σ r2) : Jg E nL Fi lv pc (.int x :: st) σ (if 0 < x then r1 else r2) := by
  intro y σ' hr H locs ls hP hD hS hl
  refine lv_if_gt (jxx X) (jxb X) hdg ht (fun hq => ?_) (fun hq => ?_)
  · rw [if_pos hq] at hr; exact kt y σ' hr H locs ls hP hD hS hl
  · rw [if_neg hq] at hr; exact kf y σ' hr H locs ls hP hD hS hl
theorem J_if_le {x : Int32} {off : Int} {tgt : Nat} (X : JX E nL cc own ret F L) (hdg : decode cc pc = .ok (.ifCond .le off, 3)) (ht : (pc : Int) + off = (tgt : Int)) (kt : Jg E nL Fi lv tgt st σ r1) (kf : Jg E nL Fi lv (pc + 3) st σ r2) : Jg E nL Fi lv pc (.int x :: st) σ (if x ≤ 0 then r1 else r2) := by
  intro y σ' hr H locs ls hP hD hS hl
  refine lv_if_le (jxx X) (jxb X) hdg ht (fun hq => ?_) (fun hq => ?_)
  · rw [if_pos hq] at hr; exact kt y σ' hr H locs ls hP hD hS hl
  · rw [if_neg hq] at hr; exact kf y σ' hr H locs ls hP hD hS hl
theorem J_icmp_eq {x y : Int32} {off : Int} {tgt : Nat} (X : JX E nL cc own ret F L) (hdg : decode cc pc = .ok (.if_icmp .eq off, 3)) (ht : (pc : Int) + off = (tgt : Int)) (kt : Jg E nL Fi lv tgt st σ r1) (kf : Jg E nL Fi lv (pc + 3) st σ r2) : Jg E nL Fi lv pc (.int y :: .int x :: st) σ (if x = y then r1 else r2) := by
  intro z σ' hr H locs ls hP hD hS hl
  refine lv_icmp_eq (jxx X) (jxb X) hdg ht (fun hq => ?_) (fun hq => ?_)
  · rw [if_pos hq] at hr; exact kt z σ' hr H locs ls hP hD hS hl
  · rw [if_neg hq] at hr; exact kf z σ' hr H locs ls hP hD hS hl
theorem J_icmp_ne {x y : Int32} {off : Int} {tgt : Nat} (X : JX E nL cc own ret F L) (hdg : decode cc pc = .ok (.if_icmp .ne off, 3)) (ht : (pc : Int) + off = (tgt : Int)) (kt : Jg E nL Fi lv tgt st σ r1) (kf : Jg E nL Fi lv (pc + 3) st σ r2) : Jg E nL Fi lv pc (.int y :: .int x :: st) σ (if x = y then r2 else r1) := by
  intro z σ' hr H locs ls hP hD hS hl
  refine lv_icmp_ne (jxx X) (jxb X) hdg ht (fun hq => ?_) (fun hq => ?_)
  · rw [if_neg hq] at hr; exact kt z σ' hr H locs ls hP hD hS hl
  · rw [if_pos hq] at hr; exact kf z σ' hr H locs ls hP hD hS hl
theorem J_icmp_lt {x y : Int32} {off : Int} {tgt : Nat} (X : JX E nL cc own ret F L) (hdg : decode cc pc = .ok (.if_icmp .lt off, 3)) (ht : (pc : Int) + off = (tgt : Int)) (kt : Jg E nL Fi lv tgt st σ r1) (kf : Jg E nL Fi lv (pc + 3) st σ r2) : Jg E nL Fi lv pc (.int y :: .int x :: st) σ (if x < y then r1 else r2) := by
  intro z σ' hr H locs ls hP hD hS hl
  refine lv_icmp_lt (jxx X) (jxb X) hdg ht (fun hq => ?_) (fun hq => ?_)
  · rw [if_pos hq] at hr; exact kt z σ' hr H locs ls hP hD hS hl
  · rw [if_neg hq] at hr; exact kf z σ' hr H locs ls hP hD hS hl
theorem J_icmp_ge {x y : Int32} {off : Int} {tgt : Nat} (X : JX E nL cc own ret F L) (hdg : decode cc pc = .ok (.if_icmp .ge off, 3)) (ht : (pc : Int) + off = (tgt : Int)) (kt : Jg E nL Fi lv tgt st σ r1) (kf : Jg E nL Fi lv (pc + 3) st σ r2) : Jg E nL Fi lv pc (.int y :: .int x :: st) σ (if y ≤ x then r1 else r2) := by
  intro z σ' hr H locs ls hP hD hS hl
  refine lv_icmp_ge (jxx X) (jxb X) hdg ht (fun hq => ?_) (fun hq => ?_)
  · rw [if_pos hq] at hr; exact kt z σ' hr H locs ls hP hD hS hl
  · rw [if_neg hq] at hr; exact kf z σ' hr H locs ls hP hD hS hl
theorem J_icmp_gt {x y : Int32} {off : Int} {tgt : Nat} (X : JX E nL cc own ret F L) (hdg : decode cc pc = .ok (.if_icmp .gt off, 3)) (ht : (pc : Int) + off = (tgt : Int)) (kt : Jg E nL Fi lv tgt st σ r1) (kf : Jg E nL Fi lv (pc + 3) st σ r2) : Jg E nL Fi lv pc (.int y :: .int x :: st) σ (if y < x then r1 else r2) := by
  intro z σ' hr H locs ls hP hD hS hl
  refine lv_icmp_gt (jxx X) (jxb X) hdg ht (fun hq => ?_) (fun hq => ?_)
  · rw [if_pos hq] at hr; exact kt z σ' hr H locs ls hP hD hS hl
  · rw [if_neg hq] at hr; exact kf z σ' hr H locs ls hP hD hS hl
theorem J_icmp_le {x y : Int32} {off : Int} {tgt : Nat} (X : JX E nL cc own ret F L) (hdg : decode cc pc = .ok (.if_icmp .le off, 3)) (ht : (pc : Int) + off = (tgt : Int)) (kt : Jg E nL Fi lv tgt st σ r1) (kf : Jg E nL Fi lv (pc + 3) st σ r2) : Jg E nL Fi lv pc (.int y :: .int x :: st) σ (if x ≤ y then r1 else r2) := by
  intro z σ' hr H locs ls hP hD hS hl
  refine lv_icmp_le (jxx X) (jxb X) hdg ht (fun hq => ?_) (fun hq => ?_)
  · rw [if_pos hq] at hr; exact kt z σ' hr H locs ls hP hD hS hl
  · rw [if_neg hq] at hr; exact kf z σ' hr H locs ls hP hD hS hl
theorem J_goto {off : Int} {tgt : Nat} (X : JX E nL cc own ret F L) (hdg : decode cc pc = .ok (.goto off, 3)) (ht : (pc : Int) + off = (tgt : Int)) (kk : Jg E nL Fi lv tgt st σ r) : Jg E nL Fi lv pc st σ r := Jstep (fun H locs Q ls hl k => lv_goto (jxx X) (jxb X) hdg ht (k ls hl)) kk
theorem J_tin {dflt lo hi : Int} {offs : Array Int} {len : Nat} {x : Int32} {off : Int} {tgt : Nat} (v : Int32) (hx : x = v) (X : JX E nL cc own ret F L) (hdg : decode cc pc = .ok (.tableswitch dflt lo hi offs, len)) (h1 : ¬ v.toInt < lo) (h2 : ¬ hi < v.toInt) (ho : offs[(v.toInt - lo).toNat]? = some off) (ht : (pc : Int) + off = (tgt : Int)) (kk : Jg E nL Fi lv tgt st σ r) : Jg E nL Fi lv pc (.int x :: st) σ r := by
  subst hx
  exact Jstep (fun H locs Q ls hl k => lv_tableIn (jxx X) (jxb X) hdg h1 h2 ho ht (k ls hl)) kk
theorem J_tout {dflt lo hi : Int} {offs : Array Int} {len : Nat} {x : Int32} {tgt : Nat} (X : JX E nL cc own ret F L) (hdg : decode cc pc = .ok (.tableswitch dflt lo hi offs, len)) (h : x.toInt < lo ∨ hi < x.toInt) (ht : (pc : Int) + dflt = (tgt : Int)) (kk : Jg E nL Fi lv tgt st σ r) : Jg E nL Fi lv pc (.int x :: st) σ r := Jstep (fun H locs Q ls hl k => lv_tableOut (jxx X) (jxb X) hdg h ht (k ls hl)) kk
theorem J_look {dflt : Int} {qs : Array (Int × Int)} {len : Nat} {x : Int32} {off : Int} {tgt : Nat} (X : JX E nL cc own ret F L) (hdg : decode cc pc = .ok (.lookupswitch dflt qs, len)) (hp : (qs.toList.zip (qs.toList.drop 1)).all (fun (a, next) => a.1 < next.1) = true) (ho : Op.lookupswitch.offset qs.toList dflt x.toInt = off) (ht : (pc : Int) + off = (tgt : Int)) (kk : Jg E nL Fi lv tgt st σ r) : Jg E nL Fi lv pc (.int x :: st) σ r := Jstep (fun H locs Q ls hl k => lv_lookup (jxx X) (jxb X) hdg hp ho ht (k ls hl)) kk
theorem J_ldc {index : Nat} {v : Int32} (X : JX E nL cc own ret F L) (hw : Cond.constant own index v ∈ lw_ok) (hdg : decode cc pc = .ok (.ldc index, 2)) (kk : Jg E nL Fi lv (pc + 2) (.int v :: st) σ r) : Jg E nL Fi lv pc st σ r := Jstep (fun H locs Q ls hl k => lv_ldc (jxx X) (jxb X) (jxo X) (jxt X _ hw) hdg (k ls hl)) kk
theorem J_ldcw {index : Nat} {v : Int32} (X : JX E nL cc own ret F L) (hw : Cond.constant own index v ∈ lw_ok) (hdg : decode cc pc = .ok (.ldc_w index, 3)) (kk : Jg E nL Fi lv (pc + 3) (.int v :: st) σ r) : Jg E nL Fi lv pc st σ r := Jstep (fun H locs Q ls hl k => lv_ldcw (jxx X) (jxb X) (jxo X) (jxt X _ hw) hdg (k ls hl)) kk
theorem J_ldc2 {index : Nat} {v : Int64} (X : JX E nL cc own ret F L) (hw : Cond.constantLong own index v ∈ lw_ok) (hdg : decode cc pc = .ok (.ldc2_w index, 3)) (kk : Jg E nL Fi lv (pc + 3) (.long v :: st) σ r) : Jg E nL Fi lv pc st σ r := Jstep (fun H locs Q ls hl k => lv_ldc2 (jxx X) (jxb X) (jxo X) (jxt X _ hw) hdg (k ls hl)) kk
theorem J_chk {i : Int32} {n : Nat} (kk : vp_in i n → Jg E nL Fi lv pc st σ r) : Jg E nL Fi lv pc st σ (chk i n r) := by
  intro x σ' hr
  unfold chk at hr
  by_cases h : i < 0 ∨ n ≤ i.toNatClampNeg
  · rw [if_pos h] at hr; cases hr
  · rw [if_neg h] at hr; exact kk h x σ' hr
theorem J_idv {y : Int32} (kk : ¬ y = 0 → Jg E nL Fi lv pc st σ r) : Jg E nL Fi lv pc st σ (idv y r) := by
  intro x σ' hr
  unfold idv at hr
  by_cases h : y = 0
  · rw [if_pos h] at hr; cases hr
  · rw [if_neg h] at hr; exact kk h x σ' hr
theorem J_ldv {y : Int64} (kk : ¬ y = 0 → Jg E nL Fi lv pc st σ r) : Jg E nL Fi lv pc st σ (ldv y r) := by
  intro x σ' hr
  unfold ldv at hr
  by_cases h : y = 0
  · rw [if_pos h] at hr; cases hr
  · rw [if_neg h] at hr; exact kk h x σ' hr
/-- a read of a row of ints that is a cell of the world -/
theorem J_ald {a q n : Nat} {cA : ClassId} {f : Nat → Int32} {i : Int32} {K : Int32 → Option (ρ × ST)} (X : JX E nL cc own ret F L) (ha : ((jV E).2.2.1 σ)[q]? = some (a, .inl (cA, n, .inl f))) (ht : (jV E).2.1[0]? = some (cA, .int)) (hdg : decode cc pc = .ok (.iaload, 1)) (kk : ∀ x : Int32, Jg E nL Fi lv (pc + 1) (.int x :: st) σ (K x)) : Jg E nL Fi lv pc (.int i :: .ref a :: st) σ (ald f n i K) := by
  intro x σ' hr H locs ls hP hD hS hl
  unfold ald at hr
  by_cases h : i < 0 ∨ n ≤ i.toNatClampNeg
  · rw [if_pos h] at hr; cases hr
  · rw [if_neg h] at hr
    exact va_iald (jxx X) (jxb X) X.2.1 hP q 0 ha ht h hdg (kk _ x σ' hr H locs ls hP hD hS hl)
theorem J_ast {o k a q n : Nat} {cA : ClassId} {i x : Int32} {K : ST → Option (ρ × ST)} (X : JX E nL cc own ret F L) (ha : ((jV E).2.2.1 σ)[q]? = some (a, .inl (cA, n, .inl (ga o k σ)))) (ht : (jV E).2.1[0]? = some (cA, .int)) (hset : ∀ f : Nat → Int32, ((jV E).2.2.1 σ).set q (a, .inl (cA, n, .inl f)) = (jV E).2.2.1 (pa o k f σ)) (hdg : decode cc pc = .ok (.iastore, 1)) (kk : ∀ σ1 : ST, Jg E nL Fi lv (pc + 1) st σ1 (K σ1)) : Jg E nL Fi lv pc (.int x :: .int i :: .ref a :: st) σ (ast o k n i x σ K) := by
  intro y σ' hr H locs ls hP hD hS hl
  unfold ast at hr
  by_cases h : i < 0 ∨ n ≤ i.toNatClampNeg
  · rw [if_pos h] at hr; cases hr
  · rw [if_neg h] at hr
    refine va_iast (jxx X) (jxb X) X.2.1 hP hD hS q 0 ha ht h hdg (fun H1 locs1 hP1 hD1 hS1 => ?_)
    rw [hset] at hP1 hD1
    exact kk _ y σ' hr H1 locs1 ls hP1 hD1 hS1 hl
theorem J_get {a q ci k N index : Nat} {C ref : String} {T : u_T} {fs : List Value} {v : Value} (X : JX E nL cc own ret F L) (hin : ∀ w ∈ u_ws C T N, w ∈ lw_ok) (ha : ((jV E).2.2.1 σ)[q]? = some (a, .inr (ci, fs))) (hc : vwCl[ci]? = some (C, T, N)) (hk : k < N) (hlink : Cond.fieldLink own index ref (T k).2.1 (T k).2.2.1 ∈ lw_ok) (href : ref = (T k).1) (hv : fs[k]? = some v) (hdg : decode cc pc = .ok (.getfield index, 3)) (kk : Jg E nL Fi lv (pc + 3) (v :: st) σ r) : Jg E nL Fi lv pc (.ref a :: st) σ r := by
  intro x σ' hr H locs ls hP hD hS hl
  subst href
  exact va_get (jxx X) (jxb X) (jxt X) hin (jxo X) X.2.1 hP q ha hc k hk (jxt X _ hlink) (fun _ h9 => h9) hv hdg (kk x σ' hr H locs ls hP hD hS hl)
theorem J_put {a q ci k o N index : Nat} {C ref : String} {T : u_T} {ty : FieldType} {fs : List Value} {v : Int32} {K : ST → Option (ρ × ST)} (X : JX E nL cc own ret F L) (hin : ∀ w ∈ u_ws C T N, w ∈ lw_ok) (ty0 : Nat → FieldType) (hty : ∀ k, k < N → parseFieldDescriptor (T k).2.2.1 = some (ty0 k)) (hnm : ∀ a, a < N → ∀ b, b < N → a ≠ b → (T a).2.1 ≠ (T b).2.1) (ha : ((jV E).2.2.1 σ)[q]? = some (a, .inr (ci, fs))) (hc : vwCl[ci]? = some (C, T, N)) (hk : k < N) (hlink : Cond.fieldLink own index ref (T k).2.1 (T k).2.2.1 ∈ lw_ok) (href : ref = (T k).1) (hfin : (T k).2.2.2 = false) (hd : parseFieldDescriptor (T k).2.2.1 = some ty) (hn : narrow ty (.int v) = .int v) (hfit : fits ty (.int v) = true) (hl0 : k < fs.length) (hset : ((jV E).2.2.1 σ).set q (a, .inr (ci, fs.set k (.int v))) = (jV E).2.2.1 (ps o k v σ)) (hdg : decode cc pc = .ok (.putfield index, 3)) (kk : ∀ σ1 : ST, Jg E nL Fi lv (pc + 3) st σ1 (K σ1)) : Jg E nL Fi lv pc (.int v :: .ref a :: st) σ (put o k v σ K) := by
  intro x σ' hr H locs ls hP hD hS hl
  subst href
  refine va_put (jxx X) (jxb X) (jxt X) hin ty0 hty hnm (jxo X) X.2.1 hP hD hS q ha hc k hk (jxt X _ hlink) (fun _ h9 => h9) hfin hd hn hfit hl0 hdg (fun H1 locs1 hP1 hD1 hS1 => ?_)
  rw [hset] at hP1 hD1
  exact kk _ x σ' hr H1 locs1 ls hP1 hD1 hS1 hl
theorem J_mmax {index : Nat} {x y : Int32} (X : JX E nL cc own ret F L) (hlink : Cond.methodLink own index Lib.Math.max.name ∈ lw_ok) (hstat : Cond.static Lib.Math.max.name ∈ lw_ok) (hini : Cond.initialized "java/lang/Math" ∈ lw_ok) (hcode : Cond.code Lib.Math.max.name Lib.Math.max.code 2 (some .int) ∈ lw_ok) (hF : 1 ≤ F) (hL : (st.map fun v => v.category).sum + 13 ≤ L) (hdg : decode cc pc = .ok (.invokestatic index, 3)) (kk : Jg E nL Fi lv (pc + 3) (.int (mxI x y) :: st) σ r) : Jg E nL Fi lv pc (.int y :: .int x :: st) σ r := by
  refine Jstep (fun H locs Q ls hl k => ?_) kk
  have hR : jR E = _ := X.2.2.2.2.2.1
  exact va_mmax (jxx X) (jxb X) (X.1.2.2.1.trans hl.1.symm) (jxo X) (jxt X _ hlink) (jxt X _ hstat) (jxt X _ hini) (jxt X _ hcode) (by rw [hR]; exact hF) (by rw [hR]; exact hL) (by rw [hR]; exact X.2.2.2.2.2.2.1.1) (by rw [hR]; exact X.2.2.2.2.2.2.1.2) hdg (k ls hl)
theorem J_mmin {index : Nat} {x y : Int32} (X : JX E nL cc own ret F L) (hlink : Cond.methodLink own index Lib.Math.min.name ∈ lw_ok) (hstat : Cond.static Lib.Math.min.name ∈ lw_ok) (hini : Cond.initialized "java/lang/Math" ∈ lw_ok) (hcode : Cond.code Lib.Math.min.name Lib.Math.min.code 2 (some .int) ∈ lw_ok) (hF : 1 ≤ F) (hL : (st.map fun v => v.category).sum + 13 ≤ L) (hdg : decode cc pc = .ok (.invokestatic index, 3)) (kk : Jg E nL Fi lv (pc + 3) (.int (mnI x y) :: st) σ r) : Jg E nL Fi lv pc (.int y :: .int x :: st) σ r := by
  refine Jstep (fun H locs Q ls hl k => ?_) kk
  have hR : jR E = _ := X.2.2.2.2.2.1
  exact va_mmin (jxx X) (jxb X) (X.1.2.2.1.trans hl.1.symm) (jxo X) (jxt X _ hlink) (jxt X _ hstat) (jxt X _ hini) (jxt X _ hcode) (by rw [hR]; exact hF) (by rw [hR]; exact hL) (by rw [hR]; exact X.2.2.2.2.2.2.1.1) (by rw [hR]; exact X.2.2.2.2.2.2.1.2) hdg (k ls hl)
end JRows
section JEnds
variable {E : JE} {nL F L : Nat} {cc : ByteArray} {own : String} {lv : List (Nat × Value)} {pc : Nat} {σ : ST}
theorem J_ireturn {v : Int32} (X : JX E nL cc own (some .int) F L) (hdg : decode cc pc = .ok (.ireturn, 1)) : Jg E nL (JF E vI) lv pc [.int v] σ (some (v, σ)) := by
  intro x σ' hr H locs ls hP hD hS hl
  cases hr
  refine W.widen (k := (jK E).2.2.1) (n := (jK E).2.2.2) X.2.2.2.2.2.2.1.1 X.2.2.2.2.2.2.1.2 ?_
  exact W.iret (jxx X) (jxb X) X.2.2.2.1 (fun t ht hW => ⟨⟨rfl, by rw [ht]; exact hP, va_K.moved hW.alike X.2.1, hD⟩, hS.F ht⟩) hS.2.2 hdg X.2.2.2.2.1
theorem J_nreturn {v : Int32} {ty : FieldType} (X : JX E nL cc own (some ty) F L) (hn : narrow ty (.int v) = .int v) (hdg : decode cc pc = .ok (.ireturn, 1)) : Jg E nL (JF E vI) lv pc [.int v] σ (some (v, σ)) := by
  intro x σ' hr H locs ls hP hD hS hl
  cases hr
  refine W.widen (k := (jK E).2.2.1) (n := (jK E).2.2.2) X.2.2.2.2.2.2.1.1 X.2.2.2.2.2.2.1.2 ?_
  exact W.zret (jxx X) (jxb X) X.2.2.2.1 hn (fun t ht hW => ⟨⟨rfl, by rw [ht]; exact hP, va_K.moved hW.alike X.2.1, hD⟩, hS.F ht⟩) hS.2.2 hdg X.2.2.2.2.1
theorem J_zreturn {v : Int32} (X : JX E nL cc own (some .boolean) F L) (hdg : decode cc pc = .ok (.ireturn, 1)) : Jg E nL (JF E vI) lv pc [.int v] σ (retz v σ) := by
  unfold retz
  by_cases h : v = 0 ∨ v = 1
  · rw [if_pos h]
    exact J_nreturn X (by rcases h with rfl | rfl <;> decide +kernel) hdg
  · rw [if_neg h]; exact J_none
theorem J_lreturn {v : Int64} (X : JX E nL cc own (some .long) F L) (hdg : decode cc pc = .ok (.lreturn, 1)) : Jg E nL (JF E vL) lv pc [.long v] σ (some (v, σ)) := by
  intro x σ' hr H locs ls hP hD hS hl
  cases hr
  refine W.widen (k := (jK E).2.2.1) (n := (jK E).2.2.2) X.2.2.2.2.2.2.1.1 X.2.2.2.2.2.2.1.2 ?_
  exact W.lret (jxx X) (jxb X) X.2.2.2.1 (fun t ht hW => ⟨⟨rfl, by rw [ht]; exact hP, va_K.moved hW.alike X.2.1, hD⟩, hS.F ht⟩) hS.2.2 hdg X.2.2.2.2.1
theorem J_return (X : JX E nL cc own none F L) (hdg : decode cc pc = .ok (.return_, 1)) : Jg E nL (JF E vV) lv pc [] σ (some ((), σ)) := by
  intro x σ' hr H locs ls hP hD hS hl
  cases hr
  refine W.widen (k := (jK E).2.2.1) (n := (jK E).2.2.2) X.2.2.2.2.2.2.1.1 X.2.2.2.2.2.2.1.2 ?_
  exact W.vret (jxx X) (jxb X) X.2.2.2.1 (fun t ht hW => ⟨⟨rfl, by rw [ht]; exact hP, va_K.moved hW.alike X.2.1, hD⟩, hS.F ht⟩) hS.2.2 hdg X.2.2.2.2.1
end JEnds
/-! CONTRACTS -/
def Con {ρ : Type} (V : JV) (val : ρ → Option Value) (l : Launch) (y : MethodName) (cc : ByteArray) (nL : Nat) (ret : Option FieldType) (F L : Nat) (As : List Value) (σ : ST) (r : Option (ρ × ST)) : Prop :=
  ∀ (x : ρ) (σ' : ST), r = some (x, σ') → ∀ sz : Nat, Met l y (Cond.code y cc nL ret :: lw_ok) { frames := F, cells := 0, slots := 0, locals := L } (va_Pc As (fun U => U.heap.size = sz ∧ va_P V.1 vwCl (V.2.2.1 σ) U.heap ∧ va_K V.1 vwCl V.2.1 U ∧ va_D (fun _ => True) (V.2.2.1 σ) ∧ V.2.2.2 (va_A (V.2.2.1 σ) sz) U)) (QJ val V (va_A (V.2.2.1 σ) sz) x σ') 0 0 (va_A (V.2.2.1 σ) sz)
theorem Con_of {ρ : Type} {V : JV} {val : ρ → Option Value} {l : Launch} {y : MethodName} {cc : ByteArray} {nL : Nat} {ret : Option FieldType} {F L : Nat} {As : List Value} {σ : ST} {r : Option (ρ × ST)} (hV : VOK V) (hy : plainName y.cls = true) (hn : (lg_sl As).length ≤ nL)
    (body : ∀ E : JE, jL E = l → jV E = V → jK E = (0, 0, 0, 0) → JX E nL cc y.cls ret F L → Jg E nL (JF E val) (lv_args 0 As) 0 [] σ r) : Con V val l y cc nL ret F L As σ r := by
  intro x σ' hr sz
  refine Met.ofW (cc := cc) (maxL := nL) (ret := ret) hy rfl ?_
  intro p e s m args below meth c s₁ B hml hv
  obtain ⟨rfl, hsz, hP, hK, hD0, hZ⟩ := hv
  have hts := atoms_spec (ws := Cond.code y cc nL ret :: lw_ok) B.pre
  subst hsz
  rw [lg_entry_eq]
  exact body ((p, l, e, { frames := F, cells := 0, slots := 0, locals := L }, s, m), (As.toArray, below, meth, c), va_A (V.2.2.1 σ) s.heap.size, V, (0, 0, 0, 0)) rfl rfl rfl ⟨⟨B.exec, B.bytes, hml, findClass_of_methodNamed B.named, fun w hw => hts w (List.mem_cons_of_mem _ hw)⟩, hK, fun q h => Or.inr h, B.returns, B.notSynchronized, rfl, ⟨Nat.le_refl _, Nat.le_refl _⟩, hV, hZ⟩ x σ' hr s.heap [] _ hP hD0.self va_S.rf (lv_entry As hn)
section JCalls
variable {E : JE} {nL F L : Nat} {cc : ByteArray} {own : String} {ret : Option FieldType} {ρ : Type} {Fi : ρ → ST → State → Prop} {lv : List (Nat × Value)} {pc : Nat} {st : List Value} {σ : ST}
theorem jA_in {A0 : Nat → Prop} {ws : va_W} {H0 H : Heap} {locs : List Loc} (hD : va_D A0 ws) (hS : va_S A0 H0 H locs) (hA : ∀ q, H0.size ≤ q → A0 q) : ∀ q, va_A ws H.size q → A0 q := by
  intro q h
  rcases h with ⟨k, e, h⟩ | h
  · exact hD.2 k (q, e) h
  · exact hA q (Nat.le_trans hS.1 h)
/-- behind a call -/
theorem J_call {ρ1 : Type} {val1 : ρ1 → Option Value} {As : List Value} {mk : Array Value} {st0 : List Value} {r1 : Option (ρ1 × ST)} {K : ρ1 → ST → Option (ρ × ST)} (X : JX E nL cc own ret F L)
    (hrun : ∀ (x : ρ1) (σ1 : ST), r1 = some (x, σ1) → ∀ (H : Heap) (locs : List Loc) (ls : Array Slot), va_P (jV E).1 vwCl ((jV E).2.2.1 σ) H → va_D (jA E) ((jV E).2.2.1 σ) → va_S (jA E) (jS E).heap H locs → lv_has ls nL lv → va_Run E.1.1 E.1.2.1 E.1.2.2.1 (jR E) (jS E) (jM E) (jG E) (jB E) (jT E) (jC E) H locs (jK E).1 (jK E).2.1 0 0 (F0 (jM E) pc ls st0) st (QJ val1 (jV E) (va_A ((jV E).2.2.1 σ) H.size) x σ1 mk) (va_A ((jV E).2.2.1 σ) H.size))
    (kk : ∀ (x : ρ1) (σ1 : ST), Jg E nL Fi lv (pc + 3) ((val1 x).toList ++ st) σ1 (K x σ1)) : Jg E nL Fi lv pc st0 σ (bnd r1 K) := by
  intro y σ' hr H locs ls hP hD hS hl
  obtain ⟨⟨x, σ1⟩, h1, hr⟩ : ∃ q : ρ1 × ST, r1 = some q ∧ K q.1 q.2 = some (y, σ') := by
    cases r1 with
    | none => cases hr
    | some q => exact ⟨q, rfl, hr⟩
  have hin := jA_in hD hS X.2.2.1
  intro T hT XX
  obtain ⟨v, st₀, t, T', Lc, h0, X', hL, e1, e2, ⟨⟨hv, hP1, hK1, hD1⟩, hz, hk⟩, stp⟩ := hrun x σ1 h1 H locs ls hP hD hS hl T hT XX
  rw [h0] at hz hk
  have hv : v = val1 x := by injection hv
  subst hv
  have hS1 : va_S (jA E) (jS E).heap T'.heap (locs ++ Lc) := ⟨Nat.le_trans hS.1 (by rw [e1]; exact hz), fun q h1 h2 => by rw [e1, hk q (Nat.lt_of_lt_of_le h1 hS.1) (fun z => h2 (hin q z))]; exact hS.2.1 q h1 h2, fun q hq => by
      rcases List.mem_append.mp hq with h | h
      · exact hS.2.2 q h
      · exact hin _ (hL q h)⟩
  obtain ⟨t2, a1, b1⟩ := kk x σ1 y σ' hr T'.heap (locs ++ Lc) ls (by rw [e1]; exact hP1) (hD1.weaken (fun k q _ h => hin q.1 h)) hS1 hl T' rfl X'
  exact ⟨t2, stp t2 a1, b1⟩
/-- a method's words as a callee -/
def WI (y : MethodName) (bytes : ByteArray) (maxL : Nat) (ret : Option FieldType) (n : Nat) : Prop := Cond.code y bytes maxL ret ∈ lw_ok ∧ Cond.initialized y.cls ∈ lw_ok ∧ (y.cls ≠ "java/lang/invoke/MethodHandle" ∧ y.cls ≠ "java/lang/invoke/VarHandle" ∧ (parseMethodDescriptor y.desc).map (fun d => d.parameters.length) = some n)
theorem J_pc {X : JX E nL cc own ret F L} {y : MethodName} {bytes : ByteArray} {maxL n index : Nat} {ret1 : Option FieldType} {F1 L1 : Nat} (hw : WI y bytes maxL ret1 n) (hlink : Cond.methodLink own index y ∈ lw_ok) (hR : F1 + 1 ≤ F ∧ 8 + (maxL + 11) + L1 ≤ L) : CallB (jR E) (jS E) (jG E) own index y bytes maxL ret1 (Cond.code y bytes maxL ret1 :: lw_ok) { frames := F1, cells := 0, slots := 0, locals := L1 } 0 0 n := by
  have hR' : jR E = _ := X.2.2.2.2.2.1
  exact callB_of n (jxt X) (lw_okG hw.1) rfl rfl rfl (jxt X _ hw.2.1) (jxt X _ hlink) hw.2.2 (by rw [hR']; exact hR)
theorem J_pre (X : JX E nL cc own ret F L) {H : Heap} {locs : List Loc} (hP : va_P (jV E).1 vwCl ((jV E).2.2.1 σ) H) (hD : va_D (jA E) ((jV E).2.2.1 σ)) (hS : va_S (jA E) (jS E).heap H locs) (As : List Value) : (FrameBlind (va_Pc As (fun U => U.heap.size = H.size ∧ va_P (jV E).1 vwCl ((jV E).2.2.1 σ) U.heap ∧ va_K (jV E).1 vwCl (jV E).2.1 U ∧ va_D (fun _ => True) ((jV E).2.2.1 σ) ∧ (jV E).2.2.2 (va_A ((jV E).2.2.1 σ) H.size) U))) ∧ ∀ U : State, U.heap = H → (jS E).WarmedH U.vm → (va_Pc As (fun U => U.heap.size = H.size ∧ va_P (jV E).1 vwCl ((jV E).2.2.1 σ) U.heap ∧ va_K (jV E).1 vwCl (jV E).2.1 U ∧ va_D (fun _ => True) ((jV E).2.2.1 σ) ∧ (jV E).2.2.2 (va_A ((jV E).2.2.1 σ) H.size) U)) As.toArray U :=
  ⟨fun a U g mk q => ⟨q.1, q.2.1, q.2.2.1, va_K.moved (u := U) (U := U.calling g mk a) (Vm.Alike.refl U.vm) q.2.2.2.1, q.2.2.2.2.1, X.2.2.2.2.2.2.2.1.2 _ U g mk a q.2.2.2.2.2⟩,
   fun U hU hW => ⟨rfl, by rw [hU], by rw [hU]; exact hP, va_K.moved hW.alike X.2.1, hD.weaken (fun _ _ _ _ => trivial), X.2.2.2.2.2.2.2.1.1 _ _ _ U locs X.2.2.2.2.2.2.2.2 (jA_in hD hS X.2.2.1) (by rw [hU]; exact hS) hW⟩⟩
theorem jfit (X : JX E nL cc own ret F L) : (jK E).1 + 0 ≤ (jR E).cells ∧ (jK E).2.1 + 0 ≤ (jR E).slots := by
  have hR' : jR E = _ := X.2.2.2.2.2.1
  rw [hR']
  exact X.2.2.2.2.2.2.1
theorem J_cV {ρ1 : Type} {val1 : ρ1 → Option Value} {As : List Value} {b q ci n index maxL F1 L1 : Nat} {y : MethodName} {bytes : ByteArray} {ret1 : Option FieldType} {fs : List Value} {rc : vw_C} {r1 : Option (ρ1 × ST)} {K : ρ1 → ST → Option (ρ × ST)} (st0 : List Value) (hst0 : st0 = As.reverse ++ .ref b :: st) (X : JX E nL cc own ret F L)
    (C : Con (jV E) val1 (jL E) y bytes maxL ret1 F1 L1 (.ref b :: As) σ r1) (hw : WI y bytes maxL ret1 n) (hi : Cond.instanceMethod y ∈ lw_ok) (hs : Cond.selects y.cls y y ∈ lw_ok) (hlink : Cond.methodLink own index y ∈ lw_ok) (hR : F1 + 1 ≤ F ∧ 8 + (maxL + 11) + L1 ≤ L)
    (hrec : ((jV E).2.2.1 σ)[q]? = some (b, .inr (ci, fs))) (hc : vwCl[ci]? = some rc) (hrc : rc.1 = y.cls) (hn : As.length = n) (hsum : (st.map fun v => v.category).sum ≤ 8) (hdg : decode cc pc = .ok (.invokevirtual index, 3))
    (kk : ∀ (x : ρ1) (σ1 : ST), Jg E nL Fi lv (pc + 3) ((val1 x).toList ++ st) σ1 (K x σ1)) : Jg E nL Fi lv pc st0 σ (bnd r1 K) := by
  refine J_call (val1 := val1) (As := As) (mk := (Value.ref b :: As).toArray) X (fun x σ1 h1 H locs ls hP hD hS hl => ?_) kk
  have hpre := J_pre X hP hD hS (.ref b :: As)
  exact va_runV (C := y.cls) (As := As) (rest := st) X.1 (C x σ1 h1 H.size) ⟨J_pc (X := X) hw hlink hR, jxt X _ hi, jxt X _ hs⟩ ⟨hpre.1, by rw [← hrc]; exact va_recv X.2.1 hP hc hrec, hpre.2⟩ rfl hn hl.1 hst0 (lv_room (pc := pc) (ls := ls) (rest := st0) (m := jM E) hsum) hdg (jfit X)
theorem J_cS {ρ1 : Type} {val1 : ρ1 → Option Value} {As : List Value} {n index maxL F1 L1 : Nat} {y : MethodName} {bytes : ByteArray} {ret1 : Option FieldType} {r1 : Option (ρ1 × ST)} {K : ρ1 → ST → Option (ρ × ST)} (st0 : List Value) (hst0 : st0 = As.reverse ++ st) (X : JX E nL cc own ret F L)
    (C : Con (jV E) val1 (jL E) y bytes maxL ret1 F1 L1 As σ r1) (hw : WI y bytes maxL ret1 n) (hs : Cond.static y ∈ lw_ok) (hlink : Cond.methodLink own index y ∈ lw_ok) (hR : F1 + 1 ≤ F ∧ 8 + (maxL + 11) + L1 ≤ L)
    (hn : As.length = n) (hsum : (st.map fun v => v.category).sum ≤ 8) (hdg : decode cc pc = .ok (.invokestatic index, 3))
    (kk : ∀ (x : ρ1) (σ1 : ST), Jg E nL Fi lv (pc + 3) ((val1 x).toList ++ st) σ1 (K x σ1)) : Jg E nL Fi lv pc st0 σ (bnd r1 K) := by
  refine J_call (val1 := val1) (As := As) (mk := As.toArray) X (fun x σ1 h1 H locs ls hP hD hS hl => ?_) kk
  have hpre := J_pre X hP hD hS As
  exact va_runS (As := As) (rest := st) X.1 (C x σ1 h1 H.size) ⟨J_pc (X := X) hw hlink hR, jxt X _ hs⟩ ⟨hpre.1, hpre.2⟩ rfl hn hl.1 hst0 (lv_room (pc := pc) (ls := ls) (rest := st0) (m := jM E) hsum) hdg (jfit X)
end JCalls
