/-! THE STRING CONSTANTS: i < 13 names one; the JDK's own members on them -/
noncomputable section
def sLn (i : Nat) : Nat := sLen.getD i 0
def sBy (i : Nat) : Nat → Int32 := fun j => (sByt.getD i []).getD j 0
def retc (z : Int32) (σ : ST) : Option (Int32 × ST) := if (z.toUInt32 % 65536).toInt32 = z then some (z, σ) else none
def f_J0_coder (σ : ST) : Option (Int32 × ST) := if (1 : Int32) = 0 then none else some ((0 : Int32), σ)
def f_J0_isLatin1 (σ : ST) : Option (Int32 × ST) := if (1 : Int32) = 0 then none else if (0 : Int32) = 0 then some ((1 : Int32), σ) else none
def f_J0_length (i : Nat) (σ : ST) : Option (Int32 × ST) := bnd (f_J0_coder σ) (fun y s => some (Int32.ofNat (sLn i) >>> (y &&& 31), s))
def f_J3_checkIndex (a b : Int32) (σ : ST) : Option (Int32 × ST) := if a < 0 then none else if a < b then some (a, σ) else none
def f_J0_checkIndex (a b : Int32) (σ : ST) : Option (Unit × ST) := bnd (f_J3_checkIndex a b σ) (fun _ s => some ((), s))
def f_J1_charAt (i : Nat) (k : Int32) (σ : ST) : Option (Int32 × ST) := bnd (f_J0_checkIndex k (Int32.ofNat (sLn i)) σ) (fun _ s => ald (sBy i) (sLn i) k (fun x => retc ((x &&& (255 : Int32)).toUInt32 % 65536).toInt32 s))
def f_J0_charAt (i : Nat) (k : Int32) (σ : ST) : Option (Int32 × ST) := bnd (f_J0_isLatin1 σ) (fun y s => if y = 0 then none else bnd (f_J1_charAt i k s) (fun z s2 => retc z s2))
end
def vK (G : JG) : Nat → Option Value := fun i => some (.ref (gK G i))
section SRows
variable {E : JE} {nL F L : Nat} {cc : ByteArray} {own : String} {ret : Option FieldType} {G : JG} {ρ : Type} {Fi : ρ → ST → State → Prop} {lv lv' : List (Nat × Value)} {pc : Nat} {st : List Value} {σ : ST} {r : Option (ρ × ST)}
theorem S_gets {index : Nat} (X : JT E nL cc own ret F L G) (hlink : Cond.fieldLink own index RJ0 "COMPACT_STRINGS" "Z" ∈ lw_ok) (hdg : decode cc pc = .ok (.getstatic index, 3)) (kk : Jg E nL Fi lv (pc + 3) (.int 1 :: st) σ r) : Jg E nL Fi lv pc st σ r :=
  fun x σ' hr H locs ls hP hD hS hl => va_gets (jxx X.1) (jxb X.1) (P_Z X).2.2.2.1 hS (jxo X.1) (jxt X.1 _ hlink) (fun _ h => h) hdg (kk x σ' hr H locs ls hP hD hS hl)
theorem S_getq {index : Nat} (X : JT E nL cc own ret F L G) (hlink : Cond.fieldLink own index RJ3 "SIOOBE_FORMATTER" "Ljava/util/function/BiFunction;" ∈ lw_ok) (hdg : decode cc pc = .ok (.getstatic index, 3)) (kk : ∀ v : Value, (v = .null ∨ ∃ t, v = .ref t) → Jg E nL Fi lv (pc + 3) (v :: st) σ r) : Jg E nL Fi lv pc st σ r := by
  intro x σ' hr H locs ls hP hD hS hl
  rcases (P_Z X).2.2.2.2 with h | ⟨t, h⟩
  · exact va_gets (jxx X.1) (jxb X.1) h hS (jxo X.1) (jxt X.1 _ hlink) (fun _ h => h) hdg (kk .null (Or.inl rfl) x σ' hr H locs ls hP hD hS hl)
  · exact va_gets (jxx X.1) (jxb X.1) h hS (jxo X.1) (jxt X.1 _ hlink) (fun _ h => h) hdg (kk (.ref t) (Or.inr ⟨t, rfl⟩) x σ' hr H locs ls hP hD hS hl)
theorem S_getc {i index : Nat} (hi : i < 13) (X : JT E nL cc own ret F L G) (hlink : Cond.fieldLink own index "java/lang/String" "coder" "B" ∈ lw_ok) (hdg : decode cc pc = .ok (.getfield index, 3)) (kk : Jg E nL Fi lv (pc + 3) (.int 0 :: st) σ r) : Jg E nL Fi lv pc (.ref (gK G i) :: st) σ r :=
  fun x σ' hr H locs ls hP hD hS hl => vk_getf (jxx X.1) (jxb X.1) ((P_Z X).2.2.1.1 i hi).2.1 hS (jxo X.1) (jxt X.1 _ hlink) (fun _ h => h) hdg (kk x σ' hr H locs ls hP hD hS hl)
theorem S_getv {i index : Nat} (hi : i < 13) (X : JT E nL cc own ret F L G) (hlink : Cond.fieldLink own index "java/lang/String" "value" "[B" ∈ lw_ok) (hdg : decode cc pc = .ok (.getfield index, 3)) (kk : Jg E nL Fi lv (pc + 3) (.ref (gV G i) :: st) σ r) : Jg E nL Fi lv pc (.ref (gK G i) :: st) σ r :=
  fun x σ' hr H locs ls hP hD hS hl => vk_getf (jxx X.1) (jxb X.1) ((P_Z X).2.2.1.1 i hi).2.2.1 hS (jxo X.1) (jxt X.1 _ hlink) (fun _ h => h) hdg (kk x σ' hr H locs ls hP hD hS hl)
theorem S_alen {i : Nat} (hi : i < 13) (X : JT E nL cc own ret F L G) (hdg : decode cc pc = .ok (.arraylength, 1)) (kk : Jg E nL Fi lv (pc + 1) (.int (Int32.ofNat (sLn i)) :: st) σ r) : Jg E nL Fi lv pc (.ref (gV G i) :: st) σ r :=
  fun x σ' hr H locs ls hP hD hS hl => va_tlen (jxx X.1) (jxb X.1) ((P_Z X).2.2.1.1 i hi).2.2.2 hS rfl hdg (kk x σ' hr H locs ls hP hD hS hl)
theorem S_bald {i : Nat} {k : Int32} {K : Int32 → Option (ρ × ST)} (hi : i < 13) (X : JT E nL cc own ret F L G) (hdg : decode cc pc = .ok (.baload, 1)) (kk : ∀ x : Int32, Jg E nL Fi lv (pc + 1) (.int x :: st) σ (K x)) : Jg E nL Fi lv pc (.int k :: .ref (gV G i) :: st) σ (ald (sBy i) (sLn i) k K) := by
  intro x σ' hr H locs ls hP hD hS hl
  unfold ald at hr
  by_cases h : k < 0 ∨ sLn i ≤ k.toNatClampNeg
  · rw [if_pos h] at hr; cases hr
  · rw [if_neg h] at hr
    exact va_tb (v := .int (sBy i k.toNatClampNeg)) (jxx X.1) (jxb X.1) ((P_Z X).2.2.1.1 i hi).2.2.2 hS h rfl hdg (kk _ x σ' hr H locs ls hP hD hS hl)
theorem S_cVi {As : List Value} {i n index maxL F1 L1 : Nat} {y : MethodName} {bytes : ByteArray} {ret1 : Option FieldType} {r1 : Option (Int32 × ST)} {K : Int32 → ST → Option (ρ × ST)} {st0 : List Value} (hi9 : i < 13) (hst0 : st0 = As.reverse ++ .ref (gK G i) :: st) (X : JT E nL cc own ret F L G) (C : Con (jV E) vI G.1 y bytes maxL ret1 F1 L1 (.ref (gK G i) :: As) σ r1) (hy : y.cls = "java/lang/String") (hw : WI y bytes maxL ret1 n) (hi : Cond.instanceMethod y ∈ lw_ok) (hs : Cond.selects y.cls y y ∈ lw_ok) (hlink : Cond.methodLink own index y ∈ lw_ok) (hR : F1 + 1 ≤ F ∧ 8 + (maxL + 11) + L1 ≤ L) (hn : As.length = n) (hsum : (st.map fun v => v.category).sum ≤ 8) (hdg : decode cc pc = .ok (.invokevirtual index, 3)) (kk : ∀ (x : Int32) (σ1 : ST), Jg E nL Fi lv (pc + 3) (.int x :: st) σ1 (K x σ1)) : Jg E nL Fi lv pc st0 σ (bnd r1 K) := by
  refine J_call (val1 := vI) (As := As) (mk := (Value.ref (gK G i) :: As).toArray) X.1 (fun x σ1 h1 H locs ls hP hD hS hl => ?_) kk
  have hpre := J_pre X.1 hP hD hS (.ref (gK G i) :: As)
  have C' : Con (jV E) vI (jL E) y bytes maxL ret1 F1 L1 (.ref (gK G i) :: As) σ r1 := by rw [X.2.1]; exact C
  exact va_runV (C := y.cls) (As := As) (rest := st) X.1.1 (C' x σ1 h1 H.size) ⟨J_pc (X := X.1) hw hlink hR, jxt X.1 _ hi, jxt X.1 _ hs⟩ ⟨hpre.1, by rw [hy]; exact vk_recv (P_Z X).2.2.1 hi9 hS, hpre.2⟩ rfl hn hl.1 hst0 (lv_room (pc := pc) (ls := ls) (rest := st0) (m := jM E) hsum) hdg (jfit X.1)
theorem S_ldc {i index : Nat} {tx : String} (X : JT E nL cc own ret F L G) (hZ : vk_R own index tx (gK G i) (jS E)) (hdg : decode cc pc = .ok (.ldc index, 2)) (kk : Jg E nL Fi lv (pc + 2) (.ref (gK G i) :: st) σ r) : Jg E nL Fi lv pc st σ r := Jstep (fun H locs Q ls hl k => va_ldcS (jxx X.1) (jxb X.1) (jxo X.1) hZ hdg (k ls hl)) kk
theorem S_R (X : JT E nL cc own ret F L G) : ZR G (jS E) := (P_Z X).2.1
end SRows
section SEnds
variable {E : JE} {nL F L : Nat} {cc : ByteArray} {own : String} {G : JG} {lv : List (Nat × Value)} {pc : Nat} {σ : ST}
theorem narrow_char (z : Int32) : narrow .char (.int z) = .int (z.toUInt32 % 65536).toInt32 := rfl
theorem J_creturn {v : Int32} (X : JX E nL cc own (some .char) F L) (hdg : decode cc pc = .ok (.ireturn, 1)) : Jg E nL (JF E vI) lv pc [.int v] σ (retc v σ) := by
  unfold retc
  by_cases h : (v.toUInt32 % 65536).toInt32 = v
  · rw [if_pos h]
    exact J_nreturn X (by rw [narrow_char, h]) hdg
  · rw [if_neg h]; exact J_none
theorem J_areturn {C : String} {i : Nat} (X : JX E nL cc own (some (.object C)) F L) (hdg : decode cc pc = .ok (.areturn, 1)) : Jg E nL (JF E (vK G)) lv pc [.ref (gK G i)] σ (some (i, σ)) := by
  intro x σ' hr H locs ls hP hD hS hl
  cases hr
  refine W.widen (k := (jK E).2.2.1) (n := (jK E).2.2.2) X.2.2.2.2.2.2.1.1 X.2.2.2.2.2.2.1.2 ?_
  exact W.aret (jxx X) (jxb X) X.2.2.2.1 (Or.inl ⟨_, rfl⟩) (Or.inr ⟨_, rfl⟩) (fun t ht hW => ⟨⟨rfl, by rw [ht]; exact hP, va_K.moved hW.alike X.2.1, hD⟩, hS.F ht⟩) hS.2.2 hdg X.2.2.2.2.1
end SEnds
theorem c_J0_coder (G : JG) {V : JV} (hV : TPok V G) (i : Nat) (hi : i < 13) (σ : ST) : Con V vI G.1 yJ0_coder_7d493 cJ0_coder_7d493 1 (some .byte) 0 0 [.ref (gK G i)] σ (f_J0_coder σ) := by
  refine Con_of hV.1 (by decide +kernel) (Nat.le_of_ble_eq_true rfl) (fun E e1 e2 _ Y => ?_)
  have X : JT E 1 cJ0_coder_7d493 RJ0 (some .byte) 0 0 G := ⟨Y, e1, by rw [e2]; exact hV⟩
  unfold f_J0_coder
  refine S_gets X wfl_RJ0_38 dJ0_coder_7d493_0 ?_
  refine J_if_eq (tgt := 13) Y dJ0_coder_7d493_3 (by decide) J_none ?_
  refine J_aload_n Y 0 dJ0_coder_7d493_6 rfl rfl ?_
  refine S_getc hi X wfl_RJ0_15 dJ0_coder_7d493_7 ?_
  refine J_goto (tgt := 14) Y dJ0_coder_7d493_10 (by decide) ?_
  exact J_nreturn Y (by decide +kernel) dJ0_coder_7d493_14
theorem c_J0_isLatin1 (G : JG) {V : JV} (hV : TPok V G) (i : Nat) (hi : i < 13) (σ : ST) : Con V vI G.1 yJ0_isLatin1_aae02 cJ0_isLatin1_aae02 1 (some .boolean) 0 0 [.ref (gK G i)] σ (f_J0_isLatin1 σ) := by
  refine Con_of hV.1 (by decide +kernel) (Nat.le_of_ble_eq_true rfl) (fun E e1 e2 _ Y => ?_)
  have X : JT E 1 cJ0_isLatin1_aae02 RJ0 (some .boolean) 0 0 G := ⟨Y, e1, by rw [e2]; exact hV⟩
  unfold f_J0_isLatin1
  refine S_gets X wfl_RJ0_38 dJ0_isLatin1_aae02_0 ?_
  refine J_if_eq (tgt := 17) Y dJ0_isLatin1_aae02_3 (by decide) J_none ?_
  refine J_aload_n Y 0 dJ0_isLatin1_aae02_6 rfl rfl ?_
  refine S_getc hi X wfl_RJ0_15 dJ0_isLatin1_aae02_7 ?_
  refine J_if_ne (tgt := 17) Y dJ0_isLatin1_aae02_10 (by decide) J_none ?_
  refine J_iconst (v := (1 : Int32)) Y dJ0_isLatin1_aae02_13 (by decide) ?_
  refine J_goto (tgt := 18) Y dJ0_isLatin1_aae02_14 (by decide) ?_
  exact J_nreturn Y (by decide +kernel) dJ0_isLatin1_aae02_18
theorem c_J0_length (G : JG) {V : JV} (hV : TPok V G) (i : Nat) (hi : i < 13) (σ : ST) : Con V vI G.1 yJ0_length_8abf5 cJ0_length_8abf5 1 (some .int) 1 40 [.ref (gK G i)] σ (f_J0_length i σ) := by
  refine Con_of hV.1 (by decide +kernel) (Nat.le_of_ble_eq_true rfl) (fun E e1 e2 _ Y => ?_)
  have X : JT E 1 cJ0_length_8abf5 RJ0 (some .int) 1 40 G := ⟨Y, e1, by rw [e2]; exact hV⟩
  unfold f_J0_length
  refine J_aload_n Y 0 dJ0_length_8abf5_0 rfl rfl ?_
  refine S_getv hi X wfl_RJ0_9 dJ0_length_8abf5_1 ?_
  refine S_alen hi X dJ0_length_8abf5_4 ?_
  refine J_aload_n Y 0 dJ0_length_8abf5_5 rfl rfl ?_
  refine S_cVi (As := []) (st := [.int (Int32.ofNat (sLn i))]) hi rfl X (c_J0_coder G X.2.2 i hi _) rfl wi_J0_coder_7d493 win_J0_coder_7d493 wse_J0_coder_7d493 wml_RJ0_335 ⟨Nat.le_of_ble_eq_true rfl, Nat.le_of_ble_eq_true rfl⟩ rfl (Nat.le_of_ble_eq_true rfl) dJ0_length_8abf5_6 (fun y6 t6 => ?_)
  refine J_ishr Y dJ0_length_8abf5_9 ?_
  exact J_ireturn Y dJ0_length_8abf5_10
theorem c_J3_checkIndex (G : JG) {V : JV} (hV : TPok V G) (a b : Int32) (v : Value) (hv : v = .null ∨ ∃ t, v = .ref t) (σ : ST) : Con V vI G.1 yJ3_checkIndex_8e157 cJ3_checkIndex_8e157 3 (some .int) 0 0 [.int a, .int b, v] σ (f_J3_checkIndex a b σ) := by
  have main : ∀ (E : JE) (Y : JX E 3 cJ3_checkIndex_8e157 RJ3 (some .int) 0 0), Jg E 3 (JF E vI) [(0, .int a), (1, .int b), (2, v)] 0 [] σ (f_J3_checkIndex a b σ) := by
    intro E Y
    unfold f_J3_checkIndex
    refine J_iload_n Y 0 dJ3_checkIndex_8e157_0 rfl rfl ?_
    refine J_if_lt (tgt := 9) Y dJ3_checkIndex_8e157_1 (by decide) J_none ?_
    refine J_iload_n Y 0 dJ3_checkIndex_8e157_4 rfl rfl ?_
    refine J_iload_n Y 1 dJ3_checkIndex_8e157_5 rfl rfl ?_
    refine J_icmp_lt (tgt := 16) Y dJ3_checkIndex_8e157_6 (by decide) ?_ J_none
    refine J_iload_n Y 0 dJ3_checkIndex_8e157_16 rfl rfl ?_
    exact J_ireturn Y dJ3_checkIndex_8e157_17
  rcases hv with rfl | ⟨t, rfl⟩
  · exact Con_of hV.1 (by decide +kernel) (Nat.le_of_ble_eq_true rfl) (fun E e1 e2 _ Y => main E Y)
  · exact Con_of hV.1 (by decide +kernel) (Nat.le_of_ble_eq_true rfl) (fun E e1 e2 _ Y => main E Y)
theorem c_J0_checkIndex (G : JG) {V : JV} (hV : TPok V G) (a b : Int32) (σ : ST) : Con V vV G.1 yJ0_checkIndex_df160 cJ0_checkIndex_df160 2 none 1 40 [.int a, .int b] σ (f_J0_checkIndex a b σ) := by
  refine Con_of hV.1 (by decide +kernel) (Nat.le_of_ble_eq_true rfl) (fun E e1 e2 _ Y => ?_)
  have X : JT E 2 cJ0_checkIndex_df160 RJ0 none 1 40 G := ⟨Y, e1, by rw [e2]; exact hV⟩
  unfold f_J0_checkIndex
  refine J_iload_n Y 0 dJ0_checkIndex_df160_0 rfl rfl ?_
  refine J_iload_n Y 1 dJ0_checkIndex_df160_1 rfl rfl ?_
  refine S_getq X wfl_RJ0_1053 dJ0_checkIndex_df160_2 (fun v hv => ?_)
  refine P_cSi (As := [.int a, .int b, v]) (st := []) rfl X (c_J3_checkIndex G X.2.2 a b v hv _) wi_J3_checkIndex_8e157 wst_J3_checkIndex_8e157 wml_RJ0_1059 ⟨Nat.le_of_ble_eq_true rfl, Nat.le_of_ble_eq_true rfl⟩ rfl (Nat.le_of_ble_eq_true rfl) dJ0_checkIndex_df160_5 (fun y5 t5 => ?_)
  refine J_pop Y dJ0_checkIndex_df160_8 rfl ?_
  exact J_return Y dJ0_checkIndex_df160_9
theorem c_J1_charAt (G : JG) {V : JV} (hV : TPok V G) (i : Nat) (hi : i < 13) (k : Int32) (σ : ST) : Con V vI G.1 yJ1_charAt_3b067 cJ1_charAt_3b067 2 (some .char) 2 80 [.ref (gV G i), .int k] σ (f_J1_charAt i k σ) := by
  refine Con_of hV.1 (by decide +kernel) (Nat.le_of_ble_eq_true rfl) (fun E e1 e2 _ Y => ?_)
  have X : JT E 2 cJ1_charAt_3b067 RJ1 (some .char) 2 80 G := ⟨Y, e1, by rw [e2]; exact hV⟩
  unfold f_J1_charAt
  refine J_iload_n Y 1 dJ1_charAt_3b067_0 rfl rfl ?_
  refine J_aload_n Y 0 dJ1_charAt_3b067_1 rfl rfl ?_
  refine S_alen hi X dJ1_charAt_3b067_2 ?_
  refine P_cSv (As := [.int k, .int (Int32.ofNat (sLn i))]) (st := []) rfl X (c_J0_checkIndex G X.2.2 k (Int32.ofNat (sLn i)) _) wi_J0_checkIndex_df160 wst_J0_checkIndex_df160 wml_RJ1_9 ⟨Nat.le_of_ble_eq_true rfl, Nat.le_of_ble_eq_true rfl⟩ rfl (Nat.le_of_ble_eq_true rfl) dJ1_charAt_3b067_3 (fun t3 => ?_)
  refine J_aload_n Y 0 dJ1_charAt_3b067_6 rfl rfl ?_
  refine J_iload_n Y 1 dJ1_charAt_3b067_7 rfl rfl ?_
  refine S_bald hi X dJ1_charAt_3b067_8 (fun x8 => ?_)
  refine J_sipush (v := (255 : Int32)) Y dJ1_charAt_3b067_9 (by decide) ?_
  refine J_iand Y dJ1_charAt_3b067_12 ?_
  refine J_i2c Y dJ1_charAt_3b067_13 ?_
  exact J_creturn Y dJ1_charAt_3b067_14
theorem c_J0_charAt (G : JG) {V : JV} (hV : TPok V G) (i : Nat) (hi : i < 13) (k : Int32) (σ : ST) : Con V vI G.1 yJ0_charAt_5068e cJ0_charAt_5068e 2 (some .char) 3 120 [.ref (gK G i), .int k] σ (f_J0_charAt i k σ) := by
  refine Con_of hV.1 (by decide +kernel) (Nat.le_of_ble_eq_true rfl) (fun E e1 e2 _ Y => ?_)
  have X : JT E 2 cJ0_charAt_5068e RJ0 (some .char) 3 120 G := ⟨Y, e1, by rw [e2]; exact hV⟩
  unfold f_J0_charAt
  refine J_aload_n Y 0 dJ0_charAt_5068e_0 rfl rfl ?_
  refine S_cVi (As := []) (st := []) hi rfl X (c_J0_isLatin1 G X.2.2 i hi _) rfl wi_J0_isLatin1_aae02 win_J0_isLatin1_aae02 wse_J0_isLatin1_aae02 wml_RJ0_492 ⟨Nat.le_of_ble_eq_true rfl, Nat.le_of_ble_eq_true rfl⟩ rfl (Nat.le_of_ble_eq_true rfl) dJ0_charAt_5068e_1 (fun y1 t1 => ?_)
  refine J_if_eq (tgt := 16) Y dJ0_charAt_5068e_4 (by decide) J_none ?_
  refine J_aload_n Y 0 dJ0_charAt_5068e_7 rfl rfl ?_
  refine S_getv hi X wfl_RJ0_9 dJ0_charAt_5068e_8 ?_
  refine J_iload_n Y 1 dJ0_charAt_5068e_11 rfl rfl ?_
  refine P_cSi (As := [.ref (gV G i), .int k]) (st := []) rfl X (c_J1_charAt G X.2.2 i hi k _) wi_J1_charAt_3b067 wst_J1_charAt_3b067 wml_RJ0_495 ⟨Nat.le_of_ble_eq_true rfl, Nat.le_of_ble_eq_true rfl⟩ rfl (Nat.le_of_ble_eq_true rfl) dJ0_charAt_5068e_12 (fun y12 t12 => ?_)
  exact J_creturn Y dJ0_charAt_5068e_15
