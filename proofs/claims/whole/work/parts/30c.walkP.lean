theorem C_cSk {E : JE} {nL F L : Nat} {cc : ByteArray} {own : String} {ret : Option FieldType} {G : JG} {ρ : Type} {Fi : ρ → ST → State → Prop} {lv : List (Nat × Value)} {pc : Nat} {st : List Value} {σ : ST} {As : List Value} {n index maxL F1 L1 : Nat} {y : MethodName} {bytes : ByteArray} {ret1 : Option FieldType} {r1 : Option (Nat × ST)} {K : Nat → ST → Option (ρ × ST)} {st0 : List Value} (hst0 : st0 = As.reverse ++ st) (X : JT E nL cc own ret F L G) (C : Con (jV E) (vK G) G.1 y bytes maxL ret1 F1 L1 As σ r1) (hw : WI y bytes maxL ret1 n) (hs : Cond.static y ∈ lw_ok) (hlink : Cond.methodLink own index y ∈ lw_ok) (hR : F1 + 1 ≤ F ∧ 8 + (maxL + 11) + L1 ≤ L) (hn : As.length = n) (hsum : (st.map fun v => v.category).sum ≤ 8) (hdg : decode cc pc = .ok (.invokestatic index, 3)) (kk : ∀ (x : Nat) (σ1 : ST), Jg E nL Fi lv (pc + 3) (.ref (gK G x) :: st) σ1 (K x σ1)) : Jg E nL Fi lv pc st0 σ (bnd r1 K) :=
  J_cS (val1 := vK G) (As := As) st0 hst0 X.1 (by rw [X.2.1]; exact C) hw hs hlink hR hn hsum hdg kk
set_option maxRecDepth 100000 in
set_option maxHeartbeats 4000000 in
theorem j_X2_isLetter_L17 {E : JE} {G : JG} (X : JT E 1 cX2_isLetter RX2 (some .boolean) 0 0 G) (s0 : Int32) (σ : ST) : Jg E 1 (JF E vI) [] 17 [.int s0] σ (f_X2_isLetter_L17 (gT G) s0 σ) := by
  have Y := X.1
  unfold f_X2_isLetter_L17
  exact J_zreturn Y dX2_isLetter_17
set_option maxRecDepth 100000 in
set_option maxHeartbeats 4000000 in
theorem j_X2_isLetter_L16 {E : JE} {G : JG} (X : JT E 1 cX2_isLetter RX2 (some .boolean) 0 0 G) (σ : ST) : Jg E 1 (JF E vI) [] 16 [] σ (f_X2_isLetter_L16 (gT G) σ) := by
  have Y := X.1
  unfold f_X2_isLetter_L16
  refine J_iconst (v := (0 : Int32)) Y dX2_isLetter_16 (by decide) ?_
  exact j_X2_isLetter_L17 X (0 : Int32) σ
set_option maxRecDepth 100000 in
set_option maxHeartbeats 4000000 in
theorem j_X2_isLetter {E : JE} {G : JG} (X : JT E 1 cX2_isLetter RX2 (some .boolean) 0 0 G) (v0 : Int32) (σ : ST) : Jg E 1 (JF E vI) [(0, .int v0)] 0 [] σ (f_X2_isLetter (gT G) v0 σ) := by
  have Y := X.1
  unfold f_X2_isLetter
  refine J_iload_n Y 0 dX2_isLetter_0 rfl rfl ?_
  refine J_bipush (v := (97 : Int32)) Y dX2_isLetter_1 (by decide) ?_
  refine J_icmp_lt (tgt := 16) Y dX2_isLetter_3 (by decide) ?_ ?_
  · refine J_sub [] rfl ?_
    exact j_X2_isLetter_L16 X  σ
  · refine J_iload_n Y 0 dX2_isLetter_6 rfl rfl ?_
    refine J_bipush (v := (122 : Int32)) Y dX2_isLetter_7 (by decide) ?_
    refine J_icmp_gt (tgt := 16) Y dX2_isLetter_9 (by decide) ?_ ?_
    · refine J_sub [] rfl ?_
      exact j_X2_isLetter_L16 X  σ
    · refine J_iconst (v := (1 : Int32)) Y dX2_isLetter_12 (by decide) ?_
      refine J_goto (tgt := 17) Y dX2_isLetter_13 (by decide) ?_
      refine J_sub [] rfl ?_
      exact j_X2_isLetter_L17 X (1 : Int32) σ
theorem c_X2_isLetter (G : JG) {V : JV} (hV : TPok V G) (v0 : Int32) (σ : ST) : Con V vI G.1 yX2_isLetter cX2_isLetter 1 (some .boolean) 0 0 [.int v0] σ (f_X2_isLetter (gT G) v0 σ) :=
  Con_of hV.1 (by decide +kernel) (Nat.le_of_ble_eq_true rfl) (fun E e1 e2 _ X => j_X2_isLetter ⟨X, e1, by rw [e2]; exact hV⟩ v0 σ)
set_option maxRecDepth 100000 in
set_option maxHeartbeats 4000000 in
theorem j_X2_isDigit_L17 {E : JE} {G : JG} (X : JT E 1 cX2_isDigit RX2 (some .boolean) 0 0 G) (s0 : Int32) (σ : ST) : Jg E 1 (JF E vI) [] 17 [.int s0] σ (f_X2_isDigit_L17 (gT G) s0 σ) := by
  have Y := X.1
  unfold f_X2_isDigit_L17
  exact J_zreturn Y dX2_isDigit_17
set_option maxRecDepth 100000 in
set_option maxHeartbeats 4000000 in
theorem j_X2_isDigit_L16 {E : JE} {G : JG} (X : JT E 1 cX2_isDigit RX2 (some .boolean) 0 0 G) (σ : ST) : Jg E 1 (JF E vI) [] 16 [] σ (f_X2_isDigit_L16 (gT G) σ) := by
  have Y := X.1
  unfold f_X2_isDigit_L16
  refine J_iconst (v := (0 : Int32)) Y dX2_isDigit_16 (by decide) ?_
  exact j_X2_isDigit_L17 X (0 : Int32) σ
set_option maxRecDepth 100000 in
set_option maxHeartbeats 4000000 in
theorem j_X2_isDigit {E : JE} {G : JG} (X : JT E 1 cX2_isDigit RX2 (some .boolean) 0 0 G) (v0 : Int32) (σ : ST) : Jg E 1 (JF E vI) [(0, .int v0)] 0 [] σ (f_X2_isDigit (gT G) v0 σ) := by
  have Y := X.1
  unfold f_X2_isDigit
  refine J_iload_n Y 0 dX2_isDigit_0 rfl rfl ?_
  refine J_bipush (v := (48 : Int32)) Y dX2_isDigit_1 (by decide) ?_
  refine J_icmp_lt (tgt := 16) Y dX2_isDigit_3 (by decide) ?_ ?_
  · refine J_sub [] rfl ?_
    exact j_X2_isDigit_L16 X  σ
  · refine J_iload_n Y 0 dX2_isDigit_6 rfl rfl ?_
    refine J_bipush (v := (57 : Int32)) Y dX2_isDigit_7 (by decide) ?_
    refine J_icmp_gt (tgt := 16) Y dX2_isDigit_9 (by decide) ?_ ?_
    · refine J_sub [] rfl ?_
      exact j_X2_isDigit_L16 X  σ
    · refine J_iconst (v := (1 : Int32)) Y dX2_isDigit_12 (by decide) ?_
      refine J_goto (tgt := 17) Y dX2_isDigit_13 (by decide) ?_
      refine J_sub [] rfl ?_
      exact j_X2_isDigit_L17 X (1 : Int32) σ
theorem c_X2_isDigit (G : JG) {V : JV} (hV : TPok V G) (v0 : Int32) (σ : ST) : Con V vI G.1 yX2_isDigit cX2_isDigit 1 (some .boolean) 0 0 [.int v0] σ (f_X2_isDigit (gT G) v0 σ) :=
  Con_of hV.1 (by decide +kernel) (Nat.le_of_ble_eq_true rfl) (fun E e1 e2 _ X => j_X2_isDigit ⟨X, e1, by rw [e2]; exact hV⟩ v0 σ)
set_option maxRecDepth 100000 in
set_option maxHeartbeats 4000000 in
theorem j_X2_isSign_L53 {E : JE} {G : JG} (X : JT E 1 cX2_isSign RX2 (some .boolean) 0 0 G) (s0 : Int32) (σ : ST) : Jg E 1 (JF E vI) [] 53 [.int s0] σ (f_X2_isSign_L53 (gT G) s0 σ) := by
  have Y := X.1
  unfold f_X2_isSign_L53
  exact J_zreturn Y dX2_isSign_53
set_option maxRecDepth 100000 in
set_option maxHeartbeats 4000000 in
theorem j_X2_isSign_L48 {E : JE} {G : JG} (X : JT E 1 cX2_isSign RX2 (some .boolean) 0 0 G) (σ : ST) : Jg E 1 (JF E vI) [] 48 [] σ (f_X2_isSign_L48 (gT G) σ) := by
  have Y := X.1
  unfold f_X2_isSign_L48
  refine J_iconst (v := (1 : Int32)) Y dX2_isSign_48 (by decide) ?_
  refine J_goto (tgt := 53) Y dX2_isSign_49 (by decide) ?_
  exact j_X2_isSign_L53 X (1 : Int32) σ
set_option maxRecDepth 100000 in
set_option maxHeartbeats 4000000 in
theorem j_X2_isSign {E : JE} {G : JG} (X : JT E 1 cX2_isSign RX2 (some .boolean) 0 0 G) (v0 : Int32) (σ : ST) : Jg E 1 (JF E vI) [(0, .int v0)] 0 [] σ (f_X2_isSign (gT G) v0 σ) := by
  have Y := X.1
  unfold f_X2_isSign
  refine J_iload_n Y 0 dX2_isSign_0 rfl rfl ?_
  refine J_bipush (v := (40 : Int32)) Y dX2_isSign_1 (by decide) ?_
  refine J_icmp_eq (tgt := 48) Y dX2_isSign_3 (by decide) ?_ ?_
  · refine J_sub [] rfl ?_
    exact j_X2_isSign_L48 X  σ
  · refine J_iload_n Y 0 dX2_isSign_6 rfl rfl ?_
    refine J_bipush (v := (41 : Int32)) Y dX2_isSign_7 (by decide) ?_
    refine J_icmp_eq (tgt := 48) Y dX2_isSign_9 (by decide) ?_ ?_
    · refine J_sub [] rfl ?_
      exact j_X2_isSign_L48 X  σ
    · refine J_iload_n Y 0 dX2_isSign_12 rfl rfl ?_
      refine J_bipush (v := (59 : Int32)) Y dX2_isSign_13 (by decide) ?_
      refine J_icmp_eq (tgt := 48) Y dX2_isSign_15 (by decide) ?_ ?_
      · refine J_sub [] rfl ?_
        exact j_X2_isSign_L48 X  σ
      · refine J_iload_n Y 0 dX2_isSign_18 rfl rfl ?_
        refine J_bipush (v := (43 : Int32)) Y dX2_isSign_19 (by decide) ?_
        refine J_icmp_eq (tgt := 48) Y dX2_isSign_21 (by decide) ?_ ?_
        · refine J_sub [] rfl ?_
          exact j_X2_isSign_L48 X  σ
        · refine J_iload_n Y 0 dX2_isSign_24 rfl rfl ?_
          refine J_bipush (v := (45 : Int32)) Y dX2_isSign_25 (by decide) ?_
          refine J_icmp_eq (tgt := 48) Y dX2_isSign_27 (by decide) ?_ ?_
          · refine J_sub [] rfl ?_
            exact j_X2_isSign_L48 X  σ
          · refine J_iload_n Y 0 dX2_isSign_30 rfl rfl ?_
            refine J_bipush (v := (42 : Int32)) Y dX2_isSign_31 (by decide) ?_
            refine J_icmp_eq (tgt := 48) Y dX2_isSign_33 (by decide) ?_ ?_
            · refine J_sub [] rfl ?_
              exact j_X2_isSign_L48 X  σ
            · refine J_iload_n Y 0 dX2_isSign_36 rfl rfl ?_
              refine J_bipush (v := (60 : Int32)) Y dX2_isSign_37 (by decide) ?_
              refine J_icmp_eq (tgt := 48) Y dX2_isSign_39 (by decide) ?_ ?_
              · refine J_sub [] rfl ?_
                exact j_X2_isSign_L48 X  σ
              · refine J_iload_n Y 0 dX2_isSign_42 rfl rfl ?_
                refine J_bipush (v := (61 : Int32)) Y dX2_isSign_43 (by decide) ?_
                refine J_icmp_ne (tgt := 52) Y dX2_isSign_45 (by decide) ?_ ?_
                · refine J_iconst (v := (0 : Int32)) Y dX2_isSign_52 (by decide) ?_
                  refine J_sub [] rfl ?_
                  exact j_X2_isSign_L53 X (0 : Int32) σ
                · refine J_sub [] rfl ?_
                  exact j_X2_isSign_L48 X  σ
theorem c_X2_isSign (G : JG) {V : JV} (hV : TPok V G) (v0 : Int32) (σ : ST) : Con V vI G.1 yX2_isSign cX2_isSign 1 (some .boolean) 0 0 [.int v0] σ (f_X2_isSign (gT G) v0 σ) :=
  Con_of hV.1 (by decide +kernel) (Nat.le_of_ble_eq_true rfl) (fun E e1 e2 _ X => j_X2_isSign ⟨X, e1, by rw [e2]; exact hV⟩ v0 σ)
set_option maxRecDepth 100000 in
set_option maxHeartbeats 4000000 in
theorem j_X2_add_L30 {E : JE} {G : JG} (X : JT E 2 cX2_add RX2 none 0 0 G) (σ : ST) : Jg E 2 (JF E vV) [] 30 [] σ (f_X2_add_L30 (gT G) σ) := by
  have Y := X.1
  unfold f_X2_add_L30
  exact J_return Y dX2_add_30
set_option maxRecDepth 100000 in
set_option maxHeartbeats 4000000 in
theorem j_X2_add {E : JE} {G : JG} (X : JT E 2 cX2_add RX2 none 0 0 G) (v1 : Int32) (σ : ST) : Jg E 2 (JF E vV) [(0, .ref (gO G 1)), (1, .int v1)] 0 [] σ (f_X2_add (gT G) v1 σ) := by
  have Y := X.1
  unfold f_X2_add
  refine J_aload_n Y 0 dX2_add_0 rfl rfl ?_
  refine P_get 1 X (by decide) rfl wfl_RX2_21 rfl dX2_add_1 ?_
  refine J_sipush (v := (160 : Int32)) Y dX2_add_4 (by decide) ?_
  refine J_icmp_ge (tgt := 30) Y dX2_add_7 (by decide) ?_ ?_
  · refine J_sub [] rfl ?_
    exact j_X2_add_L30 X  σ
  · refine J_aload_n Y 0 dX2_add_10 rfl rfl ?_
    refine P_get 0 X (by decide) rfl wfl_RX2_9 rfl dX2_add_11 ?_
    refine J_aload_n Y 0 dX2_add_14 rfl rfl ?_
    refine P_get 1 X (by decide) rfl wfl_RX2_21 rfl dX2_add_15 ?_
    refine J_iload_n Y 1 dX2_add_18 rfl rfl ?_
    refine P_ast_0 X dX2_add_19 (fun t19 => ?_)
    refine J_aload_n Y 0 dX2_add_20 rfl rfl ?_
    refine J_dup Y dX2_add_21 rfl ?_
    refine P_get 1 X (by decide) rfl wfl_RX2_21 rfl dX2_add_22 ?_
    refine J_iconst (v := (1 : Int32)) Y dX2_add_25 (by decide) ?_
    refine J_iadd Y dX2_add_26 ?_
    refine P_put 1 X (by decide) rfl wfl_RX2_21 dX2_add_27 (fun t27 => ?_)
    refine J_sub [] rfl ?_
    exact j_X2_add_L30 X  t27
theorem c_X2_add (G : JG) {V : JV} (hV : TPok V G) (v1 : Int32) (σ : ST) : Con V vV G.1 yX2_add cX2_add 2 none 0 0 [.ref (gO G 1), .int v1] σ (f_X2_add (gT G) v1 σ) :=
  Con_of hV.1 (by decide +kernel) (Nat.le_of_ble_eq_true rfl) (fun E e1 e2 _ X => j_X2_add ⟨X, e1, by rw [e2]; exact hV⟩ v1 σ)
set_option maxRecDepth 100000 in
set_option maxHeartbeats 4000000 in
theorem j_X2_emit_L30 {E : JE} {G : JG} (X : JT E 2 cX2_emit RX2 none 0 0 G) (σ : ST) : Jg E 2 (JF E vV) [] 30 [] σ (f_X2_emit_L30 (gT G) σ) := by
  have Y := X.1
  unfold f_X2_emit_L30
  exact J_return Y dX2_emit_30
set_option maxRecDepth 100000 in
set_option maxHeartbeats 4000000 in
theorem j_X2_emit {E : JE} {G : JG} (X : JT E 2 cX2_emit RX2 none 0 0 G) (v1 : Int32) (σ : ST) : Jg E 2 (JF E vV) [(0, .ref (gO G 1)), (1, .int v1)] 0 [] σ (f_X2_emit (gT G) v1 σ) := by
  have Y := X.1
  unfold f_X2_emit
  refine J_aload_n Y 0 dX2_emit_0 rfl rfl ?_
  refine P_get 7 X (by decide) rfl wfl_RX2_27 rfl dX2_emit_1 ?_
  refine J_sipush (v := (160 : Int32)) Y dX2_emit_4 (by decide) ?_
  refine J_icmp_ge (tgt := 30) Y dX2_emit_7 (by decide) ?_ ?_
  · refine J_sub [] rfl ?_
    exact j_X2_emit_L30 X  σ
  · refine J_aload_n Y 0 dX2_emit_10 rfl rfl ?_
    refine P_get 6 X (by decide) rfl wfl_RX2_15 rfl dX2_emit_11 ?_
    refine J_aload_n Y 0 dX2_emit_14 rfl rfl ?_
    refine P_get 7 X (by decide) rfl wfl_RX2_27 rfl dX2_emit_15 ?_
    refine J_iload_n Y 1 dX2_emit_18 rfl rfl ?_
    refine P_ast_6 X dX2_emit_19 (fun t19 => ?_)
    refine J_aload_n Y 0 dX2_emit_20 rfl rfl ?_
    refine J_dup Y dX2_emit_21 rfl ?_
    refine P_get 7 X (by decide) rfl wfl_RX2_27 rfl dX2_emit_22 ?_
    refine J_iconst (v := (1 : Int32)) Y dX2_emit_25 (by decide) ?_
    refine J_iadd Y dX2_emit_26 ?_
    refine P_put 7 X (by decide) rfl wfl_RX2_27 dX2_emit_27 (fun t27 => ?_)
    refine J_sub [] rfl ?_
    exact j_X2_emit_L30 X  t27
theorem c_X2_emit (G : JG) {V : JV} (hV : TPok V G) (v1 : Int32) (σ : ST) : Con V vV G.1 yX2_emit cX2_emit 2 none 0 0 [.ref (gO G 1), .int v1] σ (f_X2_emit (gT G) v1 σ) :=
  Con_of hV.1 (by decide +kernel) (Nat.le_of_ble_eq_true rfl) (fun E e1 e2 _ X => j_X2_emit ⟨X, e1, by rw [e2]; exact hV⟩ v1 σ)
set_option maxRecDepth 100000 in
set_option maxHeartbeats 4000000 in
theorem j_X2_readNumber_L87 {E : JE} {G : JG} (X : JT E 1 cX2_readNumber RX2 none 1 60 G) (s0 : Int32) (σ : ST) : Jg E 1 (JF E vV) [] 87 [.int s0, .ref (gO G 1)] σ (f_X2_readNumber_L87 (gT G) s0 σ) := by
  have Y := X.1
  unfold f_X2_readNumber_L87
  refine P_put 4 X (by decide) rfl wfl_RX2_46 dX2_readNumber_87 (fun t87 => ?_)
  exact J_return Y dX2_readNumber_90
set_option maxRecDepth 100000 in
set_option maxHeartbeats 4000000 in
theorem j_X2_readNumber_L68 {E : JE} {G : JG} (X : JT E 1 cX2_readNumber RX2 none 1 60 G) (σ : ST) : Jg E 1 (JF E vV) [(0, .ref (gO G 1))] 68 [] σ (f_X2_readNumber_L68 (gT G) σ) := by
  have Y := X.1
  unfold f_X2_readNumber_L68
  refine J_aload_n Y 0 dX2_readNumber_68 rfl rfl ?_
  refine J_aload_n Y 0 dX2_readNumber_69 rfl rfl ?_
  refine P_get 3 X (by decide) rfl wfl_RX2_33 rfl dX2_readNumber_70 ?_
  refine J_aload_n Y 0 dX2_readNumber_73 rfl rfl ?_
  refine P_get 2 X (by decide) rfl wfl_RX2_71 rfl dX2_readNumber_74 ?_
  refine J_isub Y dX2_readNumber_77 ?_
  refine J_iconst (v := (4 : Int32)) Y dX2_readNumber_78 (by decide) ?_
  refine J_icmp_le (tgt := 86) Y dX2_readNumber_79 (by decide) ?_ ?_
  · refine J_iconst (v := (1 : Int32)) Y dX2_readNumber_86 (by decide) ?_
    refine J_sub [] rfl ?_
    exact j_X2_readNumber_L87 X (1 : Int32) σ
  · refine J_iconst (v := (2 : Int32)) Y dX2_readNumber_82 (by decide) ?_
    refine J_goto (tgt := 87) Y dX2_readNumber_83 (by decide) ?_
    refine J_sub [] rfl ?_
    exact j_X2_readNumber_L87 X (2 : Int32) σ
set_option maxRecDepth 100000 in
set_option maxHeartbeats 4000000 in
theorem j_X2_readNumber_L5 {E : JE} {G : JG} (X : JT E 1 cX2_readNumber RX2 none 1 60 G) : ∀ (n : Nat) (σ : ST), Jg E 1 (JF E vV) [(0, .ref (gO G 1))] 5 [] σ (f_X2_readNumber_L5 (gT G) n σ) := by
  have Y := X.1
  intro n
  induction n with
  | zero => intro σ; rw [f_X2_readNumber_L5]; exact J_none
  | succ n ih =>
    intro σ
    rw [f_X2_readNumber_L5]
    refine J_aload_n Y 0 dX2_readNumber_5 rfl rfl ?_
    refine P_get 3 X (by decide) rfl wfl_RX2_33 rfl dX2_readNumber_6 ?_
    refine J_aload_n Y 0 dX2_readNumber_9 rfl rfl ?_
    refine P_get 1 X (by decide) rfl wfl_RX2_21 rfl dX2_readNumber_10 ?_
    refine J_icmp_ge (tgt := 68) Y dX2_readNumber_13 (by decide) ?_ ?_
    · exact j_X2_readNumber_L68 X  σ
    · refine J_aload_n Y 0 dX2_readNumber_16 rfl rfl ?_
      refine P_get 0 X (by decide) rfl wfl_RX2_9 rfl dX2_readNumber_17 ?_
      refine J_aload_n Y 0 dX2_readNumber_20 rfl rfl ?_
      refine P_get 3 X (by decide) rfl wfl_RX2_33 rfl dX2_readNumber_21 ?_
      refine P_ald_0 X dX2_readNumber_24 (fun x24 => ?_)
      refine P_cSi (As := [.int x24]) (st := []) rfl X (c_X2_isDigit G X.2.2 x24 _) wi_X2_isDigit wst_X2_isDigit wml_RX2_80 ⟨Nat.le_of_ble_eq_true rfl, Nat.le_of_ble_eq_true rfl⟩ rfl (Nat.le_of_ble_eq_true rfl) dX2_readNumber_25 (fun y25 t25 => ?_)
      refine J_if_eq (tgt := 68) Y dX2_readNumber_28 (by decide) ?_ ?_
      · exact j_X2_readNumber_L68 X  t25
      · refine J_aload_n Y 0 dX2_readNumber_31 rfl rfl ?_
        refine J_aload_n Y 0 dX2_readNumber_32 rfl rfl ?_
        refine P_get 5 X (by decide) rfl wfl_RX2_68 rfl dX2_readNumber_33 ?_
        refine J_bipush (v := (10 : Int32)) Y dX2_readNumber_36 (by decide) ?_
        refine J_imul Y dX2_readNumber_38 ?_
        refine J_aload_n Y 0 dX2_readNumber_39 rfl rfl ?_
        refine P_get 0 X (by decide) rfl wfl_RX2_9 rfl dX2_readNumber_40 ?_
        refine J_aload_n Y 0 dX2_readNumber_43 rfl rfl ?_
        refine P_get 3 X (by decide) rfl wfl_RX2_33 rfl dX2_readNumber_44 ?_
        refine P_ald_0 X dX2_readNumber_47 (fun x47 => ?_)
        refine J_iadd Y dX2_readNumber_48 ?_
        refine J_bipush (v := (48 : Int32)) Y dX2_readNumber_49 (by decide) ?_
        refine J_isub Y dX2_readNumber_51 ?_
        refine P_put 5 X (by decide) rfl wfl_RX2_68 dX2_readNumber_52 (fun t52 => ?_)
        refine J_aload_n Y 0 dX2_readNumber_55 rfl rfl ?_
        refine J_dup Y dX2_readNumber_56 rfl ?_
        refine P_get 3 X (by decide) rfl wfl_RX2_33 rfl dX2_readNumber_57 ?_
        refine J_iconst (v := (1 : Int32)) Y dX2_readNumber_60 (by decide) ?_
        refine J_iadd Y dX2_readNumber_61 ?_
        refine P_put 3 X (by decide) rfl wfl_RX2_33 dX2_readNumber_62 (fun t62 => ?_)
        refine J_goto (tgt := 5) Y dX2_readNumber_65 (by decide) ?_
        exact ih  t62
set_option maxRecDepth 100000 in
set_option maxHeartbeats 4000000 in
theorem j_X2_readNumber {E : JE} {G : JG} (X : JT E 1 cX2_readNumber RX2 none 1 60 G) (σ : ST) : Jg E 1 (JF E vV) [(0, .ref (gO G 1))] 0 [] σ (f_X2_readNumber (gT G) σ) := by
  have Y := X.1
  unfold f_X2_readNumber
  refine J_aload_n Y 0 dX2_readNumber_0 rfl rfl ?_
  refine J_iconst (v := (0 : Int32)) Y dX2_readNumber_1 (by decide) ?_
  refine P_put 5 X (by decide) rfl wfl_RX2_68 dX2_readNumber_2 (fun t2 => ?_)
  exact j_X2_readNumber_L5 X 1000  t2
theorem c_X2_readNumber (G : JG) {V : JV} (hV : TPok V G) (σ : ST) : Con V vV G.1 yX2_readNumber cX2_readNumber 1 none 1 60 [.ref (gO G 1)] σ (f_X2_readNumber (gT G) σ) :=
  Con_of hV.1 (by decide +kernel) (Nat.le_of_ble_eq_true rfl) (fun E e1 e2 _ X => j_X2_readNumber ⟨X, e1, by rw [e2]; exact hV⟩ σ)
set_option maxRecDepth 100000 in
set_option maxHeartbeats 4000000 in
theorem j_X2_wordOf {E : JE} {G : JG} (X : JT E 1 cX2_wordOf RX2 (some (.object "java/lang/String")) 0 0 G) (v0 : Int32) (σ : ST) : Jg E 1 (JF E (vK G)) [(0, .int v0)] 0 [] σ (f_X2_wordOf (gT G) v0 σ) := by
  have Y := X.1
  unfold f_X2_wordOf
  refine J_iload_n Y 0 dX2_wordOf_0 rfl rfl ?_
  refine J_ite (fun c1_0 => ?_) (fun c1_0 => ?_)
  · refine J_tin (tgt := 60) (0 : Int32) c1_0 Y dX2_wordOf_1 (by decide) (by decide) rfl (by decide) ?_
    refine S_ldc (i := 0) X ((S_R X).1) dX2_wordOf_60 ?_
    exact J_areturn (G := G) Y dX2_wordOf_62
  refine J_ite (fun c1_1 => ?_) (fun c1_1 => ?_)
  · refine J_tin (tgt := 63) (1 : Int32) c1_1 Y dX2_wordOf_1 (by decide) (by decide) rfl (by decide) ?_
    refine S_ldc (i := 1) X ((S_R X).2.1) dX2_wordOf_63 ?_
    exact J_areturn (G := G) Y dX2_wordOf_65
  refine J_ite (fun c1_2 => ?_) (fun c1_2 => ?_)
  · refine J_tin (tgt := 66) (2 : Int32) c1_2 Y dX2_wordOf_1 (by decide) (by decide) rfl (by decide) ?_
    refine S_ldc (i := 2) X ((S_R X).2.2.1) dX2_wordOf_66 ?_
    exact J_areturn (G := G) Y dX2_wordOf_68
  refine J_ite (fun c1_3 => ?_) (fun c1_3 => ?_)
  · refine J_tin (tgt := 69) (3 : Int32) c1_3 Y dX2_wordOf_1 (by decide) (by decide) rfl (by decide) ?_
    refine S_ldc (i := 3) X ((S_R X).2.2.2.1) dX2_wordOf_69 ?_
    exact J_areturn (G := G) Y dX2_wordOf_71
  refine J_ite (fun c1_4 => ?_) (fun c1_4 => ?_)
  · refine J_tin (tgt := 72) (4 : Int32) c1_4 Y dX2_wordOf_1 (by decide) (by decide) rfl (by decide) ?_
    refine S_ldc (i := 4) X ((S_R X).2.2.2.2.1) dX2_wordOf_72 ?_
    exact J_areturn (G := G) Y dX2_wordOf_74
  refine J_ite (fun c1_5 => ?_) (fun c1_5 => ?_)
  · refine J_tin (tgt := 75) (5 : Int32) c1_5 Y dX2_wordOf_1 (by decide) (by decide) rfl (by decide) ?_
    refine S_ldc (i := 5) X ((S_R X).2.2.2.2.2.1) dX2_wordOf_75 ?_
    exact J_areturn (G := G) Y dX2_wordOf_77
  refine J_ite (fun c1_6 => ?_) (fun c1_6 => ?_)
  · refine J_tin (tgt := 78) (6 : Int32) c1_6 Y dX2_wordOf_1 (by decide) (by decide) rfl (by decide) ?_
    refine S_ldc (i := 6) X ((S_R X).2.2.2.2.2.2.1) dX2_wordOf_78 ?_
    exact J_areturn (G := G) Y dX2_wordOf_80
  refine J_ite (fun c1_7 => ?_) (fun c1_7 => ?_)
  · refine J_tin (tgt := 81) (7 : Int32) c1_7 Y dX2_wordOf_1 (by decide) (by decide) rfl (by decide) ?_
    refine S_ldc (i := 7) X ((S_R X).2.2.2.2.2.2.2.1) dX2_wordOf_81 ?_
    exact J_areturn (G := G) Y dX2_wordOf_83
  refine J_ite (fun c1_8 => ?_) (fun c1_8 => ?_)
  · refine J_tin (tgt := 84) (8 : Int32) c1_8 Y dX2_wordOf_1 (by decide) (by decide) rfl (by decide) ?_
    refine S_ldc (i := 8) X ((S_R X).2.2.2.2.2.2.2.2.1) dX2_wordOf_84 ?_
    exact J_areturn (G := G) Y dX2_wordOf_86
  refine J_ite (fun c1_9 => ?_) (fun c1_9 => ?_)
  · refine J_tin (tgt := 87) (9 : Int32) c1_9 Y dX2_wordOf_1 (by decide) (by decide) rfl (by decide) ?_
    refine S_ldc (i := 9) X ((S_R X).2.2.2.2.2.2.2.2.2.1) dX2_wordOf_87 ?_
    exact J_areturn (G := G) Y dX2_wordOf_89
  refine J_ite (fun c1_10 => ?_) (fun c1_10 => ?_)
  · refine J_tin (tgt := 90) (10 : Int32) c1_10 Y dX2_wordOf_1 (by decide) (by decide) rfl (by decide) ?_
    refine S_ldc (i := 10) X ((S_R X).2.2.2.2.2.2.2.2.2.2.1) dX2_wordOf_90 ?_
    exact J_areturn (G := G) Y dX2_wordOf_92
  have e1_0 := lv_neT c1_0 (show ((0 : Int32)).toInt = (0 : Int) by decide)
  have e1_1 := lv_neT c1_1 (show ((1 : Int32)).toInt = (1 : Int) by decide)
  have e1_2 := lv_neT c1_2 (show ((2 : Int32)).toInt = (2 : Int) by decide)
  have e1_3 := lv_neT c1_3 (show ((3 : Int32)).toInt = (3 : Int) by decide)
  have e1_4 := lv_neT c1_4 (show ((4 : Int32)).toInt = (4 : Int) by decide)
  have e1_5 := lv_neT c1_5 (show ((5 : Int32)).toInt = (5 : Int) by decide)
  have e1_6 := lv_neT c1_6 (show ((6 : Int32)).toInt = (6 : Int) by decide)
  have e1_7 := lv_neT c1_7 (show ((7 : Int32)).toInt = (7 : Int) by decide)
  have e1_8 := lv_neT c1_8 (show ((8 : Int32)).toInt = (8 : Int) by decide)
  have e1_9 := lv_neT c1_9 (show ((9 : Int32)).toInt = (9 : Int) by decide)
  have e1_10 := lv_neT c1_10 (show ((10 : Int32)).toInt = (10 : Int) by decide)
  refine J_tout (tgt := 93) Y dX2_wordOf_1 (by omega) (by decide) ?_
  refine S_ldc (i := 11) X ((S_R X).2.2.2.2.2.2.2.2.2.2.2.1) dX2_wordOf_93 ?_
  exact J_areturn (G := G) Y dX2_wordOf_95
theorem c_X2_wordOf (G : JG) {V : JV} (hV : TPok V G) (v0 : Int32) (σ : ST) : Con V (vK G) G.1 yX2_wordOf cX2_wordOf 1 (some (.object "java/lang/String")) 0 0 [.int v0] σ (f_X2_wordOf (gT G) v0 σ) :=
  Con_of hV.1 (by decide +kernel) (Nat.le_of_ble_eq_true rfl) (fun E e1 e2 _ X => j_X2_wordOf ⟨X, e1, by rw [e2]; exact hV⟩ v0 σ)
set_option maxRecDepth 100000 in
set_option maxHeartbeats 4000000 in
theorem j_X2_spells_L20 {E : JE} {G : JG} (X : JT E 3 cX2_spells RX2 (some .boolean) 4 180 G) : ∀ (n : Nat) (o1 : Nat) (v2 : Int32) (ho1 : o1 < 13) (σ : ST), Jg E 3 (JF E vI) [(0, .ref (gO G 1)), (1, .ref (gK G o1)), (2, .int v2)] 20 [] σ (f_X2_spells_L20 (gT G) n o1 v2 σ) := by
  have Y := X.1
  intro n
  induction n with
  | zero => intro o1 v2 ho1 σ; rw [f_X2_spells_L20]; exact J_none
  | succ n ih =>
    intro o1 v2 ho1 σ
    rw [f_X2_spells_L20]
    refine J_iload_n Y 2 dX2_spells_20 rfl rfl ?_
    refine J_aload_n Y 1 dX2_spells_21 rfl rfl ?_
    refine S_cVi (As := []) (st := [.int v2]) ho1 rfl X (c_J0_length G X.2.2 o1 ho1 _) rfl wi_J0_length_8abf5 win_J0_length_8abf5 wse_J0_length_8abf5 wml_RX2_97 ⟨Nat.le_of_ble_eq_true rfl, Nat.le_of_ble_eq_true rfl⟩ rfl (Nat.le_of_ble_eq_true rfl) dX2_spells_22 (fun y22 t22 => ?_)
    refine J_icmp_ge (tgt := 55) Y dX2_spells_25 (by decide) ?_ ?_
    · refine J_iconst (v := (1 : Int32)) Y dX2_spells_55 (by decide) ?_
      exact J_zreturn Y dX2_spells_56
    · refine J_aload_n Y 0 dX2_spells_28 rfl rfl ?_
      refine P_get 0 X (by decide) rfl wfl_RX2_9 rfl dX2_spells_29 ?_
      refine J_aload_n Y 0 dX2_spells_32 rfl rfl ?_
      refine P_get 2 X (by decide) rfl wfl_RX2_71 rfl dX2_spells_33 ?_
      refine J_iload_n Y 2 dX2_spells_36 rfl rfl ?_
      refine J_iadd Y dX2_spells_37 ?_
      refine P_ald_0 X dX2_spells_38 (fun x38 => ?_)
      refine J_aload_n Y 1 dX2_spells_39 rfl rfl ?_
      refine J_iload_n Y 2 dX2_spells_40 rfl rfl ?_
      refine S_cVi (As := [.int v2]) (st := [.int x38]) ho1 rfl X (c_J0_charAt G X.2.2 o1 ho1 v2 _) rfl wi_J0_charAt_5068e win_J0_charAt_5068e wse_J0_charAt_5068e wml_RX2_102 ⟨Nat.le_of_ble_eq_true rfl, Nat.le_of_ble_eq_true rfl⟩ rfl (Nat.le_of_ble_eq_true rfl) dX2_spells_41 (fun y41 t41 => ?_)
      refine J_icmp_eq (tgt := 49) Y dX2_spells_44 (by decide) ?_ ?_
      · refine J_iinc (v := v2 + (1 : Int32)) [(2, .int (v2 + (1 : Int32))), (0, .ref (gO G 1)), (1, .ref (gK G o1))] Y 2 dX2_spells_49 rfl (congrArg (fun z => _ + z) (by decide)) (by decide) rfl ?_
        refine J_goto (tgt := 20) Y dX2_spells_52 (by decide) ?_
        refine J_sub [1, 2, 0] rfl ?_
        exact ih o1 (v2 + (1 : Int32)) ho1 t41
      · refine J_iconst (v := (0 : Int32)) Y dX2_spells_47 (by decide) ?_
        exact J_zreturn Y dX2_spells_48
set_option maxRecDepth 100000 in
set_option maxHeartbeats 4000000 in
theorem j_X2_spells {E : JE} {G : JG} (X : JT E 3 cX2_spells RX2 (some .boolean) 4 180 G) (o1 : Nat) (ho1 : o1 < 13) (σ : ST) : Jg E 3 (JF E vI) [(0, .ref (gO G 1)), (1, .ref (gK G o1))] 0 [] σ (f_X2_spells (gT G) o1 σ) := by
  have Y := X.1
  unfold f_X2_spells
  refine J_aload_n Y 1 dX2_spells_0 rfl rfl ?_
  refine S_cVi (As := []) (st := []) ho1 rfl X (c_J0_length G X.2.2 o1 ho1 _) rfl wi_J0_length_8abf5 win_J0_length_8abf5 wse_J0_length_8abf5 wml_RX2_97 ⟨Nat.le_of_ble_eq_true rfl, Nat.le_of_ble_eq_true rfl⟩ rfl (Nat.le_of_ble_eq_true rfl) dX2_spells_1 (fun y1 t1 => ?_)
  refine J_aload_n Y 0 dX2_spells_4 rfl rfl ?_
  refine P_get 3 X (by decide) rfl wfl_RX2_33 rfl dX2_spells_5 ?_
  refine J_aload_n Y 0 dX2_spells_8 rfl rfl ?_
  refine P_get 2 X (by decide) rfl wfl_RX2_71 rfl dX2_spells_9 ?_
  refine J_isub Y dX2_spells_12 ?_
  refine J_icmp_eq (tgt := 18) Y dX2_spells_13 (by decide) ?_ ?_
  · refine J_iconst (v := (0 : Int32)) Y dX2_spells_18 (by decide) ?_
    refine J_istore_n [(2, .int (0 : Int32)), (0, .ref (gO G 1)), (1, .ref (gK G o1))] Y dX2_spells_19 rfl (by decide) rfl ?_
    refine J_sub [1, 2, 0] rfl ?_
    exact j_X2_spells_L20 X 1000 o1 (0 : Int32) ho1 t1
  · refine J_iconst (v := (0 : Int32)) Y dX2_spells_16 (by decide) ?_
    exact J_zreturn Y dX2_spells_17
theorem c_X2_spells (G : JG) {V : JV} (hV : TPok V G) (o1 : Nat) (ho1 : o1 < 13) (σ : ST) : Con V vI G.1 yX2_spells cX2_spells 3 (some .boolean) 4 180 [.ref (gO G 1), .ref (gK G o1)] σ (f_X2_spells (gT G) o1 σ) :=
  Con_of hV.1 (by decide +kernel) (Nat.le_of_ble_eq_true rfl) (fun E e1 e2 _ X => j_X2_spells ⟨X, e1, by rw [e2]; exact hV⟩ o1 ho1 σ)
set_option maxRecDepth 100000 in
set_option maxHeartbeats 4000000 in
theorem j_X2_readWord_L72 {E : JE} {G : JG} (X : JT E 2 cX2_readWord RX2 none 5 240 G) {k46 : Int32 → ST → Option (Unit × ST)} (hk46 : ∀ (v1 : Int32) (σ : ST), Jg E 2 (JF E vV) [(0, .ref (gO G 1)), (1, .int v1)] 46 [] σ (k46 v1 σ)) (v1 : Int32) (σ : ST) : Jg E 2 (JF E vV) [(0, .ref (gO G 1)), (1, .int v1)] 72 [] σ (f_X2_readWord_L72 (gT G) k46 v1 σ) := by
  have Y := X.1
  unfold f_X2_readWord_L72
  refine J_iinc (v := v1 + (1 : Int32)) [(1, .int (v1 + (1 : Int32))), (0, .ref (gO G 1))] Y 1 dX2_readWord_72 rfl (congrArg (fun z => _ + z) (by decide)) (by decide) rfl ?_
  refine J_goto (tgt := 46) Y dX2_readWord_75 (by decide) ?_
  refine J_sub [1, 0] rfl ?_
  exact hk46 (v1 + (1 : Int32)) σ
set_option maxRecDepth 100000 in
set_option maxHeartbeats 4000000 in
theorem j_X2_readWord_L46 {E : JE} {G : JG} (X : JT E 2 cX2_readWord RX2 none 5 240 G) : ∀ (n : Nat) (v1 : Int32) (σ : ST), Jg E 2 (JF E vV) [(0, .ref (gO G 1)), (1, .int v1)] 46 [] σ (f_X2_readWord_L46 (gT G) n v1 σ) := by
  have Y := X.1
  intro n
  induction n with
  | zero => intro v1 σ; rw [f_X2_readWord_L46]; exact J_none
  | succ n ih =>
    intro v1 σ
    rw [f_X2_readWord_L46]
    refine J_iload_n Y 1 dX2_readWord_46 rfl rfl ?_
    refine J_bipush (v := (12 : Int32)) Y dX2_readWord_47 (by decide) ?_
    refine J_icmp_ge (tgt := 78) Y dX2_readWord_49 (by decide) ?_ ?_
    · exact J_return Y dX2_readWord_78
    · refine J_aload_n Y 0 dX2_readWord_52 rfl rfl ?_
      refine J_iload_n Y 1 dX2_readWord_53 rfl rfl ?_
      refine C_cSk (As := [.int v1]) (st := [.ref (gO G 1)]) rfl X (c_X2_wordOf G X.2.2 v1 _) wi_X2_wordOf wst_X2_wordOf wml_RX2_89 ⟨Nat.le_of_ble_eq_true rfl, Nat.le_of_ble_eq_true rfl⟩ rfl (Nat.le_of_ble_eq_true rfl) dX2_readWord_54 (fun y54 t54 => ?_)
      refine J_ite (fun hy54 => ?_) (fun _ => J_none)
      refine P_cVi (As := [.ref (gK G y54)]) (st := []) rfl X (c_X2_spells G X.2.2 y54 hy54 _) rfl wi_X2_spells win_X2_spells wse_X2_spells wml_RX2_93 ⟨Nat.le_of_ble_eq_true rfl, Nat.le_of_ble_eq_true rfl⟩ rfl (Nat.le_of_ble_eq_true rfl) dX2_readWord_57 (fun y57 t57 => ?_)
      refine J_if_eq (tgt := 72) Y dX2_readWord_60 (by decide) ?_ ?_
      · exact j_X2_readWord_L72 X (fun v1 σ => ih v1 σ) v1 t57
      · refine J_aload_n Y 0 dX2_readWord_63 rfl rfl ?_
        refine J_sipush (v := (1000 : Int32)) Y dX2_readWord_64 (by decide) ?_
        refine J_iload_n Y 1 dX2_readWord_67 rfl rfl ?_
        refine J_iadd Y dX2_readWord_68 ?_
        refine P_put 4 X (by decide) rfl wfl_RX2_46 dX2_readWord_69 (fun t69 => ?_)
        exact j_X2_readWord_L72 X (fun v1 σ => ih v1 σ) v1 t69
set_option maxRecDepth 100000 in
set_option maxHeartbeats 4000000 in
theorem j_X2_readWord_L39 {E : JE} {G : JG} (X : JT E 2 cX2_readWord RX2 none 5 240 G) (σ : ST) : Jg E 2 (JF E vV) [(0, .ref (gO G 1))] 39 [] σ (f_X2_readWord_L39 (gT G) σ) := by
  have Y := X.1
  unfold f_X2_readWord_L39
  refine J_aload_n Y 0 dX2_readWord_39 rfl rfl ?_
  refine J_iconst (v := (2 : Int32)) Y dX2_readWord_40 (by decide) ?_
  refine P_put 4 X (by decide) rfl wfl_RX2_46 dX2_readWord_41 (fun t41 => ?_)
  refine J_iconst (v := (0 : Int32)) Y dX2_readWord_44 (by decide) ?_
  refine J_istore_n [(1, .int (0 : Int32)), (0, .ref (gO G 1))] Y dX2_readWord_45 rfl (by decide) rfl ?_
  refine J_sub [1, 0] rfl ?_
  exact j_X2_readWord_L46 X 1000 (0 : Int32) t41
set_option maxRecDepth 100000 in
set_option maxHeartbeats 4000000 in
theorem j_X2_readWord_L0 {E : JE} {G : JG} (X : JT E 2 cX2_readWord RX2 none 5 240 G) : ∀ (n : Nat) (σ : ST), Jg E 2 (JF E vV) [(0, .ref (gO G 1))] 0 [] σ (f_X2_readWord_L0 (gT G) n σ) := by
  have Y := X.1
  intro n
  induction n with
  | zero => intro σ; rw [f_X2_readWord_L0]; exact J_none
  | succ n ih =>
    intro σ
    rw [f_X2_readWord_L0]
    refine J_aload_n Y 0 dX2_readWord_0 rfl rfl ?_
    refine P_get 3 X (by decide) rfl wfl_RX2_33 rfl dX2_readWord_1 ?_
    refine J_aload_n Y 0 dX2_readWord_4 rfl rfl ?_
    refine P_get 1 X (by decide) rfl wfl_RX2_21 rfl dX2_readWord_5 ?_
    refine J_icmp_ge (tgt := 39) Y dX2_readWord_8 (by decide) ?_ ?_
    · exact j_X2_readWord_L39 X  σ
    · refine J_aload_n Y 0 dX2_readWord_11 rfl rfl ?_
      refine P_get 0 X (by decide) rfl wfl_RX2_9 rfl dX2_readWord_12 ?_
      refine J_aload_n Y 0 dX2_readWord_15 rfl rfl ?_
      refine P_get 3 X (by decide) rfl wfl_RX2_33 rfl dX2_readWord_16 ?_
      refine P_ald_0 X dX2_readWord_19 (fun x19 => ?_)
      refine P_cSi (As := [.int x19]) (st := []) rfl X (c_X2_isLetter G X.2.2 x19 _) wi_X2_isLetter wst_X2_isLetter wml_RX2_74 ⟨Nat.le_of_ble_eq_true rfl, Nat.le_of_ble_eq_true rfl⟩ rfl (Nat.le_of_ble_eq_true rfl) dX2_readWord_20 (fun y20 t20 => ?_)
      refine J_if_eq (tgt := 39) Y dX2_readWord_23 (by decide) ?_ ?_
      · exact j_X2_readWord_L39 X  t20
      · refine J_aload_n Y 0 dX2_readWord_26 rfl rfl ?_
        refine J_dup Y dX2_readWord_27 rfl ?_
        refine P_get 3 X (by decide) rfl wfl_RX2_33 rfl dX2_readWord_28 ?_
        refine J_iconst (v := (1 : Int32)) Y dX2_readWord_31 (by decide) ?_
        refine J_iadd Y dX2_readWord_32 ?_
        refine P_put 3 X (by decide) rfl wfl_RX2_33 dX2_readWord_33 (fun t33 => ?_)
        refine J_goto (tgt := 0) Y dX2_readWord_36 (by decide) ?_
        exact ih  t33
set_option maxRecDepth 100000 in
set_option maxHeartbeats 4000000 in
theorem j_X2_readWord {E : JE} {G : JG} (X : JT E 2 cX2_readWord RX2 none 5 240 G) (σ : ST) : Jg E 2 (JF E vV) [(0, .ref (gO G 1))] 0 [] σ (f_X2_readWord (gT G) σ) := by
  have Y := X.1
  unfold f_X2_readWord
  exact j_X2_readWord_L0 X 1000  σ
theorem c_X2_readWord (G : JG) {V : JV} (hV : TPok V G) (σ : ST) : Con V vV G.1 yX2_readWord cX2_readWord 2 none 5 240 [.ref (gO G 1)] σ (f_X2_readWord (gT G) σ) :=
  Con_of hV.1 (by decide +kernel) (Nat.le_of_ble_eq_true rfl) (fun E e1 e2 _ X => j_X2_readWord ⟨X, e1, by rw [e2]; exact hV⟩ σ)
set_option maxRecDepth 100000 in
set_option maxHeartbeats 4000000 in
theorem j_X2_readToken_L39 {E : JE} {G : JG} (X : JT E 1 cX2_readToken RX2 none 6 300 G) {k0 : ST → Option (Unit × ST)} (hk0 : ∀ (σ : ST), Jg E 1 (JF E vV) [(0, .ref (gO G 1))] 0 [] σ (k0 σ)) (σ : ST) : Jg E 1 (JF E vV) [(0, .ref (gO G 1))] 39 [] σ (f_X2_readToken_L39 (gT G) k0 σ) := by
  have Y := X.1
  unfold f_X2_readToken_L39
  refine J_aload_n Y 0 dX2_readToken_39 rfl rfl ?_
  refine J_dup Y dX2_readToken_40 rfl ?_
  refine P_get 3 X (by decide) rfl wfl_RX2_33 rfl dX2_readToken_41 ?_
  refine J_iconst (v := (1 : Int32)) Y dX2_readToken_44 (by decide) ?_
  refine J_iadd Y dX2_readToken_45 ?_
  refine P_put 3 X (by decide) rfl wfl_RX2_33 dX2_readToken_46 (fun t46 => ?_)
  refine J_goto (tgt := 0) Y dX2_readToken_49 (by decide) ?_
  exact hk0  t46
set_option maxRecDepth 100000 in
set_option maxHeartbeats 4000000 in
theorem j_X2_readToken_L165 {E : JE} {G : JG} (X : JT E 1 cX2_readToken RX2 none 6 300 G) (σ : ST) : Jg E 1 (JF E vV) [] 165 [] σ (f_X2_readToken_L165 (gT G) σ) := by
  have Y := X.1
  unfold f_X2_readToken_L165
  exact J_return Y dX2_readToken_165
set_option maxRecDepth 100000 in
set_option maxHeartbeats 4000000 in
theorem j_X2_readToken_L152 {E : JE} {G : JG} (X : JT E 1 cX2_readToken RX2 none 6 300 G) (s0 : Int32) (σ : ST) : Jg E 1 (JF E vV) [(0, .ref (gO G 1))] 152 [.int s0, .ref (gO G 1)] σ (f_X2_readToken_L152 (gT G) s0 σ) := by
  have Y := X.1
  unfold f_X2_readToken_L152
  refine P_put 4 X (by decide) rfl wfl_RX2_46 dX2_readToken_152 (fun t152 => ?_)
  refine J_aload_n Y 0 dX2_readToken_155 rfl rfl ?_
  refine J_dup Y dX2_readToken_156 rfl ?_
  refine P_get 3 X (by decide) rfl wfl_RX2_33 rfl dX2_readToken_157 ?_
  refine J_iconst (v := (1 : Int32)) Y dX2_readToken_160 (by decide) ?_
  refine J_iadd Y dX2_readToken_161 ?_
  refine P_put 3 X (by decide) rfl wfl_RX2_33 dX2_readToken_162 (fun t162 => ?_)
  refine J_sub [] rfl ?_
  exact j_X2_readToken_L165 X  t162
set_option maxRecDepth 100000 in
set_option maxHeartbeats 4000000 in
theorem j_X2_readToken_L52 {E : JE} {G : JG} (X : JT E 1 cX2_readToken RX2 none 6 300 G) (σ : ST) : Jg E 1 (JF E vV) [(0, .ref (gO G 1))] 52 [] σ (f_X2_readToken_L52 (gT G) σ) := by
  have Y := X.1
  unfold f_X2_readToken_L52
  refine J_aload_n Y 0 dX2_readToken_52 rfl rfl ?_
  refine J_aload_n Y 0 dX2_readToken_53 rfl rfl ?_
  refine P_get 3 X (by decide) rfl wfl_RX2_33 rfl dX2_readToken_54 ?_
  refine P_put 2 X (by decide) rfl wfl_RX2_71 dX2_readToken_57 (fun t57 => ?_)
  refine J_aload_n Y 0 dX2_readToken_60 rfl rfl ?_
  refine P_get 3 X (by decide) rfl wfl_RX2_33 rfl dX2_readToken_61 ?_
  refine J_aload_n Y 0 dX2_readToken_64 rfl rfl ?_
  refine P_get 1 X (by decide) rfl wfl_RX2_21 rfl dX2_readToken_65 ?_
  refine J_icmp_lt (tgt := 79) Y dX2_readToken_68 (by decide) ?_ ?_
  · refine J_aload_n Y 0 dX2_readToken_79 rfl rfl ?_
    refine P_get 0 X (by decide) rfl wfl_RX2_9 rfl dX2_readToken_80 ?_
    refine J_aload_n Y 0 dX2_readToken_83 rfl rfl ?_
    refine P_get 3 X (by decide) rfl wfl_RX2_33 rfl dX2_readToken_84 ?_
    refine P_ald_0 X dX2_readToken_87 (fun x87 => ?_)
    refine P_cSi (As := [.int x87]) (st := []) rfl X (c_X2_isLetter G X.2.2 x87 _) wi_X2_isLetter wst_X2_isLetter wml_RX2_74 ⟨Nat.le_of_ble_eq_true rfl, Nat.le_of_ble_eq_true rfl⟩ rfl (Nat.le_of_ble_eq_true rfl) dX2_readToken_88 (fun y88 t88 => ?_)
    refine J_if_eq (tgt := 101) Y dX2_readToken_91 (by decide) ?_ ?_
    · refine J_aload_n Y 0 dX2_readToken_101 rfl rfl ?_
      refine P_get 0 X (by decide) rfl wfl_RX2_9 rfl dX2_readToken_102 ?_
      refine J_aload_n Y 0 dX2_readToken_105 rfl rfl ?_
      refine P_get 3 X (by decide) rfl wfl_RX2_33 rfl dX2_readToken_106 ?_
      refine P_ald_0 X dX2_readToken_109 (fun x109 => ?_)
      refine P_cSi (As := [.int x109]) (st := []) rfl X (c_X2_isDigit G X.2.2 x109 _) wi_X2_isDigit wst_X2_isDigit wml_RX2_80 ⟨Nat.le_of_ble_eq_true rfl, Nat.le_of_ble_eq_true rfl⟩ rfl (Nat.le_of_ble_eq_true rfl) dX2_readToken_110 (fun y110 t110 => ?_)
      refine J_if_eq (tgt := 123) Y dX2_readToken_113 (by decide) ?_ ?_
      · refine J_aload_n Y 0 dX2_readToken_123 rfl rfl ?_
        refine J_aload_n Y 0 dX2_readToken_124 rfl rfl ?_
        refine P_get 0 X (by decide) rfl wfl_RX2_9 rfl dX2_readToken_125 ?_
        refine J_aload_n Y 0 dX2_readToken_128 rfl rfl ?_
        refine P_get 3 X (by decide) rfl wfl_RX2_33 rfl dX2_readToken_129 ?_
        refine P_ald_0 X dX2_readToken_132 (fun x132 => ?_)
        refine P_cSi (As := [.int x132]) (st := [.ref (gO G 1)]) rfl X (c_X2_isSign G X.2.2 x132 _) wi_X2_isSign wst_X2_isSign wml_RX2_86 ⟨Nat.le_of_ble_eq_true rfl, Nat.le_of_ble_eq_true rfl⟩ rfl (Nat.le_of_ble_eq_true rfl) dX2_readToken_133 (fun y133 t133 => ?_)
        refine J_if_eq (tgt := 151) Y dX2_readToken_136 (by decide) ?_ ?_
        · refine J_iconst (v := (2 : Int32)) Y dX2_readToken_151 (by decide) ?_
          exact j_X2_readToken_L152 X (2 : Int32) t133
        · refine J_aload_n Y 0 dX2_readToken_139 rfl rfl ?_
          refine P_get 0 X (by decide) rfl wfl_RX2_9 rfl dX2_readToken_140 ?_
          refine J_aload_n Y 0 dX2_readToken_143 rfl rfl ?_
          refine P_get 3 X (by decide) rfl wfl_RX2_33 rfl dX2_readToken_144 ?_
          refine P_ald_0 X dX2_readToken_147 (fun x147 => ?_)
          refine J_goto (tgt := 152) Y dX2_readToken_148 (by decide) ?_
          exact j_X2_readToken_L152 X x147 t133
      · refine J_aload_n Y 0 dX2_readToken_116 rfl rfl ?_
        refine P_cVv (As := []) (st := []) rfl X (c_X2_readNumber G X.2.2 _) rfl wi_X2_readNumber win_X2_readNumber wse_X2_readNumber wml_RX2_83 ⟨Nat.le_of_ble_eq_true rfl, Nat.le_of_ble_eq_true rfl⟩ rfl (Nat.le_of_ble_eq_true rfl) dX2_readToken_117 (fun t117 => ?_)
        refine J_goto (tgt := 165) Y dX2_readToken_120 (by decide) ?_
        refine J_sub [] rfl ?_
        exact j_X2_readToken_L165 X  t117
    · refine J_aload_n Y 0 dX2_readToken_94 rfl rfl ?_
      refine P_cVv (As := []) (st := []) rfl X (c_X2_readWord G X.2.2 _) rfl wi_X2_readWord win_X2_readWord wse_X2_readWord wml_RX2_77 ⟨Nat.le_of_ble_eq_true rfl, Nat.le_of_ble_eq_true rfl⟩ rfl (Nat.le_of_ble_eq_true rfl) dX2_readToken_95 (fun t95 => ?_)
      refine J_goto (tgt := 165) Y dX2_readToken_98 (by decide) ?_
      refine J_sub [] rfl ?_
      exact j_X2_readToken_L165 X  t95
  · refine J_aload_n Y 0 dX2_readToken_71 rfl rfl ?_
    refine J_iconst (v := (0 : Int32)) Y dX2_readToken_72 (by decide) ?_
    refine P_put 4 X (by decide) rfl wfl_RX2_46 dX2_readToken_73 (fun t73 => ?_)
    refine J_goto (tgt := 165) Y dX2_readToken_76 (by decide) ?_
    refine J_sub [] rfl ?_
    exact j_X2_readToken_L165 X  t73
set_option maxRecDepth 100000 in
set_option maxHeartbeats 4000000 in
theorem j_X2_readToken_L0 {E : JE} {G : JG} (X : JT E 1 cX2_readToken RX2 none 6 300 G) : ∀ (n : Nat) (σ : ST), Jg E 1 (JF E vV) [(0, .ref (gO G 1))] 0 [] σ (f_X2_readToken_L0 (gT G) n σ) := by
  have Y := X.1
  intro n
  induction n with
  | zero => intro σ; rw [f_X2_readToken_L0]; exact J_none
  | succ n ih =>
    intro σ
    rw [f_X2_readToken_L0]
    refine J_aload_n Y 0 dX2_readToken_0 rfl rfl ?_
    refine P_get 3 X (by decide) rfl wfl_RX2_33 rfl dX2_readToken_1 ?_
    refine J_aload_n Y 0 dX2_readToken_4 rfl rfl ?_
    refine P_get 1 X (by decide) rfl wfl_RX2_21 rfl dX2_readToken_5 ?_
    refine J_icmp_ge (tgt := 52) Y dX2_readToken_8 (by decide) ?_ ?_
    · exact j_X2_readToken_L52 X  σ
    · refine J_aload_n Y 0 dX2_readToken_11 rfl rfl ?_
      refine P_get 0 X (by decide) rfl wfl_RX2_9 rfl dX2_readToken_12 ?_
      refine J_aload_n Y 0 dX2_readToken_15 rfl rfl ?_
      refine P_get 3 X (by decide) rfl wfl_RX2_33 rfl dX2_readToken_16 ?_
      refine P_ald_0 X dX2_readToken_19 (fun x19 => ?_)
      refine J_bipush (v := (32 : Int32)) Y dX2_readToken_20 (by decide) ?_
      refine J_icmp_eq (tgt := 39) Y dX2_readToken_22 (by decide) ?_ ?_
      · exact j_X2_readToken_L39 X (fun  σ => ih  σ)  σ
      · refine J_aload_n Y 0 dX2_readToken_25 rfl rfl ?_
        refine P_get 0 X (by decide) rfl wfl_RX2_9 rfl dX2_readToken_26 ?_
        refine J_aload_n Y 0 dX2_readToken_29 rfl rfl ?_
        refine P_get 3 X (by decide) rfl wfl_RX2_33 rfl dX2_readToken_30 ?_
        refine P_ald_0 X dX2_readToken_33 (fun x33 => ?_)
        refine J_bipush (v := (10 : Int32)) Y dX2_readToken_34 (by decide) ?_
        refine J_icmp_ne (tgt := 52) Y dX2_readToken_36 (by decide) ?_ ?_
        · exact j_X2_readToken_L52 X  σ
        · exact j_X2_readToken_L39 X (fun  σ => ih  σ)  σ
set_option maxRecDepth 100000 in
set_option maxHeartbeats 4000000 in
theorem j_X2_readToken {E : JE} {G : JG} (X : JT E 1 cX2_readToken RX2 none 6 300 G) (σ : ST) : Jg E 1 (JF E vV) [(0, .ref (gO G 1))] 0 [] σ (f_X2_readToken (gT G) σ) := by
  have Y := X.1
  unfold f_X2_readToken
  exact j_X2_readToken_L0 X 1000  σ
theorem c_X2_readToken (G : JG) {V : JV} (hV : TPok V G) (σ : ST) : Con V vV G.1 yX2_readToken cX2_readToken 1 none 6 300 [.ref (gO G 1)] σ (f_X2_readToken (gT G) σ) :=
  Con_of hV.1 (by decide +kernel) (Nat.le_of_ble_eq_true rfl) (fun E e1 e2 _ X => j_X2_readToken ⟨X, e1, by rw [e2]; exact hV⟩ σ)
set_option maxRecDepth 100000 in
set_option maxHeartbeats 4000000 in
theorem j_X2_passes {E : JE} {G : JG} (X : JT E 2 cX2_passes RX2 (some .boolean) 7 360 G) (v1 : Int32) (σ : ST) : Jg E 2 (JF E vI) [(0, .ref (gO G 1)), (1, .int v1)] 0 [] σ (f_X2_passes (gT G) v1 σ) := by
  have Y := X.1
  unfold f_X2_passes
  refine J_aload_n Y 0 dX2_passes_0 rfl rfl ?_
  refine P_get 4 X (by decide) rfl wfl_RX2_46 rfl dX2_passes_1 ?_
  refine J_iload_n Y 1 dX2_passes_4 rfl rfl ?_
  refine J_icmp_eq (tgt := 10) Y dX2_passes_5 (by decide) ?_ ?_
  · refine J_aload_n Y 0 dX2_passes_10 rfl rfl ?_
    refine P_cVv (As := []) (st := []) rfl X (c_X2_readToken G X.2.2 _) rfl wi_X2_readToken win_X2_readToken wse_X2_readToken wml_RX2_36 ⟨Nat.le_of_ble_eq_true rfl, Nat.le_of_ble_eq_true rfl⟩ rfl (Nat.le_of_ble_eq_true rfl) dX2_passes_11 (fun t11 => ?_)
    refine J_iconst (v := (1 : Int32)) Y dX2_passes_14 (by decide) ?_
    exact J_zreturn Y dX2_passes_15
  · refine J_iconst (v := (0 : Int32)) Y dX2_passes_8 (by decide) ?_
    exact J_zreturn Y dX2_passes_9
theorem c_X2_passes (G : JG) {V : JV} (hV : TPok V G) (v1 : Int32) (σ : ST) : Con V vI G.1 yX2_passes cX2_passes 2 (some .boolean) 7 360 [.ref (gO G 1), .int v1] σ (f_X2_passes (gT G) v1 σ) :=
  Con_of hV.1 (by decide +kernel) (Nat.le_of_ble_eq_true rfl) (fun E e1 e2 _ X => j_X2_passes ⟨X, e1, by rw [e2]; exact hV⟩ v1 σ)
def RD (G : JG) (V : JV) (rd : Nat → Int32 → ST → Option (Int32 × ST)) (F1 L1 : Nat) : Prop := (∀ (v : Int32) (σ : ST), Con V vI G.1 yX2_readAny cX2_readAny 4 (some .boolean) F1 L1 [.ref (gO G 1), .int v] σ (rd 0 v σ)) ∧ (∀ (v : Int32) (σ : ST), Con V vI G.1 yX2_readBoth cX2_readBoth 4 (some .boolean) F1 L1 [.ref (gO G 1), .int v] σ (rd 1 v σ)) ∧ (∀ (v : Int32) (σ : ST), Con V vI G.1 yX2_readNot cX2_readNot 4 (some .boolean) F1 L1 [.ref (gO G 1), .int v] σ (rd 2 v σ)) ∧ (∀ (v : Int32) (σ : ST), Con V vI G.1 yX2_readSum cX2_readSum 5 (some .boolean) F1 L1 [.ref (gO G 1), .int v] σ (rd 3 v σ)) ∧ (∀ (v : Int32) (σ : ST), Con V vI G.1 yX2_readTerm cX2_readTerm 4 (some .boolean) F1 L1 [.ref (gO G 1), .int v] σ (rd 4 v σ)) ∧ (∀ (v : Int32) (σ : ST), Con V vI G.1 yX2_readOne cX2_readOne 3 (some .boolean) F1 L1 [.ref (gO G 1), .int v] σ (rd 5 v σ))
set_option maxRecDepth 100000 in
set_option maxHeartbeats 4000000 in
theorem j_X2_readAny_L51 {E : JE} {G : JG} {F L F1 L1 : Nat} {rd : Nat → Int32 → ST → Option (Int32 × ST)} (X : JT E 4 cX2_readAny RX2 (some .boolean) F L G) (hrd : RD G (jV E) rd F1 L1) (hF : F1 + 1 ≤ F ∧ 10 ≤ F) (hL : 60 + L1 ≤ L ∧ 600 ≤ L) (v2 : Int32) (σ : ST) : Jg E 4 (JF E vI) [(2, .int v2)] 51 [] σ (f_X2_readAny_L51 (gT G) rd v2 σ) := by
  have Y := X.1
  unfold f_X2_readAny_L51
  refine J_iload_n Y 0 dX2_readAny_51 rfl rfl ?_
  exact J_zreturn Y dX2_readAny_52
set_option maxRecDepth 100000 in
set_option maxHeartbeats 4000000 in
theorem j_X2_readAny_L8 {E : JE} {G : JG} {F L F1 L1 : Nat} {rd : Nat → Int32 → ST → Option (Int32 × ST)} (X : JT E 4 cX2_readAny RX2 (some .boolean) F L G) (hrd : RD G (jV E) rd F1 L1) (hF : F1 + 1 ≤ F ∧ 10 ≤ F) (hL : 60 + L1 ≤ L ∧ 600 ≤ L) : ∀ (n : Nat) (v1 : Int32) (v2 : Int32) (v3 : Int32) (σ : ST), Jg E 4 (JF E vI) [(0, .ref (gO G 1)), (1, .int v1), (2, .int v2), (3, .int v3)] 8 [] σ (f_X2_readAny_L8 (gT G) rd n v1 v2 v3 σ) := by
  have Y := X.1
  intro n
  induction n with
  | zero => intro v1 v2 v3 σ; rw [f_X2_readAny_L8]; exact J_none
  | succ n ih =>
    intro v1 v2 v3 σ
    rw [f_X2_readAny_L8]
    refine J_iload_n Y 3 dX2_readAny_8 rfl rfl ?_
    refine J_sipush (v := (160 : Int32)) Y dX2_readAny_9 (by decide) ?_
    refine J_icmp_ge (tgt := 51) Y dX2_readAny_12 (by decide) ?_ ?_
    · refine J_sub [2] rfl ?_
      exact j_X2_readAny_L51 X hrd hF hL v2 σ
    · refine J_iload_n Y 2 dX2_readAny_15 rfl rfl ?_
      refine J_if_eq (tgt := 51) Y dX2_readAny_16 (by decide) ?_ ?_
      · refine J_sub [2] rfl ?_
        exact j_X2_readAny_L51 X hrd hF hL v2 σ
      · refine J_aload_n Y 0 dX2_readAny_19 rfl rfl ?_
        refine P_get 4 X (by decide) rfl wfl_RX2_46 rfl dX2_readAny_20 ?_
        refine J_sipush (v := (1003 : Int32)) Y dX2_readAny_23 (by decide) ?_
        refine J_icmp_ne (tgt := 51) Y dX2_readAny_26 (by decide) ?_ ?_
        · refine J_sub [2] rfl ?_
          exact j_X2_readAny_L51 X hrd hF hL v2 σ
        · refine J_aload_n Y 0 dX2_readAny_29 rfl rfl ?_
          refine P_cVv (As := []) (st := []) rfl X (c_X2_readToken G X.2.2 _) rfl wi_X2_readToken win_X2_readToken wse_X2_readToken wml_RX2_36 ⟨Nat.le_trans (Nat.le_of_ble_eq_true rfl) hF.2, Nat.le_trans (Nat.le_of_ble_eq_true rfl) hL.2⟩ rfl (Nat.le_of_ble_eq_true rfl) dX2_readAny_30 (fun t30 => ?_)
          refine J_aload_n Y 0 dX2_readAny_33 rfl rfl ?_
          refine J_iload_n Y 1 dX2_readAny_34 rfl rfl ?_
          refine P_cVi (As := [.int v1]) (st := []) rfl X (hrd.2.1 v1 _) rfl wi_X2_readBoth win_X2_readBoth wse_X2_readBoth wml_RX2_49 ⟨hF.1, Nat.le_trans (Nat.add_le_add_right (Nat.le_of_ble_eq_true rfl) _) hL.1⟩ rfl (Nat.le_of_ble_eq_true rfl) dX2_readAny_35 (fun y35 t35 => ?_)
          refine J_istore_n [(2, .int y35), (0, .ref (gO G 1)), (1, .int v1), (3, .int v3)] Y dX2_readAny_38 rfl (by decide) rfl ?_
          refine J_aload_n Y 1 dX2_readAny_39 rfl rfl ?_
          refine J_bipush (v := (-9 : Int32)) Y dX2_readAny_40 (by decide) ?_
          refine P_cVv (As := [.int (-9 : Int32)]) (st := []) rfl X (c_X2_emit G X.2.2 (-9 : Int32) _) rfl wi_X2_emit win_X2_emit wse_X2_emit wml_RX2_52 ⟨Nat.le_trans (Nat.le_of_ble_eq_true rfl) hF.2, Nat.le_trans (Nat.le_of_ble_eq_true rfl) hL.2⟩ rfl (Nat.le_of_ble_eq_true rfl) dX2_readAny_42 (fun t42 => ?_)
          refine J_iinc (v := v3 + (1 : Int32)) [(3, .int (v3 + (1 : Int32))), (2, .int y35), (0, .ref (gO G 1)), (1, .int v1)] Y 3 dX2_readAny_45 rfl (congrArg (fun z => _ + z) (by decide)) (by decide) rfl ?_
          refine J_goto (tgt := 8) Y dX2_readAny_48 (by decide) ?_
          refine J_sub [2, 3, 1, 0] rfl ?_
          exact ih v1 y35 (v3 + (1 : Int32)) t42
set_option maxRecDepth 100000 in
set_option maxHeartbeats 4000000 in
theorem j_X2_readAny {E : JE} {G : JG} {F L F1 L1 : Nat} {rd : Nat → Int32 → ST → Option (Int32 × ST)} (X : JT E 4 cX2_readAny RX2 (some .boolean) F L G) (hrd : RD G (jV E) rd F1 L1) (hF : F1 + 1 ≤ F ∧ 10 ≤ F) (hL : 60 + L1 ≤ L ∧ 600 ≤ L) (v1 : Int32) (σ : ST) : Jg E 4 (JF E vI) [(0, .ref (gO G 1)), (1, .int v1)] 0 [] σ (f_X2_readAny (gT G) rd v1 σ) := by
  have Y := X.1
  unfold f_X2_readAny
  refine J_aload_n Y 0 dX2_readAny_0 rfl rfl ?_
  refine J_iload_n Y 1 dX2_readAny_1 rfl rfl ?_
  refine P_cVi (As := [.int v1]) (st := []) rfl X (hrd.2.1 v1 _) rfl wi_X2_readBoth win_X2_readBoth wse_X2_readBoth wml_RX2_49 ⟨hF.1, Nat.le_trans (Nat.add_le_add_right (Nat.le_of_ble_eq_true rfl) _) hL.1⟩ rfl (Nat.le_of_ble_eq_true rfl) dX2_readAny_2 (fun y2 t2 => ?_)
  refine J_istore_n [(2, .int y2), (0, .ref (gO G 1)), (1, .int v1)] Y dX2_readAny_5 rfl (by decide) rfl ?_
  refine J_iconst (v := (0 : Int32)) Y dX2_readAny_6 (by decide) ?_
  refine J_istore_n [(3, .int (0 : Int32)), (2, .int y2), (0, .ref (gO G 1)), (1, .int v1)] Y dX2_readAny_7 rfl (by decide) rfl ?_
  refine J_sub [2, 3, 1, 0] rfl ?_
  exact j_X2_readAny_L8 X hrd hF hL 1000 v1 y2 (0 : Int32) t2
set_option maxRecDepth 100000 in
set_option maxHeartbeats 4000000 in
theorem j_X2_readBoth_L51 {E : JE} {G : JG} {F L F1 L1 : Nat} {rd : Nat → Int32 → ST → Option (Int32 × ST)} (X : JT E 4 cX2_readBoth RX2 (some .boolean) F L G) (hrd : RD G (jV E) rd F1 L1) (hF : F1 + 1 ≤ F ∧ 10 ≤ F) (hL : 60 + L1 ≤ L ∧ 600 ≤ L) (v2 : Int32) (σ : ST) : Jg E 4 (JF E vI) [(2, .int v2)] 51 [] σ (f_X2_readBoth_L51 (gT G) rd v2 σ) := by
  have Y := X.1
  unfold f_X2_readBoth_L51
  refine J_iload_n Y 0 dX2_readBoth_51 rfl rfl ?_
  exact J_zreturn Y dX2_readBoth_52
set_option maxRecDepth 100000 in
set_option maxHeartbeats 4000000 in
theorem j_X2_readBoth_L8 {E : JE} {G : JG} {F L F1 L1 : Nat} {rd : Nat → Int32 → ST → Option (Int32 × ST)} (X : JT E 4 cX2_readBoth RX2 (some .boolean) F L G) (hrd : RD G (jV E) rd F1 L1) (hF : F1 + 1 ≤ F ∧ 10 ≤ F) (hL : 60 + L1 ≤ L ∧ 600 ≤ L) : ∀ (n : Nat) (v1 : Int32) (v2 : Int32) (v3 : Int32) (σ : ST), Jg E 4 (JF E vI) [(0, .ref (gO G 1)), (1, .int v1), (2, .int v2), (3, .int v3)] 8 [] σ (f_X2_readBoth_L8 (gT G) rd n v1 v2 v3 σ) := by
  have Y := X.1
  intro n
  induction n with
  | zero => intro v1 v2 v3 σ; rw [f_X2_readBoth_L8]; exact J_none
  | succ n ih =>
    intro v1 v2 v3 σ
    rw [f_X2_readBoth_L8]
    refine J_iload_n Y 3 dX2_readBoth_8 rfl rfl ?_
    refine J_sipush (v := (160 : Int32)) Y dX2_readBoth_9 (by decide) ?_
    refine J_icmp_ge (tgt := 51) Y dX2_readBoth_12 (by decide) ?_ ?_
    · refine J_sub [2] rfl ?_
      exact j_X2_readBoth_L51 X hrd hF hL v2 σ
    · refine J_iload_n Y 2 dX2_readBoth_15 rfl rfl ?_
      refine J_if_eq (tgt := 51) Y dX2_readBoth_16 (by decide) ?_ ?_
      · refine J_sub [2] rfl ?_
        exact j_X2_readBoth_L51 X hrd hF hL v2 σ
      · refine J_aload_n Y 0 dX2_readBoth_19 rfl rfl ?_
        refine P_get 4 X (by decide) rfl wfl_RX2_46 rfl dX2_readBoth_20 ?_
        refine J_sipush (v := (1004 : Int32)) Y dX2_readBoth_23 (by decide) ?_
        refine J_icmp_ne (tgt := 51) Y dX2_readBoth_26 (by decide) ?_ ?_
        · refine J_sub [2] rfl ?_
          exact j_X2_readBoth_L51 X hrd hF hL v2 σ
        · refine J_aload_n Y 0 dX2_readBoth_29 rfl rfl ?_
          refine P_cVv (As := []) (st := []) rfl X (c_X2_readToken G X.2.2 _) rfl wi_X2_readToken win_X2_readToken wse_X2_readToken wml_RX2_36 ⟨Nat.le_trans (Nat.le_of_ble_eq_true rfl) hF.2, Nat.le_trans (Nat.le_of_ble_eq_true rfl) hL.2⟩ rfl (Nat.le_of_ble_eq_true rfl) dX2_readBoth_30 (fun t30 => ?_)
          refine J_aload_n Y 0 dX2_readBoth_33 rfl rfl ?_
          refine J_iload_n Y 1 dX2_readBoth_34 rfl rfl ?_
          refine P_cVi (As := [.int v1]) (st := []) rfl X (hrd.2.2.1 v1 _) rfl wi_X2_readNot win_X2_readNot wse_X2_readNot wml_RX2_56 ⟨hF.1, Nat.le_trans (Nat.add_le_add_right (Nat.le_of_ble_eq_true rfl) _) hL.1⟩ rfl (Nat.le_of_ble_eq_true rfl) dX2_readBoth_35 (fun y35 t35 => ?_)
          refine J_istore_n [(2, .int y35), (0, .ref (gO G 1)), (1, .int v1), (3, .int v3)] Y dX2_readBoth_38 rfl (by decide) rfl ?_
          refine J_aload_n Y 1 dX2_readBoth_39 rfl rfl ?_
          refine J_bipush (v := (-10 : Int32)) Y dX2_readBoth_40 (by decide) ?_
          refine P_cVv (As := [.int (-10 : Int32)]) (st := []) rfl X (c_X2_emit G X.2.2 (-10 : Int32) _) rfl wi_X2_emit win_X2_emit wse_X2_emit wml_RX2_52 ⟨Nat.le_trans (Nat.le_of_ble_eq_true rfl) hF.2, Nat.le_trans (Nat.le_of_ble_eq_true rfl) hL.2⟩ rfl (Nat.le_of_ble_eq_true rfl) dX2_readBoth_42 (fun t42 => ?_)
          refine J_iinc (v := v3 + (1 : Int32)) [(3, .int (v3 + (1 : Int32))), (2, .int y35), (0, .ref (gO G 1)), (1, .int v1)] Y 3 dX2_readBoth_45 rfl (congrArg (fun z => _ + z) (by decide)) (by decide) rfl ?_
          refine J_goto (tgt := 8) Y dX2_readBoth_48 (by decide) ?_
          refine J_sub [2, 3, 1, 0] rfl ?_
          exact ih v1 y35 (v3 + (1 : Int32)) t42
set_option maxRecDepth 100000 in
set_option maxHeartbeats 4000000 in
theorem j_X2_readBoth {E : JE} {G : JG} {F L F1 L1 : Nat} {rd : Nat → Int32 → ST → Option (Int32 × ST)} (X : JT E 4 cX2_readBoth RX2 (some .boolean) F L G) (hrd : RD G (jV E) rd F1 L1) (hF : F1 + 1 ≤ F ∧ 10 ≤ F) (hL : 60 + L1 ≤ L ∧ 600 ≤ L) (v1 : Int32) (σ : ST) : Jg E 4 (JF E vI) [(0, .ref (gO G 1)), (1, .int v1)] 0 [] σ (f_X2_readBoth (gT G) rd v1 σ) := by
  have Y := X.1
  unfold f_X2_readBoth
  refine J_aload_n Y 0 dX2_readBoth_0 rfl rfl ?_
  refine J_iload_n Y 1 dX2_readBoth_1 rfl rfl ?_
  refine P_cVi (As := [.int v1]) (st := []) rfl X (hrd.2.2.1 v1 _) rfl wi_X2_readNot win_X2_readNot wse_X2_readNot wml_RX2_56 ⟨hF.1, Nat.le_trans (Nat.add_le_add_right (Nat.le_of_ble_eq_true rfl) _) hL.1⟩ rfl (Nat.le_of_ble_eq_true rfl) dX2_readBoth_2 (fun y2 t2 => ?_)
  refine J_istore_n [(2, .int y2), (0, .ref (gO G 1)), (1, .int v1)] Y dX2_readBoth_5 rfl (by decide) rfl ?_
  refine J_iconst (v := (0 : Int32)) Y dX2_readBoth_6 (by decide) ?_
  refine J_istore_n [(3, .int (0 : Int32)), (2, .int y2), (0, .ref (gO G 1)), (1, .int v1)] Y dX2_readBoth_7 rfl (by decide) rfl ?_
  refine J_sub [2, 3, 1, 0] rfl ?_
  exact j_X2_readBoth_L8 X hrd hF hL 1000 v1 y2 (0 : Int32) t2
set_option maxRecDepth 100000 in
set_option maxHeartbeats 4000000 in
theorem j_X2_readNot_L97 {E : JE} {G : JG} {F L F1 L1 : Nat} {rd : Nat → Int32 → ST → Option (Int32 × ST)} (X : JT E 4 cX2_readNot RX2 (some .boolean) F L G) (hrd : RD G (jV E) rd F1 L1) (hF : F1 + 1 ≤ F ∧ 10 ≤ F) (hL : 60 + L1 ≤ L ∧ 600 ≤ L) (v2 : Int32) (σ : ST) : Jg E 4 (JF E vI) [(2, .int v2)] 97 [] σ (f_X2_readNot_L97 (gT G) rd v2 σ) := by
  have Y := X.1
  unfold f_X2_readNot_L97
  refine J_iload_n Y 0 dX2_readNot_97 rfl rfl ?_
  exact J_zreturn Y dX2_readNot_98
set_option maxRecDepth 100000 in
set_option maxHeartbeats 4000000 in
theorem j_X2_readNot_L81 {E : JE} {G : JG} {F L F1 L1 : Nat} {rd : Nat → Int32 → ST → Option (Int32 × ST)} (X : JT E 4 cX2_readNot RX2 (some .boolean) F L G) (hrd : RD G (jV E) rd F1 L1) (hF : F1 + 1 ≤ F ∧ 10 ≤ F) (hL : 60 + L1 ≤ L ∧ 600 ≤ L) (v1 : Int32) (s0 : Int32) (σ : ST) : Jg E 4 (JF E vI) [(0, .ref (gO G 1)), (1, .int v1)] 81 [.int s0] σ (f_X2_readNot_L81 (gT G) rd v1 s0 σ) := by
  have Y := X.1
  unfold f_X2_readNot_L81
  refine J_istore_n [(3, .int s0), (0, .ref (gO G 1)), (1, .int v1)] Y dX2_readNot_81 rfl (by decide) rfl ?_
  refine J_aload_n Y 1 dX2_readNot_82 rfl rfl ?_
  refine P_cVv (As := []) (st := []) rfl X (c_X2_readToken G X.2.2 _) rfl wi_X2_readToken win_X2_readToken wse_X2_readToken wml_RX2_36 ⟨Nat.le_trans (Nat.le_of_ble_eq_true rfl) hF.2, Nat.le_trans (Nat.le_of_ble_eq_true rfl) hL.2⟩ rfl (Nat.le_of_ble_eq_true rfl) dX2_readNot_83 (fun t83 => ?_)
  refine J_aload_n Y 1 dX2_readNot_86 rfl rfl ?_
  refine J_iload_n Y 2 dX2_readNot_87 rfl rfl ?_
  refine P_cVi (As := [.int v1]) (st := []) rfl X (hrd.2.2.2.1 v1 _) rfl wi_X2_readSum win_X2_readSum wse_X2_readSum wml_RX2_59 ⟨hF.1, Nat.le_trans (Nat.add_le_add_right (Nat.le_of_ble_eq_true rfl) _) hL.1⟩ rfl (Nat.le_of_ble_eq_true rfl) dX2_readNot_88 (fun y88 t88 => ?_)
  refine J_istore_n [(2, .int y88), (3, .int s0), (0, .ref (gO G 1)), (1, .int v1)] Y dX2_readNot_91 rfl (by decide) rfl ?_
  refine J_aload_n Y 2 dX2_readNot_92 rfl rfl ?_
  refine J_iload_n Y 1 dX2_readNot_93 rfl rfl ?_
  refine P_cVv (As := [.int s0]) (st := []) rfl X (c_X2_emit G X.2.2 s0 _) rfl wi_X2_emit win_X2_emit wse_X2_emit wml_RX2_52 ⟨Nat.le_trans (Nat.le_of_ble_eq_true rfl) hF.2, Nat.le_trans (Nat.le_of_ble_eq_true rfl) hL.2⟩ rfl (Nat.le_of_ble_eq_true rfl) dX2_readNot_94 (fun t94 => ?_)
  refine J_sub [0] rfl ?_
  exact j_X2_readNot_L97 X hrd hF hL y88 t94
set_option maxRecDepth 100000 in
set_option maxHeartbeats 4000000 in
theorem j_X2_readNot_L65 {E : JE} {G : JG} {F L F1 L1 : Nat} {rd : Nat → Int32 → ST → Option (Int32 × ST)} (X : JT E 4 cX2_readNot RX2 (some .boolean) F L G) (hrd : RD G (jV E) rd F1 L1) (hF : F1 + 1 ≤ F ∧ 10 ≤ F) (hL : 60 + L1 ≤ L ∧ 600 ≤ L) (v1 : Int32) (σ : ST) : Jg E 4 (JF E vI) [(0, .ref (gO G 1)), (1, .int v1)] 65 [] σ (f_X2_readNot_L65 (gT G) rd v1 σ) := by
  have Y := X.1
  unfold f_X2_readNot_L65
  refine J_aload_n Y 0 dX2_readNot_65 rfl rfl ?_
  refine P_get 4 X (by decide) rfl wfl_RX2_46 rfl dX2_readNot_66 ?_
  refine J_bipush (v := (60 : Int32)) Y dX2_readNot_69 (by decide) ?_
  refine J_icmp_ne (tgt := 79) Y dX2_readNot_71 (by decide) ?_ ?_
  · refine J_bipush (v := (-12 : Int32)) Y dX2_readNot_79 (by decide) ?_
    exact j_X2_readNot_L81 X hrd hF hL v1 (-12 : Int32) σ
  · refine J_bipush (v := (-11 : Int32)) Y dX2_readNot_74 (by decide) ?_
    refine J_goto (tgt := 81) Y dX2_readNot_76 (by decide) ?_
    exact j_X2_readNot_L81 X hrd hF hL v1 (-11 : Int32) σ
set_option maxRecDepth 100000 in
set_option maxHeartbeats 4000000 in
theorem j_X2_readNot {E : JE} {G : JG} {F L F1 L1 : Nat} {rd : Nat → Int32 → ST → Option (Int32 × ST)} (X : JT E 4 cX2_readNot RX2 (some .boolean) F L G) (hrd : RD G (jV E) rd F1 L1) (hF : F1 + 1 ≤ F ∧ 10 ≤ F) (hL : 60 + L1 ≤ L ∧ 600 ≤ L) (v1 : Int32) (σ : ST) : Jg E 4 (JF E vI) [(0, .ref (gO G 1)), (1, .int v1)] 0 [] σ (f_X2_readNot (gT G) rd v1 σ) := by
  have Y := X.1
  unfold f_X2_readNot
  refine J_aload_n Y 0 dX2_readNot_0 rfl rfl ?_
  refine P_get 4 X (by decide) rfl wfl_RX2_46 rfl dX2_readNot_1 ?_
  refine J_sipush (v := (1005 : Int32)) Y dX2_readNot_4 (by decide) ?_
  refine J_icmp_ne (tgt := 37) Y dX2_readNot_7 (by decide) ?_ ?_
  · refine J_aload_n Y 0 dX2_readNot_37 rfl rfl ?_
    refine J_iload_n Y 1 dX2_readNot_38 rfl rfl ?_
    refine P_cVi (As := [.int v1]) (st := []) rfl X (hrd.2.2.2.1 v1 _) rfl wi_X2_readSum win_X2_readSum wse_X2_readSum wml_RX2_59 ⟨hF.1, Nat.le_trans (Nat.add_le_add_right (Nat.le_of_ble_eq_true rfl) _) hL.1⟩ rfl (Nat.le_of_ble_eq_true rfl) dX2_readNot_39 (fun y39 t39 => ?_)
    refine J_istore_n [(2, .int y39), (0, .ref (gO G 1)), (1, .int v1)] Y dX2_readNot_42 rfl (by decide) rfl ?_
    refine J_iload_n Y 0 dX2_readNot_43 rfl rfl ?_
    refine J_if_eq (tgt := 97) Y dX2_readNot_44 (by decide) ?_ ?_
    · refine J_sub [0] rfl ?_
      exact j_X2_readNot_L97 X hrd hF hL y39 t39
    · refine J_aload_n Y 1 dX2_readNot_47 rfl rfl ?_
      refine P_get 4 X (by decide) rfl wfl_RX2_46 rfl dX2_readNot_48 ?_
      refine J_bipush (v := (60 : Int32)) Y dX2_readNot_51 (by decide) ?_
      refine J_icmp_eq (tgt := 65) Y dX2_readNot_53 (by decide) ?_ ?_
      · refine J_sub [1, 2] rfl ?_
        exact j_X2_readNot_L65 X hrd hF hL v1 t39
      · refine J_aload_n Y 1 dX2_readNot_56 rfl rfl ?_
        refine P_get 4 X (by decide) rfl wfl_RX2_46 rfl dX2_readNot_57 ?_
        refine J_bipush (v := (61 : Int32)) Y dX2_readNot_60 (by decide) ?_
        refine J_icmp_ne (tgt := 97) Y dX2_readNot_62 (by decide) ?_ ?_
        · refine J_sub [0] rfl ?_
          exact j_X2_readNot_L97 X hrd hF hL y39 t39
        · refine J_sub [1, 2] rfl ?_
          exact j_X2_readNot_L65 X hrd hF hL v1 t39
  · refine J_iload_n Y 1 dX2_readNot_10 rfl rfl ?_
    refine J_iconst (v := (5 : Int32)) Y dX2_readNot_11 (by decide) ?_
    refine J_icmp_lt (tgt := 17) Y dX2_readNot_12 (by decide) ?_ ?_
    · refine J_aload_n Y 0 dX2_readNot_17 rfl rfl ?_
      refine P_cVv (As := []) (st := []) rfl X (c_X2_readToken G X.2.2 _) rfl wi_X2_readToken win_X2_readToken wse_X2_readToken wml_RX2_36 ⟨Nat.le_trans (Nat.le_of_ble_eq_true rfl) hF.2, Nat.le_trans (Nat.le_of_ble_eq_true rfl) hL.2⟩ rfl (Nat.le_of_ble_eq_true rfl) dX2_readNot_18 (fun t18 => ?_)
      refine J_aload_n Y 0 dX2_readNot_21 rfl rfl ?_
      refine J_iload_n Y 1 dX2_readNot_22 rfl rfl ?_
      refine J_iconst (v := (1 : Int32)) Y dX2_readNot_23 (by decide) ?_
      refine J_iadd Y dX2_readNot_24 ?_
      refine P_cVi (As := [.int (v1 + (1 : Int32))]) (st := []) rfl X (hrd.2.2.1 (v1 + (1 : Int32)) _) rfl wi_X2_readNot win_X2_readNot wse_X2_readNot wml_RX2_56 ⟨hF.1, Nat.le_trans (Nat.add_le_add_right (Nat.le_of_ble_eq_true rfl) _) hL.1⟩ rfl (Nat.le_of_ble_eq_true rfl) dX2_readNot_25 (fun y25 t25 => ?_)
      refine J_istore_n [(2, .int y25), (0, .ref (gO G 1)), (1, .int v1)] Y dX2_readNot_28 rfl (by decide) rfl ?_
      refine J_aload_n Y 1 dX2_readNot_29 rfl rfl ?_
      refine J_bipush (v := (-8 : Int32)) Y dX2_readNot_30 (by decide) ?_
      refine P_cVv (As := [.int (-8 : Int32)]) (st := []) rfl X (c_X2_emit G X.2.2 (-8 : Int32) _) rfl wi_X2_emit win_X2_emit wse_X2_emit wml_RX2_52 ⟨Nat.le_trans (Nat.le_of_ble_eq_true rfl) hF.2, Nat.le_trans (Nat.le_of_ble_eq_true rfl) hL.2⟩ rfl (Nat.le_of_ble_eq_true rfl) dX2_readNot_32 (fun t32 => ?_)
      refine J_iload_n Y 0 dX2_readNot_35 rfl rfl ?_
      exact J_zreturn Y dX2_readNot_36
    · refine J_iconst (v := (0 : Int32)) Y dX2_readNot_15 (by decide) ?_
      exact J_zreturn Y dX2_readNot_16
set_option maxRecDepth 100000 in
set_option maxHeartbeats 4000000 in
theorem j_X2_readSum_L53 {E : JE} {G : JG} {F L F1 L1 : Nat} {rd : Nat → Int32 → ST → Option (Int32 × ST)} (X : JT E 5 cX2_readSum RX2 (some .boolean) F L G) (hrd : RD G (jV E) rd F1 L1) (hF : F1 + 1 ≤ F ∧ 10 ≤ F) (hL : 60 + L1 ≤ L ∧ 600 ≤ L) {k8 : Int32 → Int32 → Int32 → ST → Option (Int32 × ST)} (hk8 : ∀ (v1 : Int32) (v2 : Int32) (v3 : Int32) (σ : ST), Jg E 5 (JF E vI) [(0, .ref (gO G 1)), (1, .int v1), (2, .int v2), (3, .int v3)] 8 [] σ (k8 v1 v2 v3 σ)) (v1 : Int32) (v3 : Int32) (s0 : Int32) (σ : ST) : Jg E 5 (JF E vI) [(0, .ref (gO G 1)), (1, .int v1), (3, .int v3)] 53 [.int s0] σ (f_X2_readSum_L53 (gT G) rd k8 v1 v3 s0 σ) := by
  have Y := X.1
  unfold f_X2_readSum_L53
  refine J_istore [(4, .int s0), (0, .ref (gO G 1)), (1, .int v1), (3, .int v3)] Y dX2_readSum_53 (by decide) rfl ?_
  refine J_aload_n Y 1 dX2_readSum_55 rfl rfl ?_
  refine P_cVv (As := []) (st := []) rfl X (c_X2_readToken G X.2.2 _) rfl wi_X2_readToken win_X2_readToken wse_X2_readToken wml_RX2_36 ⟨Nat.le_trans (Nat.le_of_ble_eq_true rfl) hF.2, Nat.le_trans (Nat.le_of_ble_eq_true rfl) hL.2⟩ rfl (Nat.le_of_ble_eq_true rfl) dX2_readSum_56 (fun t56 => ?_)
  refine J_aload_n Y 1 dX2_readSum_59 rfl rfl ?_
  refine J_iload_n Y 2 dX2_readSum_60 rfl rfl ?_
  refine P_cVi (As := [.int v1]) (st := []) rfl X (hrd.2.2.2.2.1 v1 _) rfl wi_X2_readTerm win_X2_readTerm wse_X2_readTerm wml_RX2_62 ⟨hF.1, Nat.le_trans (Nat.add_le_add_right (Nat.le_of_ble_eq_true rfl) _) hL.1⟩ rfl (Nat.le_of_ble_eq_true rfl) dX2_readSum_61 (fun y61 t61 => ?_)
  refine J_istore_n [(2, .int y61), (4, .int s0), (0, .ref (gO G 1)), (1, .int v1), (3, .int v3)] Y dX2_readSum_64 rfl (by decide) rfl ?_
  refine J_aload_n Y 2 dX2_readSum_65 rfl rfl ?_
  refine J_iload Y 1 dX2_readSum_66 rfl ?_
  refine P_cVv (As := [.int s0]) (st := []) rfl X (c_X2_emit G X.2.2 s0 _) rfl wi_X2_emit win_X2_emit wse_X2_emit wml_RX2_52 ⟨Nat.le_trans (Nat.le_of_ble_eq_true rfl) hF.2, Nat.le_trans (Nat.le_of_ble_eq_true rfl) hL.2⟩ rfl (Nat.le_of_ble_eq_true rfl) dX2_readSum_68 (fun t68 => ?_)
  refine J_iinc (v := v3 + (1 : Int32)) [(3, .int (v3 + (1 : Int32))), (2, .int y61), (4, .int s0), (0, .ref (gO G 1)), (1, .int v1)] Y 4 dX2_readSum_71 rfl (congrArg (fun z => _ + z) (by decide)) (by decide) rfl ?_
  refine J_goto (tgt := 8) Y dX2_readSum_74 (by decide) ?_
  refine J_sub [3, 4, 1, 0] rfl ?_
  exact hk8 v1 y61 (v3 + (1 : Int32)) t68
set_option maxRecDepth 100000 in
set_option maxHeartbeats 4000000 in
theorem j_X2_readSum_L37 {E : JE} {G : JG} {F L F1 L1 : Nat} {rd : Nat → Int32 → ST → Option (Int32 × ST)} (X : JT E 5 cX2_readSum RX2 (some .boolean) F L G) (hrd : RD G (jV E) rd F1 L1) (hF : F1 + 1 ≤ F ∧ 10 ≤ F) (hL : 60 + L1 ≤ L ∧ 600 ≤ L) {k8 : Int32 → Int32 → Int32 → ST → Option (Int32 × ST)} (hk8 : ∀ (v1 : Int32) (v2 : Int32) (v3 : Int32) (σ : ST), Jg E 5 (JF E vI) [(0, .ref (gO G 1)), (1, .int v1), (2, .int v2), (3, .int v3)] 8 [] σ (k8 v1 v2 v3 σ)) (v1 : Int32) (v3 : Int32) (σ : ST) : Jg E 5 (JF E vI) [(0, .ref (gO G 1)), (1, .int v1), (3, .int v3)] 37 [] σ (f_X2_readSum_L37 (gT G) rd k8 v1 v3 σ) := by
  have Y := X.1
  unfold f_X2_readSum_L37
  refine J_aload_n Y 0 dX2_readSum_37 rfl rfl ?_
  refine P_get 4 X (by decide) rfl wfl_RX2_46 rfl dX2_readSum_38 ?_
  refine J_bipush (v := (43 : Int32)) Y dX2_readSum_41 (by decide) ?_
  refine J_icmp_ne (tgt := 51) Y dX2_readSum_43 (by decide) ?_ ?_
  · refine J_bipush (v := (-14 : Int32)) Y dX2_readSum_51 (by decide) ?_
    exact j_X2_readSum_L53 X hrd hF hL hk8 v1 v3 (-14 : Int32) σ
  · refine J_bipush (v := (-13 : Int32)) Y dX2_readSum_46 (by decide) ?_
    refine J_goto (tgt := 53) Y dX2_readSum_48 (by decide) ?_
    exact j_X2_readSum_L53 X hrd hF hL hk8 v1 v3 (-13 : Int32) σ
set_option maxRecDepth 100000 in
set_option maxHeartbeats 4000000 in
theorem j_X2_readSum_L77 {E : JE} {G : JG} {F L F1 L1 : Nat} {rd : Nat → Int32 → ST → Option (Int32 × ST)} (X : JT E 5 cX2_readSum RX2 (some .boolean) F L G) (hrd : RD G (jV E) rd F1 L1) (hF : F1 + 1 ≤ F ∧ 10 ≤ F) (hL : 60 + L1 ≤ L ∧ 600 ≤ L) (v2 : Int32) (σ : ST) : Jg E 5 (JF E vI) [(2, .int v2)] 77 [] σ (f_X2_readSum_L77 (gT G) rd v2 σ) := by
  have Y := X.1
  unfold f_X2_readSum_L77
  refine J_iload_n Y 0 dX2_readSum_77 rfl rfl ?_
  exact J_zreturn Y dX2_readSum_78
set_option maxRecDepth 100000 in
set_option maxHeartbeats 4000000 in
theorem j_X2_readSum_L8 {E : JE} {G : JG} {F L F1 L1 : Nat} {rd : Nat → Int32 → ST → Option (Int32 × ST)} (X : JT E 5 cX2_readSum RX2 (some .boolean) F L G) (hrd : RD G (jV E) rd F1 L1) (hF : F1 + 1 ≤ F ∧ 10 ≤ F) (hL : 60 + L1 ≤ L ∧ 600 ≤ L) : ∀ (n : Nat) (v1 : Int32) (v2 : Int32) (v3 : Int32) (σ : ST), Jg E 5 (JF E vI) [(0, .ref (gO G 1)), (1, .int v1), (2, .int v2), (3, .int v3)] 8 [] σ (f_X2_readSum_L8 (gT G) rd n v1 v2 v3 σ) := by
  have Y := X.1
  intro n
  induction n with
  | zero => intro v1 v2 v3 σ; rw [f_X2_readSum_L8]; exact J_none
  | succ n ih =>
    intro v1 v2 v3 σ
    rw [f_X2_readSum_L8]
    refine J_iload_n Y 3 dX2_readSum_8 rfl rfl ?_
    refine J_sipush (v := (160 : Int32)) Y dX2_readSum_9 (by decide) ?_
    refine J_icmp_ge (tgt := 77) Y dX2_readSum_12 (by decide) ?_ ?_
    · refine J_sub [2] rfl ?_
      exact j_X2_readSum_L77 X hrd hF hL v2 σ
    · refine J_iload_n Y 2 dX2_readSum_15 rfl rfl ?_
      refine J_if_eq (tgt := 77) Y dX2_readSum_16 (by decide) ?_ ?_
      · refine J_sub [2] rfl ?_
        exact j_X2_readSum_L77 X hrd hF hL v2 σ
      · refine J_aload_n Y 0 dX2_readSum_19 rfl rfl ?_
        refine P_get 4 X (by decide) rfl wfl_RX2_46 rfl dX2_readSum_20 ?_
        refine J_bipush (v := (43 : Int32)) Y dX2_readSum_23 (by decide) ?_
        refine J_icmp_eq (tgt := 37) Y dX2_readSum_25 (by decide) ?_ ?_
        · refine J_sub [0, 1, 3] rfl ?_
          exact j_X2_readSum_L37 X hrd hF hL (fun v1 v2 v3 σ => ih v1 v2 v3 σ) v1 v3 σ
        · refine J_aload_n Y 0 dX2_readSum_28 rfl rfl ?_
          refine P_get 4 X (by decide) rfl wfl_RX2_46 rfl dX2_readSum_29 ?_
          refine J_bipush (v := (45 : Int32)) Y dX2_readSum_32 (by decide) ?_
          refine J_icmp_ne (tgt := 77) Y dX2_readSum_34 (by decide) ?_ ?_
          · refine J_sub [2] rfl ?_
            exact j_X2_readSum_L77 X hrd hF hL v2 σ
          · refine J_sub [0, 1, 3] rfl ?_
            exact j_X2_readSum_L37 X hrd hF hL (fun v1 v2 v3 σ => ih v1 v2 v3 σ) v1 v3 σ
set_option maxRecDepth 100000 in
set_option maxHeartbeats 4000000 in
theorem j_X2_readSum {E : JE} {G : JG} {F L F1 L1 : Nat} {rd : Nat → Int32 → ST → Option (Int32 × ST)} (X : JT E 5 cX2_readSum RX2 (some .boolean) F L G) (hrd : RD G (jV E) rd F1 L1) (hF : F1 + 1 ≤ F ∧ 10 ≤ F) (hL : 60 + L1 ≤ L ∧ 600 ≤ L) (v1 : Int32) (σ : ST) : Jg E 5 (JF E vI) [(0, .ref (gO G 1)), (1, .int v1)] 0 [] σ (f_X2_readSum (gT G) rd v1 σ) := by
  have Y := X.1
  unfold f_X2_readSum
  refine J_aload_n Y 0 dX2_readSum_0 rfl rfl ?_
  refine J_iload_n Y 1 dX2_readSum_1 rfl rfl ?_
  refine P_cVi (As := [.int v1]) (st := []) rfl X (hrd.2.2.2.2.1 v1 _) rfl wi_X2_readTerm win_X2_readTerm wse_X2_readTerm wml_RX2_62 ⟨hF.1, Nat.le_trans (Nat.add_le_add_right (Nat.le_of_ble_eq_true rfl) _) hL.1⟩ rfl (Nat.le_of_ble_eq_true rfl) dX2_readSum_2 (fun y2 t2 => ?_)
  refine J_istore_n [(2, .int y2), (0, .ref (gO G 1)), (1, .int v1)] Y dX2_readSum_5 rfl (by decide) rfl ?_
  refine J_iconst (v := (0 : Int32)) Y dX2_readSum_6 (by decide) ?_
  refine J_istore_n [(3, .int (0 : Int32)), (2, .int y2), (0, .ref (gO G 1)), (1, .int v1)] Y dX2_readSum_7 rfl (by decide) rfl ?_
  refine J_sub [2, 3, 1, 0] rfl ?_
  exact j_X2_readSum_L8 X hrd hF hL 1000 v1 y2 (0 : Int32) t2
set_option maxRecDepth 100000 in
set_option maxHeartbeats 4000000 in
theorem j_X2_readTerm_L50 {E : JE} {G : JG} {F L F1 L1 : Nat} {rd : Nat → Int32 → ST → Option (Int32 × ST)} (X : JT E 4 cX2_readTerm RX2 (some .boolean) F L G) (hrd : RD G (jV E) rd F1 L1) (hF : F1 + 1 ≤ F ∧ 10 ≤ F) (hL : 60 + L1 ≤ L ∧ 600 ≤ L) (v2 : Int32) (σ : ST) : Jg E 4 (JF E vI) [(2, .int v2)] 50 [] σ (f_X2_readTerm_L50 (gT G) rd v2 σ) := by
  have Y := X.1
  unfold f_X2_readTerm_L50
  refine J_iload_n Y 0 dX2_readTerm_50 rfl rfl ?_
  exact J_zreturn Y dX2_readTerm_51
set_option maxRecDepth 100000 in
set_option maxHeartbeats 4000000 in
theorem j_X2_readTerm_L8 {E : JE} {G : JG} {F L F1 L1 : Nat} {rd : Nat → Int32 → ST → Option (Int32 × ST)} (X : JT E 4 cX2_readTerm RX2 (some .boolean) F L G) (hrd : RD G (jV E) rd F1 L1) (hF : F1 + 1 ≤ F ∧ 10 ≤ F) (hL : 60 + L1 ≤ L ∧ 600 ≤ L) : ∀ (n : Nat) (v1 : Int32) (v2 : Int32) (v3 : Int32) (σ : ST), Jg E 4 (JF E vI) [(0, .ref (gO G 1)), (1, .int v1), (2, .int v2), (3, .int v3)] 8 [] σ (f_X2_readTerm_L8 (gT G) rd n v1 v2 v3 σ) := by
  have Y := X.1
  intro n
  induction n with
  | zero => intro v1 v2 v3 σ; rw [f_X2_readTerm_L8]; exact J_none
  | succ n ih =>
    intro v1 v2 v3 σ
    rw [f_X2_readTerm_L8]
    refine J_iload_n Y 3 dX2_readTerm_8 rfl rfl ?_
    refine J_sipush (v := (160 : Int32)) Y dX2_readTerm_9 (by decide) ?_
    refine J_icmp_ge (tgt := 50) Y dX2_readTerm_12 (by decide) ?_ ?_
    · refine J_sub [2] rfl ?_
      exact j_X2_readTerm_L50 X hrd hF hL v2 σ
    · refine J_iload_n Y 2 dX2_readTerm_15 rfl rfl ?_
      refine J_if_eq (tgt := 50) Y dX2_readTerm_16 (by decide) ?_ ?_
      · refine J_sub [2] rfl ?_
        exact j_X2_readTerm_L50 X hrd hF hL v2 σ
      · refine J_aload_n Y 0 dX2_readTerm_19 rfl rfl ?_
        refine P_get 4 X (by decide) rfl wfl_RX2_46 rfl dX2_readTerm_20 ?_
        refine J_bipush (v := (42 : Int32)) Y dX2_readTerm_23 (by decide) ?_
        refine J_icmp_ne (tgt := 50) Y dX2_readTerm_25 (by decide) ?_ ?_
        · refine J_sub [2] rfl ?_
          exact j_X2_readTerm_L50 X hrd hF hL v2 σ
        · refine J_aload_n Y 0 dX2_readTerm_28 rfl rfl ?_
          refine P_cVv (As := []) (st := []) rfl X (c_X2_readToken G X.2.2 _) rfl wi_X2_readToken win_X2_readToken wse_X2_readToken wml_RX2_36 ⟨Nat.le_trans (Nat.le_of_ble_eq_true rfl) hF.2, Nat.le_trans (Nat.le_of_ble_eq_true rfl) hL.2⟩ rfl (Nat.le_of_ble_eq_true rfl) dX2_readTerm_29 (fun t29 => ?_)
          refine J_aload_n Y 0 dX2_readTerm_32 rfl rfl ?_
          refine J_iload_n Y 1 dX2_readTerm_33 rfl rfl ?_
          refine P_cVi (As := [.int v1]) (st := []) rfl X (hrd.2.2.2.2.2 v1 _) rfl wi_X2_readOne win_X2_readOne wse_X2_readOne wml_RX2_65 ⟨hF.1, Nat.le_trans (Nat.add_le_add_right (Nat.le_of_ble_eq_true rfl) _) hL.1⟩ rfl (Nat.le_of_ble_eq_true rfl) dX2_readTerm_34 (fun y34 t34 => ?_)
          refine J_istore_n [(2, .int y34), (0, .ref (gO G 1)), (1, .int v1), (3, .int v3)] Y dX2_readTerm_37 rfl (by decide) rfl ?_
          refine J_aload_n Y 1 dX2_readTerm_38 rfl rfl ?_
          refine J_bipush (v := (-15 : Int32)) Y dX2_readTerm_39 (by decide) ?_
          refine P_cVv (As := [.int (-15 : Int32)]) (st := []) rfl X (c_X2_emit G X.2.2 (-15 : Int32) _) rfl wi_X2_emit win_X2_emit wse_X2_emit wml_RX2_52 ⟨Nat.le_trans (Nat.le_of_ble_eq_true rfl) hF.2, Nat.le_trans (Nat.le_of_ble_eq_true rfl) hL.2⟩ rfl (Nat.le_of_ble_eq_true rfl) dX2_readTerm_41 (fun t41 => ?_)
          refine J_iinc (v := v3 + (1 : Int32)) [(3, .int (v3 + (1 : Int32))), (2, .int y34), (0, .ref (gO G 1)), (1, .int v1)] Y 3 dX2_readTerm_44 rfl (congrArg (fun z => _ + z) (by decide)) (by decide) rfl ?_
          refine J_goto (tgt := 8) Y dX2_readTerm_47 (by decide) ?_
          refine J_sub [2, 3, 1, 0] rfl ?_
          exact ih v1 y34 (v3 + (1 : Int32)) t41
set_option maxRecDepth 100000 in
set_option maxHeartbeats 4000000 in
theorem j_X2_readTerm {E : JE} {G : JG} {F L F1 L1 : Nat} {rd : Nat → Int32 → ST → Option (Int32 × ST)} (X : JT E 4 cX2_readTerm RX2 (some .boolean) F L G) (hrd : RD G (jV E) rd F1 L1) (hF : F1 + 1 ≤ F ∧ 10 ≤ F) (hL : 60 + L1 ≤ L ∧ 600 ≤ L) (v1 : Int32) (σ : ST) : Jg E 4 (JF E vI) [(0, .ref (gO G 1)), (1, .int v1)] 0 [] σ (f_X2_readTerm (gT G) rd v1 σ) := by
  have Y := X.1
  unfold f_X2_readTerm
  refine J_aload_n Y 0 dX2_readTerm_0 rfl rfl ?_
  refine J_iload_n Y 1 dX2_readTerm_1 rfl rfl ?_
  refine P_cVi (As := [.int v1]) (st := []) rfl X (hrd.2.2.2.2.2 v1 _) rfl wi_X2_readOne win_X2_readOne wse_X2_readOne wml_RX2_65 ⟨hF.1, Nat.le_trans (Nat.add_le_add_right (Nat.le_of_ble_eq_true rfl) _) hL.1⟩ rfl (Nat.le_of_ble_eq_true rfl) dX2_readTerm_2 (fun y2 t2 => ?_)
  refine J_istore_n [(2, .int y2), (0, .ref (gO G 1)), (1, .int v1)] Y dX2_readTerm_5 rfl (by decide) rfl ?_
  refine J_iconst (v := (0 : Int32)) Y dX2_readTerm_6 (by decide) ?_
  refine J_istore_n [(3, .int (0 : Int32)), (2, .int y2), (0, .ref (gO G 1)), (1, .int v1)] Y dX2_readTerm_7 rfl (by decide) rfl ?_
  refine J_sub [2, 3, 1, 0] rfl ?_
  exact j_X2_readTerm_L8 X hrd hF hL 1000 v1 y2 (0 : Int32) t2
set_option maxRecDepth 100000 in
set_option maxHeartbeats 4000000 in
theorem j_X2_readOne_L75 {E : JE} {G : JG} {F L F1 L1 : Nat} {rd : Nat → Int32 → ST → Option (Int32 × ST)} (X : JT E 3 cX2_readOne RX2 (some .boolean) F L G) (hrd : RD G (jV E) rd F1 L1) (hF : F1 + 1 ≤ F ∧ 10 ≤ F) (hL : 60 + L1 ≤ L ∧ 600 ≤ L) (σ : ST) : Jg E 3 (JF E vI) [] 75 [] σ (f_X2_readOne_L75 (gT G) rd σ) := by
  have Y := X.1
  unfold f_X2_readOne_L75
  refine J_iconst (v := (0 : Int32)) Y dX2_readOne_75 (by decide) ?_
  exact J_zreturn Y dX2_readOne_76
set_option maxRecDepth 100000 in
set_option maxHeartbeats 4000000 in
theorem j_X2_readOne_L114 {E : JE} {G : JG} {F L F1 L1 : Nat} {rd : Nat → Int32 → ST → Option (Int32 × ST)} (X : JT E 3 cX2_readOne RX2 (some .boolean) F L G) (hrd : RD G (jV E) rd F1 L1) (hF : F1 + 1 ≤ F ∧ 10 ≤ F) (hL : 60 + L1 ≤ L ∧ 600 ≤ L) (s0 : Int32) (σ : ST) : Jg E 3 (JF E vI) [] 114 [.int s0] σ (f_X2_readOne_L114 (gT G) rd s0 σ) := by
  have Y := X.1
  unfold f_X2_readOne_L114
  exact J_zreturn Y dX2_readOne_114
set_option maxRecDepth 100000 in
set_option maxHeartbeats 4000000 in
theorem j_X2_readOne_L113 {E : JE} {G : JG} {F L F1 L1 : Nat} {rd : Nat → Int32 → ST → Option (Int32 × ST)} (X : JT E 3 cX2_readOne RX2 (some .boolean) F L G) (hrd : RD G (jV E) rd F1 L1) (hF : F1 + 1 ≤ F ∧ 10 ≤ F) (hL : 60 + L1 ≤ L ∧ 600 ≤ L) (σ : ST) : Jg E 3 (JF E vI) [] 113 [] σ (f_X2_readOne_L113 (gT G) rd σ) := by
  have Y := X.1
  unfold f_X2_readOne_L113
  refine J_iconst (v := (0 : Int32)) Y dX2_readOne_113 (by decide) ?_
  exact j_X2_readOne_L114 X hrd hF hL (0 : Int32) σ
set_option maxRecDepth 100000 in
set_option maxHeartbeats 4000000 in
theorem j_X2_readOne_L70 {E : JE} {G : JG} {F L F1 L1 : Nat} {rd : Nat → Int32 → ST → Option (Int32 × ST)} (X : JT E 3 cX2_readOne RX2 (some .boolean) F L G) (hrd : RD G (jV E) rd F1 L1) (hF : F1 + 1 ≤ F ∧ 10 ≤ F) (hL : 60 + L1 ≤ L ∧ 600 ≤ L) (v1 : Int32) (σ : ST) : Jg E 3 (JF E vI) [(0, .ref (gO G 1)), (1, .int v1)] 70 [] σ (f_X2_readOne_L70 (gT G) rd v1 σ) := by
  have Y := X.1
  unfold f_X2_readOne_L70
  refine J_iload_n Y 1 dX2_readOne_70 rfl rfl ?_
  refine J_iconst (v := (5 : Int32)) Y dX2_readOne_71 (by decide) ?_
  refine J_icmp_lt (tgt := 77) Y dX2_readOne_72 (by decide) ?_ ?_
  · refine J_aload_n Y 0 dX2_readOne_77 rfl rfl ?_
    refine P_get 4 X (by decide) rfl wfl_RX2_46 rfl dX2_readOne_78 ?_
    refine J_bipush (v := (40 : Int32)) Y dX2_readOne_81 (by decide) ?_
    refine J_icmp_ne (tgt := 115) Y dX2_readOne_83 (by decide) ?_ ?_
    · refine J_aload_n Y 0 dX2_readOne_115 rfl rfl ?_
      refine P_cVv (As := []) (st := []) rfl X (c_X2_readToken G X.2.2 _) rfl wi_X2_readToken win_X2_readToken wse_X2_readToken wml_RX2_36 ⟨Nat.le_trans (Nat.le_of_ble_eq_true rfl) hF.2, Nat.le_trans (Nat.le_of_ble_eq_true rfl) hL.2⟩ rfl (Nat.le_of_ble_eq_true rfl) dX2_readOne_116 (fun t116 => ?_)
      refine J_aload_n Y 0 dX2_readOne_119 rfl rfl ?_
      refine J_iload_n Y 1 dX2_readOne_120 rfl rfl ?_
      refine J_iconst (v := (1 : Int32)) Y dX2_readOne_121 (by decide) ?_
      refine J_iadd Y dX2_readOne_122 ?_
      refine P_cVi (As := [.int (v1 + (1 : Int32))]) (st := []) rfl X (hrd.2.2.2.2.2 (v1 + (1 : Int32)) _) rfl wi_X2_readOne win_X2_readOne wse_X2_readOne wml_RX2_65 ⟨hF.1, Nat.le_trans (Nat.add_le_add_right (Nat.le_of_ble_eq_true rfl) _) hL.1⟩ rfl (Nat.le_of_ble_eq_true rfl) dX2_readOne_123 (fun y123 t123 => ?_)
      refine J_istore_n [(2, .int y123), (0, .ref (gO G 1)), (1, .int v1)] Y dX2_readOne_126 rfl (by decide) rfl ?_
      refine J_aload_n Y 1 dX2_readOne_127 rfl rfl ?_
      refine J_bipush (v := (-7 : Int32)) Y dX2_readOne_128 (by decide) ?_
      refine P_cVv (As := [.int (-7 : Int32)]) (st := []) rfl X (c_X2_emit G X.2.2 (-7 : Int32) _) rfl wi_X2_emit win_X2_emit wse_X2_emit wml_RX2_52 ⟨Nat.le_trans (Nat.le_of_ble_eq_true rfl) hF.2, Nat.le_trans (Nat.le_of_ble_eq_true rfl) hL.2⟩ rfl (Nat.le_of_ble_eq_true rfl) dX2_readOne_130 (fun t130 => ?_)
      refine J_iload_n Y 0 dX2_readOne_133 rfl rfl ?_
      exact J_zreturn Y dX2_readOne_134
    · refine J_aload_n Y 0 dX2_readOne_86 rfl rfl ?_
      refine P_cVv (As := []) (st := []) rfl X (c_X2_readToken G X.2.2 _) rfl wi_X2_readToken win_X2_readToken wse_X2_readToken wml_RX2_36 ⟨Nat.le_trans (Nat.le_of_ble_eq_true rfl) hF.2, Nat.le_trans (Nat.le_of_ble_eq_true rfl) hL.2⟩ rfl (Nat.le_of_ble_eq_true rfl) dX2_readOne_87 (fun t87 => ?_)
      refine J_aload_n Y 0 dX2_readOne_90 rfl rfl ?_
      refine J_iload_n Y 1 dX2_readOne_91 rfl rfl ?_
      refine J_iconst (v := (1 : Int32)) Y dX2_readOne_92 (by decide) ?_
      refine J_iadd Y dX2_readOne_93 ?_
      refine P_cVi (As := [.int (v1 + (1 : Int32))]) (st := []) rfl X (hrd.1 (v1 + (1 : Int32)) _) rfl wi_X2_readAny win_X2_readAny wse_X2_readAny wml_RX2_43 ⟨hF.1, Nat.le_trans (Nat.add_le_add_right (Nat.le_of_ble_eq_true rfl) _) hL.1⟩ rfl (Nat.le_of_ble_eq_true rfl) dX2_readOne_94 (fun y94 t94 => ?_)
      refine J_if_eq (tgt := 113) Y dX2_readOne_97 (by decide) ?_ ?_
      · refine J_sub [] rfl ?_
        exact j_X2_readOne_L113 X hrd hF hL  t94
      · refine J_aload_n Y 0 dX2_readOne_100 rfl rfl ?_
        refine J_bipush (v := (41 : Int32)) Y dX2_readOne_101 (by decide) ?_
        refine P_cVi (As := [.int (41 : Int32)]) (st := []) rfl X (c_X2_passes G X.2.2 (41 : Int32) _) rfl wi_X2_passes win_X2_passes wse_X2_passes wml_RX2_39 ⟨Nat.le_trans (Nat.le_of_ble_eq_true rfl) hF.2, Nat.le_trans (Nat.le_of_ble_eq_true rfl) hL.2⟩ rfl (Nat.le_of_ble_eq_true rfl) dX2_readOne_103 (fun y103 t103 => ?_)
        refine J_if_eq (tgt := 113) Y dX2_readOne_106 (by decide) ?_ ?_
        · refine J_sub [] rfl ?_
          exact j_X2_readOne_L113 X hrd hF hL  t103
        · refine J_iconst (v := (1 : Int32)) Y dX2_readOne_109 (by decide) ?_
          refine J_goto (tgt := 114) Y dX2_readOne_110 (by decide) ?_
          refine J_sub [] rfl ?_
          exact j_X2_readOne_L114 X hrd hF hL (1 : Int32) t103
  · refine J_sub [] rfl ?_
    exact j_X2_readOne_L75 X hrd hF hL  σ
set_option maxRecDepth 100000 in
set_option maxHeartbeats 4000000 in
theorem j_X2_readOne {E : JE} {G : JG} {F L F1 L1 : Nat} {rd : Nat → Int32 → ST → Option (Int32 × ST)} (X : JT E 3 cX2_readOne RX2 (some .boolean) F L G) (hrd : RD G (jV E) rd F1 L1) (hF : F1 + 1 ≤ F ∧ 10 ≤ F) (hL : 60 + L1 ≤ L ∧ 600 ≤ L) (v1 : Int32) (σ : ST) : Jg E 3 (JF E vI) [(0, .ref (gO G 1)), (1, .int v1)] 0 [] σ (f_X2_readOne (gT G) rd v1 σ) := by
  have Y := X.1
  unfold f_X2_readOne
  refine J_aload_n Y 0 dX2_readOne_0 rfl rfl ?_
  refine P_get 4 X (by decide) rfl wfl_RX2_46 rfl dX2_readOne_1 ?_
  refine J_iconst (v := (1 : Int32)) Y dX2_readOne_4 (by decide) ?_
  refine J_icmp_ne (tgt := 22) Y dX2_readOne_5 (by decide) ?_ ?_
  · refine J_aload_n Y 0 dX2_readOne_22 rfl rfl ?_
    refine P_get 4 X (by decide) rfl wfl_RX2_46 rfl dX2_readOne_23 ?_
    refine J_sipush (v := (1006 : Int32)) Y dX2_readOne_26 (by decide) ?_
    refine J_icmp_lt (tgt := 52) Y dX2_readOne_29 (by decide) ?_ ?_
    · refine J_aload_n Y 0 dX2_readOne_52 rfl rfl ?_
      refine P_get 4 X (by decide) rfl wfl_RX2_46 rfl dX2_readOne_53 ?_
      refine J_bipush (v := (45 : Int32)) Y dX2_readOne_56 (by decide) ?_
      refine J_icmp_eq (tgt := 70) Y dX2_readOne_58 (by decide) ?_ ?_
      · exact j_X2_readOne_L70 X hrd hF hL v1 σ
      · refine J_aload_n Y 0 dX2_readOne_61 rfl rfl ?_
        refine P_get 4 X (by decide) rfl wfl_RX2_46 rfl dX2_readOne_62 ?_
        refine J_bipush (v := (40 : Int32)) Y dX2_readOne_65 (by decide) ?_
        refine J_icmp_ne (tgt := 75) Y dX2_readOne_67 (by decide) ?_ ?_
        · refine J_sub [] rfl ?_
          exact j_X2_readOne_L75 X hrd hF hL  σ
        · exact j_X2_readOne_L70 X hrd hF hL v1 σ
    · refine J_aload_n Y 0 dX2_readOne_32 rfl rfl ?_
      refine J_iconst (v := (-1 : Int32)) Y dX2_readOne_33 (by decide) ?_
      refine J_aload_n Y 0 dX2_readOne_34 rfl rfl ?_
      refine P_get 4 X (by decide) rfl wfl_RX2_46 rfl dX2_readOne_35 ?_
      refine J_sipush (v := (1006 : Int32)) Y dX2_readOne_38 (by decide) ?_
      refine J_isub Y dX2_readOne_41 ?_
      refine J_isub Y dX2_readOne_42 ?_
      refine P_cVv (As := [.int ((-1 : Int32) - ((gs 1 4 σ) - (1006 : Int32)))]) (st := []) rfl X (c_X2_emit G X.2.2 ((-1 : Int32) - ((gs 1 4 σ) - (1006 : Int32))) _) rfl wi_X2_emit win_X2_emit wse_X2_emit wml_RX2_52 ⟨Nat.le_trans (Nat.le_of_ble_eq_true rfl) hF.2, Nat.le_trans (Nat.le_of_ble_eq_true rfl) hL.2⟩ rfl (Nat.le_of_ble_eq_true rfl) dX2_readOne_43 (fun t43 => ?_)
      refine J_aload_n Y 0 dX2_readOne_46 rfl rfl ?_
      refine P_cVv (As := []) (st := []) rfl X (c_X2_readToken G X.2.2 _) rfl wi_X2_readToken win_X2_readToken wse_X2_readToken wml_RX2_36 ⟨Nat.le_trans (Nat.le_of_ble_eq_true rfl) hF.2, Nat.le_trans (Nat.le_of_ble_eq_true rfl) hL.2⟩ rfl (Nat.le_of_ble_eq_true rfl) dX2_readOne_47 (fun t47 => ?_)
      refine J_iconst (v := (1 : Int32)) Y dX2_readOne_50 (by decide) ?_
      exact J_zreturn Y dX2_readOne_51
  · refine J_aload_n Y 0 dX2_readOne_8 rfl rfl ?_
    refine J_aload_n Y 0 dX2_readOne_9 rfl rfl ?_
    refine P_get 5 X (by decide) rfl wfl_RX2_68 rfl dX2_readOne_10 ?_
    refine P_cVv (As := [.int (gs 1 5 σ)]) (st := []) rfl X (c_X2_emit G X.2.2 (gs 1 5 σ) _) rfl wi_X2_emit win_X2_emit wse_X2_emit wml_RX2_52 ⟨Nat.le_trans (Nat.le_of_ble_eq_true rfl) hF.2, Nat.le_trans (Nat.le_of_ble_eq_true rfl) hL.2⟩ rfl (Nat.le_of_ble_eq_true rfl) dX2_readOne_13 (fun t13 => ?_)
    refine J_aload_n Y 0 dX2_readOne_16 rfl rfl ?_
    refine P_cVv (As := []) (st := []) rfl X (c_X2_readToken G X.2.2 _) rfl wi_X2_readToken win_X2_readToken wse_X2_readToken wml_RX2_36 ⟨Nat.le_trans (Nat.le_of_ble_eq_true rfl) hF.2, Nat.le_trans (Nat.le_of_ble_eq_true rfl) hL.2⟩ rfl (Nat.le_of_ble_eq_true rfl) dX2_readOne_17 (fun t17 => ?_)
    refine J_iconst (v := (1 : Int32)) Y dX2_readOne_20 (by decide) ?_
    exact J_zreturn Y dX2_readOne_21
theorem rd_ok (G : JG) {V : JV} (hV : TPok V G) : ∀ d : Nat, RD G V (f_rd (gT G) d) (10 + d) (600 + 60 * d) := by
  intro d
  induction d with
  | zero => exact ⟨fun v σ x σ1 h => (by rw [f_rd] at h; cases h), fun v σ x σ1 h => (by rw [f_rd] at h; cases h), fun v σ x σ1 h => (by rw [f_rd] at h; cases h), fun v σ x σ1 h => (by rw [f_rd] at h; cases h), fun v σ x σ1 h => (by rw [f_rd] at h; cases h), fun v σ x σ1 h => (by rw [f_rd] at h; cases h)⟩
  | succ d ih =>
    refine ⟨fun v σ => ?_, fun v σ => ?_, fun v σ => ?_, fun v σ => ?_, fun v σ => ?_, fun v σ => ?_⟩
    · have e : f_rd (gT G) (d + 1) 0 v σ = f_X2_readAny (gT G) (f_rd (gT G) d) v σ := rfl
      rw [e]
      exact Con_of hV.1 (by decide +kernel) (Nat.le_of_ble_eq_true rfl) (fun E e1 e2 _ X => j_X2_readAny ⟨X, e1, by rw [e2]; exact hV⟩ (by rw [e2]; exact ih) ⟨by omega, by omega⟩ ⟨by omega, by omega⟩ v σ)
    · have e : f_rd (gT G) (d + 1) 1 v σ = f_X2_readBoth (gT G) (f_rd (gT G) d) v σ := rfl
      rw [e]
      exact Con_of hV.1 (by decide +kernel) (Nat.le_of_ble_eq_true rfl) (fun E e1 e2 _ X => j_X2_readBoth ⟨X, e1, by rw [e2]; exact hV⟩ (by rw [e2]; exact ih) ⟨by omega, by omega⟩ ⟨by omega, by omega⟩ v σ)
    · have e : f_rd (gT G) (d + 1) 2 v σ = f_X2_readNot (gT G) (f_rd (gT G) d) v σ := rfl
      rw [e]
      exact Con_of hV.1 (by decide +kernel) (Nat.le_of_ble_eq_true rfl) (fun E e1 e2 _ X => j_X2_readNot ⟨X, e1, by rw [e2]; exact hV⟩ (by rw [e2]; exact ih) ⟨by omega, by omega⟩ ⟨by omega, by omega⟩ v σ)
    · have e : f_rd (gT G) (d + 1) 3 v σ = f_X2_readSum (gT G) (f_rd (gT G) d) v σ := rfl
      rw [e]
      exact Con_of hV.1 (by decide +kernel) (Nat.le_of_ble_eq_true rfl) (fun E e1 e2 _ X => j_X2_readSum ⟨X, e1, by rw [e2]; exact hV⟩ (by rw [e2]; exact ih) ⟨by omega, by omega⟩ ⟨by omega, by omega⟩ v σ)
    · have e : f_rd (gT G) (d + 1) 4 v σ = f_X2_readTerm (gT G) (f_rd (gT G) d) v σ := rfl
      rw [e]
      exact Con_of hV.1 (by decide +kernel) (Nat.le_of_ble_eq_true rfl) (fun E e1 e2 _ X => j_X2_readTerm ⟨X, e1, by rw [e2]; exact hV⟩ (by rw [e2]; exact ih) ⟨by omega, by omega⟩ ⟨by omega, by omega⟩ v σ)
    · have e : f_rd (gT G) (d + 1) 5 v σ = f_X2_readOne (gT G) (f_rd (gT G) d) v σ := rfl
      rw [e]
      exact Con_of hV.1 (by decide +kernel) (Nat.le_of_ble_eq_true rfl) (fun E e1 e2 _ X => j_X2_readOne ⟨X, e1, by rw [e2]; exact hV⟩ (by rw [e2]; exact ih) ⟨by omega, by omega⟩ ⟨by omega, by omega⟩ v σ)
set_option maxRecDepth 100000 in
set_option maxHeartbeats 4000000 in
theorem j_X2_isText_L50 {E : JE} {G : JG} (X : JT E 2 cX2_isText RX2 (some .boolean) 72 4400 G) (σ : ST) : Jg E 2 (JF E vI) [] 50 [] σ (f_X2_isText_L50 (gT G) σ) := by
  have Y := X.1
  unfold f_X2_isText_L50
  refine J_iconst (v := (0 : Int32)) Y dX2_isText_50 (by decide) ?_
  exact J_zreturn Y dX2_isText_51
set_option maxRecDepth 100000 in
set_option maxHeartbeats 4000000 in
theorem j_X2_isText_L80 {E : JE} {G : JG} (X : JT E 2 cX2_isText RX2 (some .boolean) 72 4400 G) (s0 : Int32) (σ : ST) : Jg E 2 (JF E vI) [] 80 [.int s0] σ (f_X2_isText_L80 (gT G) s0 σ) := by
  have Y := X.1
  unfold f_X2_isText_L80
  exact J_zreturn Y dX2_isText_80
set_option maxRecDepth 100000 in
set_option maxHeartbeats 4000000 in
theorem j_X2_isText_L68 {E : JE} {G : JG} (X : JT E 2 cX2_isText RX2 (some .boolean) 72 4400 G) (σ : ST) : Jg E 2 (JF E vI) [(0, .ref (gO G 1))] 68 [] σ (f_X2_isText_L68 (gT G) σ) := by
  have Y := X.1
  unfold f_X2_isText_L68
  refine J_aload_n Y 0 dX2_isText_68 rfl rfl ?_
  refine P_get 4 X (by decide) rfl wfl_RX2_46 rfl dX2_isText_69 ?_
  refine J_if_ne (tgt := 79) Y dX2_isText_72 (by decide) ?_ ?_
  · refine J_iconst (v := (0 : Int32)) Y dX2_isText_79 (by decide) ?_
    refine J_sub [] rfl ?_
    exact j_X2_isText_L80 X (0 : Int32) σ
  · refine J_iconst (v := (1 : Int32)) Y dX2_isText_75 (by decide) ?_
    refine J_goto (tgt := 80) Y dX2_isText_76 (by decide) ?_
    refine J_sub [] rfl ?_
    exact j_X2_isText_L80 X (1 : Int32) σ
set_option maxRecDepth 100000 in
set_option maxHeartbeats 4000000 in
theorem j_X2_isText_L16 {E : JE} {G : JG} (X : JT E 2 cX2_isText RX2 (some .boolean) 72 4400 G) : ∀ (n : Nat) (v1 : Int32) (σ : ST), Jg E 2 (JF E vI) [(0, .ref (gO G 1)), (1, .int v1)] 16 [] σ (f_X2_isText_L16 (gT G) n v1 σ) := by
  have Y := X.1
  intro n
  induction n with
  | zero => intro v1 σ; rw [f_X2_isText_L16]; exact J_none
  | succ n ih =>
    intro v1 σ
    rw [f_X2_isText_L16]
    refine J_iload_n Y 1 dX2_isText_16 rfl rfl ?_
    refine J_iconst (v := (3 : Int32)) Y dX2_isText_17 (by decide) ?_
    refine J_icmp_ge (tgt := 68) Y dX2_isText_18 (by decide) ?_ ?_
    · refine J_sub [0] rfl ?_
      exact j_X2_isText_L68 X  σ
    · refine J_aload_n Y 0 dX2_isText_21 rfl rfl ?_
      refine J_sipush (v := (1000 : Int32)) Y dX2_isText_22 (by decide) ?_
      refine J_iload_n Y 1 dX2_isText_25 rfl rfl ?_
      refine J_iadd Y dX2_isText_26 ?_
      refine P_cVi (As := [.int ((1000 : Int32) + v1)]) (st := []) rfl X (c_X2_passes G X.2.2 ((1000 : Int32) + v1) _) rfl wi_X2_passes win_X2_passes wse_X2_passes wml_RX2_39 ⟨Nat.le_of_ble_eq_true rfl, Nat.le_of_ble_eq_true rfl⟩ rfl (Nat.le_of_ble_eq_true rfl) dX2_isText_27 (fun y27 t27 => ?_)
      refine J_if_eq (tgt := 50) Y dX2_isText_30 (by decide) ?_ ?_
      · refine J_sub [] rfl ?_
        exact j_X2_isText_L50 X  t27
      · refine J_aload_n Y 0 dX2_isText_33 rfl rfl ?_
        refine J_iconst (v := (0 : Int32)) Y dX2_isText_34 (by decide) ?_
        refine P_cVi (As := [.int (0 : Int32)]) (st := []) rfl X ((rd_ok G X.2.2 60).1 (0 : Int32) _) rfl wi_X2_readAny win_X2_readAny wse_X2_readAny wml_RX2_43 ⟨Nat.le_of_ble_eq_true rfl, Nat.le_of_ble_eq_true rfl⟩ rfl (Nat.le_of_ble_eq_true rfl) dX2_isText_35 (fun y35 t35 => ?_)
        refine J_if_eq (tgt := 50) Y dX2_isText_38 (by decide) ?_ ?_
        · refine J_sub [] rfl ?_
          exact j_X2_isText_L50 X  t35
        · refine J_aload_n Y 0 dX2_isText_41 rfl rfl ?_
          refine J_bipush (v := (59 : Int32)) Y dX2_isText_42 (by decide) ?_
          refine P_cVi (As := [.int (59 : Int32)]) (st := []) rfl X (c_X2_passes G X.2.2 (59 : Int32) _) rfl wi_X2_passes win_X2_passes wse_X2_passes wml_RX2_39 ⟨Nat.le_of_ble_eq_true rfl, Nat.le_of_ble_eq_true rfl⟩ rfl (Nat.le_of_ble_eq_true rfl) dX2_isText_44 (fun y44 t44 => ?_)
          refine J_if_ne (tgt := 52) Y dX2_isText_47 (by decide) ?_ ?_
          · refine J_aload_n Y 0 dX2_isText_52 rfl rfl ?_
            refine P_get 8 X (by decide) rfl wfl_RX2_18 rfl dX2_isText_53 ?_
            refine J_iload_n Y 1 dX2_isText_56 rfl rfl ?_
            refine J_aload_n Y 0 dX2_isText_57 rfl rfl ?_
            refine P_get 7 X (by decide) rfl wfl_RX2_27 rfl dX2_isText_58 ?_
            refine P_ast_8 X dX2_isText_61 (fun t61 => ?_)
            refine J_iinc (v := v1 + (1 : Int32)) [(1, .int (v1 + (1 : Int32))), (0, .ref (gO G 1))] Y 1 dX2_isText_62 rfl (congrArg (fun z => _ + z) (by decide)) (by decide) rfl ?_
            refine J_goto (tgt := 16) Y dX2_isText_65 (by decide) ?_
            refine J_sub [1, 0] rfl ?_
            exact ih (v1 + (1 : Int32)) t61
          · refine J_sub [] rfl ?_
            exact j_X2_isText_L50 X  t44
set_option maxRecDepth 100000 in
set_option maxHeartbeats 4000000 in
theorem j_X2_isText {E : JE} {G : JG} (X : JT E 2 cX2_isText RX2 (some .boolean) 72 4400 G) (σ : ST) : Jg E 2 (JF E vI) [(0, .ref (gO G 1))] 0 [] σ (f_X2_isText (gT G) σ) := by
  have Y := X.1
  unfold f_X2_isText
  refine J_aload_n Y 0 dX2_isText_0 rfl rfl ?_
  refine J_iconst (v := (0 : Int32)) Y dX2_isText_1 (by decide) ?_
  refine P_put 3 X (by decide) rfl wfl_RX2_33 dX2_isText_2 (fun t2 => ?_)
  refine J_aload_n Y 0 dX2_isText_5 rfl rfl ?_
  refine J_iconst (v := (0 : Int32)) Y dX2_isText_6 (by decide) ?_
  refine P_put 7 X (by decide) rfl wfl_RX2_27 dX2_isText_7 (fun t7 => ?_)
  refine J_aload_n Y 0 dX2_isText_10 rfl rfl ?_
  refine P_cVv (As := []) (st := []) rfl X (c_X2_readToken G X.2.2 _) rfl wi_X2_readToken win_X2_readToken wse_X2_readToken wml_RX2_36 ⟨Nat.le_of_ble_eq_true rfl, Nat.le_of_ble_eq_true rfl⟩ rfl (Nat.le_of_ble_eq_true rfl) dX2_isText_11 (fun t11 => ?_)
  refine J_iconst (v := (0 : Int32)) Y dX2_isText_14 (by decide) ?_
  refine J_istore_n [(1, .int (0 : Int32)), (0, .ref (gO G 1))] Y dX2_isText_15 rfl (by decide) rfl ?_
  refine J_sub [1, 0] rfl ?_
  exact j_X2_isText_L16 X 1000 (0 : Int32) t11
theorem c_X2_isText (G : JG) {V : JV} (hV : TPok V G) (σ : ST) : Con V vI G.1 yX2_isText cX2_isText 2 (some .boolean) 72 4400 [.ref (gO G 1)] σ (f_X2_isText (gT G) σ) :=
  Con_of hV.1 (by decide +kernel) (Nat.le_of_ble_eq_true rfl) (fun E e1 e2 _ X => j_X2_isText ⟨X, e1, by rw [e2]; exact hV⟩ σ)
