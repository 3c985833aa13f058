set_option maxRecDepth 100000 in
set_option maxHeartbeats 4000000 in
theorem j_X5_two_L57 {E : JE} {G : JG} (X : JM E 3 cX5_two RX5 (some .int) 0 0 G) (s0 : Int32) (σ : ST) : Jg E 3 (JF E vI) [] 57 [.int s0] σ (f_X5_two_L57 s0 σ) := by
  have Y := X.1
  unfold f_X5_two_L57
  exact J_ireturn Y dX5_two_57
set_option maxRecDepth 100000 in
set_option maxHeartbeats 4000000 in
theorem j_X5_two_L52 {E : JE} {G : JG} (X : JM E 3 cX5_two RX5 (some .int) 0 0 G) (σ : ST) : Jg E 3 (JF E vI) [] 52 [] σ (f_X5_two_L52 σ) := by
  have Y := X.1
  unfold f_X5_two_L52
  refine J_iconst (v := (1 : Int32)) Y dX5_two_52 (by decide) ?_
  refine J_goto (tgt := 57) Y dX5_two_53 (by decide) ?_
  exact j_X5_two_L57 X (1 : Int32) σ
set_option maxRecDepth 100000 in
set_option maxHeartbeats 4000000 in
theorem j_X5_two_L71 {E : JE} {G : JG} (X : JM E 3 cX5_two RX5 (some .int) 0 0 G) (s0 : Int32) (σ : ST) : Jg E 3 (JF E vI) [] 71 [.int s0] σ (f_X5_two_L71 s0 σ) := by
  have Y := X.1
  unfold f_X5_two_L71
  exact J_ireturn Y dX5_two_71
set_option maxRecDepth 100000 in
set_option maxHeartbeats 4000000 in
theorem j_X5_two_L70 {E : JE} {G : JG} (X : JM E 3 cX5_two RX5 (some .int) 0 0 G) (σ : ST) : Jg E 3 (JF E vI) [] 70 [] σ (f_X5_two_L70 σ) := by
  have Y := X.1
  unfold f_X5_two_L70
  refine J_iconst (v := (0 : Int32)) Y dX5_two_70 (by decide) ?_
  exact j_X5_two_L71 X (0 : Int32) σ
set_option maxRecDepth 100000 in
set_option maxHeartbeats 4000000 in
theorem j_X5_two_L82 {E : JE} {G : JG} (X : JM E 3 cX5_two RX5 (some .int) 0 0 G) (s0 : Int32) (σ : ST) : Jg E 3 (JF E vI) [] 82 [.int s0] σ (f_X5_two_L82 s0 σ) := by
  have Y := X.1
  unfold f_X5_two_L82
  exact J_ireturn Y dX5_two_82
set_option maxRecDepth 100000 in
set_option maxHeartbeats 4000000 in
theorem j_X5_two_L93 {E : JE} {G : JG} (X : JM E 3 cX5_two RX5 (some .int) 0 0 G) (s0 : Int32) (σ : ST) : Jg E 3 (JF E vI) [] 93 [.int s0] σ (f_X5_two_L93 s0 σ) := by
  have Y := X.1
  unfold f_X5_two_L93
  exact J_ireturn Y dX5_two_93
set_option maxRecDepth 100000 in
set_option maxHeartbeats 4000000 in
theorem j_X5_two {E : JE} {G : JG} (X : JM E 3 cX5_two RX5 (some .int) 0 0 G) (v0 : Int32) (v1 : Int32) (v2 : Int32) (σ : ST) : Jg E 3 (JF E vI) [(0, .int v0), (1, .int v1), (2, .int v2)] 0 [] σ (f_X5_two v0 v1 v2 σ) := by
  have Y := X.1
  unfold f_X5_two
  refine J_iload_n Y 0 dX5_two_0 rfl rfl ?_
  refine J_ite (fun c1_11 => ?_) (fun c1_11 => ?_)
  · refine J_tin (tgt := 44) (11 : Int32) c1_11 Y dX5_two_1 (by decide) (by decide) rfl (by decide) ?_
    refine J_iload_n Y 1 dX5_two_44 rfl rfl ?_
    refine J_if_ne (tgt := 52) Y dX5_two_45 (by decide) ?_ ?_
    · refine J_sub [] rfl ?_
      exact j_X5_two_L52 X  σ
    · refine J_iload_n Y 2 dX5_two_48 rfl rfl ?_
      refine J_if_eq (tgt := 56) Y dX5_two_49 (by decide) ?_ ?_
      · refine J_iconst (v := (0 : Int32)) Y dX5_two_56 (by decide) ?_
        refine J_sub [] rfl ?_
        exact j_X5_two_L57 X (0 : Int32) σ
      · refine J_sub [] rfl ?_
        exact j_X5_two_L52 X  σ
  refine J_ite (fun c1_12 => ?_) (fun c1_12 => ?_)
  · refine J_tin (tgt := 58) (12 : Int32) c1_12 Y dX5_two_1 (by decide) (by decide) rfl (by decide) ?_
    refine J_iload_n Y 1 dX5_two_58 rfl rfl ?_
    refine J_if_eq (tgt := 70) Y dX5_two_59 (by decide) ?_ ?_
    · refine J_sub [] rfl ?_
      exact j_X5_two_L70 X  σ
    · refine J_iload_n Y 2 dX5_two_62 rfl rfl ?_
      refine J_if_eq (tgt := 70) Y dX5_two_63 (by decide) ?_ ?_
      · refine J_sub [] rfl ?_
        exact j_X5_two_L70 X  σ
      · refine J_iconst (v := (1 : Int32)) Y dX5_two_66 (by decide) ?_
        refine J_goto (tgt := 71) Y dX5_two_67 (by decide) ?_
        refine J_sub [] rfl ?_
        exact j_X5_two_L71 X (1 : Int32) σ
  refine J_ite (fun c1_13 => ?_) (fun c1_13 => ?_)
  · refine J_tin (tgt := 102) (13 : Int32) c1_13 Y dX5_two_1 (by decide) (by decide) rfl (by decide) ?_
    refine J_iload_n Y 1 dX5_two_102 rfl rfl ?_
    refine J_iload_n Y 2 dX5_two_103 rfl rfl ?_
    refine J_imul Y dX5_two_104 ?_
    exact J_ireturn Y dX5_two_105
  refine J_ite (fun c1_14 => ?_) (fun c1_14 => ?_)
  · refine J_tin (tgt := 72) (14 : Int32) c1_14 Y dX5_two_1 (by decide) (by decide) rfl (by decide) ?_
    refine J_iload_n Y 1 dX5_two_72 rfl rfl ?_
    refine J_iload_n Y 2 dX5_two_73 rfl rfl ?_
    refine J_icmp_ge (tgt := 81) Y dX5_two_74 (by decide) ?_ ?_
    · refine J_iconst (v := (0 : Int32)) Y dX5_two_81 (by decide) ?_
      refine J_sub [] rfl ?_
      exact j_X5_two_L82 X (0 : Int32) σ
    · refine J_iconst (v := (1 : Int32)) Y dX5_two_77 (by decide) ?_
      refine J_goto (tgt := 82) Y dX5_two_78 (by decide) ?_
      refine J_sub [] rfl ?_
      exact j_X5_two_L82 X (1 : Int32) σ
  refine J_ite (fun c1_15 => ?_) (fun c1_15 => ?_)
  · refine J_tin (tgt := 83) (15 : Int32) c1_15 Y dX5_two_1 (by decide) (by decide) rfl (by decide) ?_
    refine J_iload_n Y 1 dX5_two_83 rfl rfl ?_
    refine J_iload_n Y 2 dX5_two_84 rfl rfl ?_
    refine J_icmp_ne (tgt := 92) Y dX5_two_85 (by decide) ?_ ?_
    · refine J_iconst (v := (0 : Int32)) Y dX5_two_92 (by decide) ?_
      refine J_sub [] rfl ?_
      exact j_X5_two_L93 X (0 : Int32) σ
    · refine J_iconst (v := (1 : Int32)) Y dX5_two_88 (by decide) ?_
      refine J_goto (tgt := 93) Y dX5_two_89 (by decide) ?_
      refine J_sub [] rfl ?_
      exact j_X5_two_L93 X (1 : Int32) σ
  refine J_ite (fun c1_16 => ?_) (fun c1_16 => ?_)
  · refine J_tin (tgt := 94) (16 : Int32) c1_16 Y dX5_two_1 (by decide) (by decide) rfl (by decide) ?_
    refine J_iload_n Y 1 dX5_two_94 rfl rfl ?_
    refine J_iload_n Y 2 dX5_two_95 rfl rfl ?_
    refine J_iadd Y dX5_two_96 ?_
    exact J_ireturn Y dX5_two_97
  refine J_ite (fun c1_17 => ?_) (fun c1_17 => ?_)
  · refine J_tin (tgt := 98) (17 : Int32) c1_17 Y dX5_two_1 (by decide) (by decide) rfl (by decide) ?_
    refine J_iload_n Y 1 dX5_two_98 rfl rfl ?_
    refine J_iload_n Y 2 dX5_two_99 rfl rfl ?_
    refine J_isub Y dX5_two_100 ?_
    exact J_ireturn Y dX5_two_101
  have e1_11 := lv_neT c1_11 (show ((11 : Int32)).toInt = (11 : Int) by decide)
  have e1_12 := lv_neT c1_12 (show ((12 : Int32)).toInt = (12 : Int) by decide)
  have e1_13 := lv_neT c1_13 (show ((13 : Int32)).toInt = (13 : Int) by decide)
  have e1_14 := lv_neT c1_14 (show ((14 : Int32)).toInt = (14 : Int) by decide)
  have e1_15 := lv_neT c1_15 (show ((15 : Int32)).toInt = (15 : Int) by decide)
  have e1_16 := lv_neT c1_16 (show ((16 : Int32)).toInt = (16 : Int) by decide)
  have e1_17 := lv_neT c1_17 (show ((17 : Int32)).toInt = (17 : Int) by decide)
  refine J_tout (tgt := 102) Y dX5_two_1 (by omega) (by decide) ?_
  refine J_iload_n Y 1 dX5_two_102 rfl rfl ?_
  refine J_iload_n Y 2 dX5_two_103 rfl rfl ?_
  refine J_imul Y dX5_two_104 ?_
  exact J_ireturn Y dX5_two_105
theorem c_X5_two (G : JG) (v0 : Int32) (v1 : Int32) (v2 : Int32) (σ : ST) : Con (VM G) vI G.1 yX5_two cX5_two 3 (some .int) 0 0 [.int v0, .int v1, .int v2] σ (f_X5_two v0 v1 v2 σ) :=
  Con_of (VM_ok G) (by decide +kernel) (Nat.le_of_ble_eq_true rfl) (fun E e1 e2 _ X => j_X5_two ⟨X, e1, e2⟩ v0 v1 v2 σ)
set_option maxRecDepth 100000 in
set_option maxHeartbeats 4000000 in
theorem j_X5_says_L191 {E : JE} {G : JG} (X : JM E 5 cX5_says RX5 (some .int) 1 40 G) {k16 : Int32 → Int32 → Int32 → ST → Option (Int32 × ST)} (hk16 : ∀ (v1 : Int32) (v2 : Int32) (v3 : Int32) (σ : ST), Jg E 5 (JF E vI) [(0, .ref (gO G 50)), (1, .int v1), (2, .int v2), (3, .int v3)] 16 [] σ (k16 v1 v2 v3 σ)) (v1 : Int32) (v2 : Int32) (v3 : Int32) (σ : ST) : Jg E 5 (JF E vI) [(0, .ref (gO G 50)), (1, .int v1), (2, .int v2), (3, .int v3)] 191 [] σ (f_X5_says_L191 k16 v1 v2 v3 σ) := by
  have Y := X.1
  unfold f_X5_says_L191
  refine J_iinc (v := v3 + (1 : Int32)) [(3, .int (v3 + (1 : Int32))), (0, .ref (gO G 50)), (1, .int v1), (2, .int v2)] Y 3 dX5_says_191 rfl (congrArg (fun z => _ + z) (by decide)) (by decide) rfl ?_
  refine J_goto (tgt := 16) Y dX5_says_194 (by decide) ?_
  refine J_sub [1, 2, 3, 0] rfl ?_
  exact hk16 v1 v2 (v3 + (1 : Int32)) σ
set_option maxRecDepth 100000 in
set_option maxHeartbeats 4000000 in
theorem j_X5_says_L93 {E : JE} {G : JG} (X : JM E 5 cX5_says RX5 (some .int) 1 40 G) {k16 : Int32 → Int32 → Int32 → ST → Option (Int32 × ST)} (hk16 : ∀ (v1 : Int32) (v2 : Int32) (v3 : Int32) (σ : ST), Jg E 5 (JF E vI) [(0, .ref (gO G 50)), (1, .int v1), (2, .int v2), (3, .int v3)] 16 [] σ (k16 v1 v2 v3 σ)) (v1 : Int32) (v2 : Int32) (v3 : Int32) (s0 : Int32) (s1 : Int32) (σ : ST) : Jg E 5 (JF E vI) [(0, .ref (gO G 50)), (1, .int v1), (2, .int v2), (3, .int v3)] 93 [.int s0, .int s1, .ref (gA G 50 27)] σ (f_X5_says_L93 k16 v1 v2 v3 s0 s1 σ) := by
  have Y := X.1
  unfold f_X5_says_L93
  refine M_ast X (mA_27 G _) (mS_27 G _) dX5_says_93 (fun t93 => ?_)
  refine J_iinc (v := v2 + (1 : Int32)) [(2, .int (v2 + (1 : Int32))), (0, .ref (gO G 50)), (1, .int v1), (3, .int v3)] Y 2 dX5_says_94 rfl (congrArg (fun z => _ + z) (by decide)) (by decide) rfl ?_
  refine J_goto (tgt := 191) Y dX5_says_97 (by decide) ?_
  refine J_sub [1, 2, 0, 3] rfl ?_
  exact j_X5_says_L191 X hk16 v1 (v2 + (1 : Int32)) v3 t93
set_option maxRecDepth 100000 in
set_option maxHeartbeats 4000000 in
theorem j_X5_says_L66 {E : JE} {G : JG} (X : JM E 5 cX5_says RX5 (some .int) 1 40 G) {k16 : Int32 → Int32 → Int32 → ST → Option (Int32 × ST)} (hk16 : ∀ (v1 : Int32) (v2 : Int32) (v3 : Int32) (σ : ST), Jg E 5 (JF E vI) [(0, .ref (gO G 50)), (1, .int v1), (2, .int v2), (3, .int v3)] 16 [] σ (k16 v1 v2 v3 σ)) (v1 : Int32) (v2 : Int32) (v3 : Int32) (v4 : Int32) (σ : ST) : Jg E 5 (JF E vI) [(0, .ref (gO G 50)), (1, .int v1), (2, .int v2), (3, .int v3), (4, .int v4)] 66 [] σ (f_X5_says_L66 k16 v1 v2 v3 v4 σ) := by
  have Y := X.1
  unfold f_X5_says_L66
  refine J_aload_n Y 0 dX5_says_66 rfl rfl ?_
  refine M_get 27 X (by decide) rfl wfl_RX5_52 rfl dX5_says_67 ?_
  refine J_iload_n Y 2 dX5_says_70 rfl rfl ?_
  refine J_iload Y 4 dX5_says_71 rfl ?_
  refine J_bipush (v := (11 : Int32)) Y dX5_says_73 (by decide) ?_
  refine J_icmp_ge (tgt := 88) Y dX5_says_75 (by decide) ?_ ?_
  · refine J_iload Y 4 dX5_says_88 rfl ?_
    refine J_ldc (v := (100000 : Int32)) Y wcn_RX5_146 dX5_says_90 ?_
    refine J_isub Y dX5_says_92 ?_
    refine J_sub [0, 1, 2, 3] rfl ?_
    exact j_X5_says_L93 X hk16 v1 v2 v3 (v4 - (100000 : Int32)) v2 σ
  · refine J_aload_n Y 0 dX5_says_78 rfl rfl ?_
    refine M_get 28 X (by decide) rfl wfl_RX5_55 rfl dX5_says_79 ?_
    refine J_iload Y 4 dX5_says_82 rfl ?_
    refine M_ald X (mA_28 G _) dX5_says_84 (fun x84 => ?_)
    refine J_goto (tgt := 93) Y dX5_says_85 (by decide) ?_
    refine J_sub [0, 1, 2, 3] rfl ?_
    exact j_X5_says_L93 X hk16 v1 v2 v3 x84 v2 σ
set_option maxRecDepth 100000 in
set_option maxHeartbeats 4000000 in
theorem j_X5_says_L130 {E : JE} {G : JG} (X : JM E 5 cX5_says RX5 (some .int) 1 40 G) {k16 : Int32 → Int32 → Int32 → ST → Option (Int32 × ST)} (hk16 : ∀ (v1 : Int32) (v2 : Int32) (v3 : Int32) (σ : ST), Jg E 5 (JF E vI) [(0, .ref (gO G 50)), (1, .int v1), (2, .int v2), (3, .int v3)] 16 [] σ (k16 v1 v2 v3 σ)) (v1 : Int32) (v2 : Int32) (v3 : Int32) (s0 : Int32) (s1 : Int32) (σ : ST) : Jg E 5 (JF E vI) [(0, .ref (gO G 50)), (1, .int v1), (2, .int v2), (3, .int v3)] 130 [.int s0, .int s1, .ref (gA G 50 27)] σ (f_X5_says_L130 k16 v1 v2 v3 s0 s1 σ) := by
  have Y := X.1
  unfold f_X5_says_L130
  refine M_ast X (mA_27 G _) (mS_27 G _) dX5_says_130 (fun t130 => ?_)
  refine J_goto (tgt := 191) Y dX5_says_131 (by decide) ?_
  exact j_X5_says_L191 X hk16 v1 v2 v3 t130
set_option maxRecDepth 100000 in
set_option maxHeartbeats 4000000 in
theorem j_X5_says_L197 {E : JE} {G : JG} (X : JM E 5 cX5_says RX5 (some .int) 1 40 G) (σ : ST) : Jg E 5 (JF E vI) [(0, .ref (gO G 50))] 197 [] σ (f_X5_says_L197 σ) := by
  have Y := X.1
  unfold f_X5_says_L197
  refine J_aload_n Y 0 dX5_says_197 rfl rfl ?_
  refine M_get 27 X (by decide) rfl wfl_RX5_52 rfl dX5_says_198 ?_
  refine J_iconst (v := (0 : Int32)) Y dX5_says_201 (by decide) ?_
  refine M_ald X (mA_27 G _) dX5_says_202 (fun x202 => ?_)
  exact J_ireturn Y dX5_says_203
set_option maxRecDepth 100000 in
set_option maxHeartbeats 4000000 in
theorem j_X5_says_L16 {E : JE} {G : JG} (X : JM E 5 cX5_says RX5 (some .int) 1 40 G) : ∀ (n : Nat) (v1 : Int32) (v2 : Int32) (v3 : Int32) (σ : ST), Jg E 5 (JF E vI) [(0, .ref (gO G 50)), (1, .int v1), (2, .int v2), (3, .int v3)] 16 [] σ (f_X5_says_L16 n v1 v2 v3 σ) := by
  have Y := X.1
  intro n
  induction n with
  | zero => intro v1 v2 v3 σ; rw [f_X5_says_L16]; exact J_none
  | succ n ih =>
    intro v1 v2 v3 σ
    rw [f_X5_says_L16]
    refine J_iload_n Y 3 dX5_says_16 rfl rfl ?_
    refine J_aload_n Y 0 dX5_says_17 rfl rfl ?_
    refine M_get 8 X (by decide) rfl wfl_RX5_25 rfl dX5_says_18 ?_
    refine J_iconst (v := (4 : Int32)) Y dX5_says_21 (by decide) ?_
    refine J_aload_n Y 0 dX5_says_22 rfl rfl ?_
    refine M_get 10 X (by decide) rfl wfl_RX5_99 rfl dX5_says_23 ?_
    refine J_imul Y dX5_says_26 ?_
    refine J_iload_n Y 1 dX5_says_27 rfl rfl ?_
    refine J_iadd Y dX5_says_28 ?_
    refine J_iconst (v := (1 : Int32)) Y dX5_says_29 (by decide) ?_
    refine J_iadd Y dX5_says_30 ?_
    refine M_ald X (mA_8 G _) dX5_says_31 (fun x31 => ?_)
    refine J_icmp_ge (tgt := 197) Y dX5_says_32 (by decide) ?_ ?_
    · refine J_sub [0] rfl ?_
      exact j_X5_says_L197 X  σ
    · refine J_aload_n Y 0 dX5_says_35 rfl rfl ?_
      refine M_get 7 X (by decide) rfl wfl_RX5_22 rfl dX5_says_36 ?_
      refine J_sipush (v := (200 : Int32)) Y dX5_says_39 (by decide) ?_
      refine J_aload_n Y 0 dX5_says_42 rfl rfl ?_
      refine M_get 10 X (by decide) rfl wfl_RX5_99 rfl dX5_says_43 ?_
      refine J_imul Y dX5_says_46 ?_
      refine J_iload_n Y 3 dX5_says_47 rfl rfl ?_
      refine J_iadd Y dX5_says_48 ?_
      refine M_ald X (mA_7 G _) dX5_says_49 (fun x49 => ?_)
      refine J_istore [(4, .int x49), (0, .ref (gO G 50)), (1, .int v1), (2, .int v2), (3, .int v3)] Y dX5_says_50 (by decide) rfl ?_
      refine J_iload Y 0 dX5_says_52 rfl ?_
      refine J_ldc (v := (100000 : Int32)) Y wcn_RX5_146 dX5_says_54 ?_
      refine J_icmp_ge (tgt := 66) Y dX5_says_56 (by decide) ?_ ?_
      · refine J_sub [1, 2, 3, 4, 0] rfl ?_
        exact j_X5_says_L66 X (fun v1 v2 v3 σ => ih v1 v2 v3 σ) v1 v2 v3 x49 σ
      · refine J_iload Y 0 dX5_says_59 rfl ?_
        refine J_bipush (v := (11 : Int32)) Y dX5_says_61 (by decide) ?_
        refine J_icmp_ge (tgt := 100) Y dX5_says_63 (by decide) ?_ ?_
        · refine J_iload Y 0 dX5_says_100 rfl ?_
          refine J_bipush (v := (13 : Int32)) Y dX5_says_102 (by decide) ?_
          refine J_icmp_ne (tgt := 134) Y dX5_says_104 (by decide) ?_ ?_
          · refine J_iload Y 0 dX5_says_134 rfl ?_
            refine J_bipush (v := (19 : Int32)) Y dX5_says_136 (by decide) ?_
            refine J_icmp_ne (tgt := 161) Y dX5_says_138 (by decide) ?_ ?_
            · refine J_iinc (v := v2 + (-1 : Int32)) [(2, .int (v2 + (-1 : Int32))), (4, .int x49), (0, .ref (gO G 50)), (1, .int v1), (3, .int v3)] Y 3 dX5_says_161 rfl (congrArg (fun z => _ + z) (by decide)) (by decide) rfl ?_
              refine J_aload_n Y 2 dX5_says_164 rfl rfl ?_
              refine M_get 27 X (by decide) rfl wfl_RX5_52 rfl dX5_says_165 ?_
              refine J_iload_n Y 0 dX5_says_168 rfl rfl ?_
              refine J_iconst (v := (1 : Int32)) Y dX5_says_169 (by decide) ?_
              refine J_isub Y dX5_says_170 ?_
              refine J_iload Y 1 dX5_says_171 rfl ?_
              refine J_aload_n Y 2 dX5_says_173 rfl rfl ?_
              refine M_get 27 X (by decide) rfl wfl_RX5_52 rfl dX5_says_174 ?_
              refine J_iload_n Y 0 dX5_says_177 rfl rfl ?_
              refine J_iconst (v := (1 : Int32)) Y dX5_says_178 (by decide) ?_
              refine J_isub Y dX5_says_179 ?_
              refine M_ald X (mA_27 G _) dX5_says_180 (fun x180 => ?_)
              refine J_aload_n Y 2 dX5_says_181 rfl rfl ?_
              refine M_get 27 X (by decide) rfl wfl_RX5_52 rfl dX5_says_182 ?_
              refine J_iload_n Y 0 dX5_says_185 rfl rfl ?_
              refine M_ald X (mA_27 G _) dX5_says_186 (fun x186 => ?_)
              refine M_cSi (As := [.int x49, .int x180, .int x186]) (st := [.int ((v2 + (-1 : Int32)) - (1 : Int32)), .ref (gA G 50 27)]) rfl X (c_X5_two G x49 x180 x186 _) wi_X5_two wst_X5_two wml_RX5_160 ⟨Nat.le_of_ble_eq_true rfl, Nat.le_of_ble_eq_true rfl⟩ rfl (Nat.le_of_ble_eq_true rfl) dX5_says_187 (fun y187 t187 => ?_)
              refine M_ast X (mA_27 G _) (mS_27 G _) dX5_says_190 (fun t190 => ?_)
              refine J_sub [2, 3, 0, 4] rfl ?_
              exact j_X5_says_L191 X (fun v1 v2 v3 σ => ih v1 v2 v3 σ) v1 (v2 + (-1 : Int32)) v3 t190
            · refine J_aload_n Y 1 dX5_says_141 rfl rfl ?_
              refine M_get 27 X (by decide) rfl wfl_RX5_52 rfl dX5_says_142 ?_
              refine J_iload_n Y 3 dX5_says_145 rfl rfl ?_
              refine J_iconst (v := (1 : Int32)) Y dX5_says_146 (by decide) ?_
              refine J_isub Y dX5_says_147 ?_
              refine J_aload_n Y 1 dX5_says_148 rfl rfl ?_
              refine M_get 27 X (by decide) rfl wfl_RX5_52 rfl dX5_says_149 ?_
              refine J_iload_n Y 3 dX5_says_152 rfl rfl ?_
              refine J_iconst (v := (1 : Int32)) Y dX5_says_153 (by decide) ?_
              refine J_isub Y dX5_says_154 ?_
              refine M_ald X (mA_27 G _) dX5_says_155 (fun x155 => ?_)
              refine J_ineg Y dX5_says_156 ?_
              refine M_ast X (mA_27 G _) (mS_27 G _) dX5_says_157 (fun t157 => ?_)
              refine J_goto (tgt := 191) Y dX5_says_158 (by decide) ?_
              refine J_sub [1, 2, 3, 4] rfl ?_
              exact j_X5_says_L191 X (fun v1 v2 v3 σ => ih v1 v2 v3 σ) v1 v2 v3 t157
          · refine J_aload_n Y 1 dX5_says_107 rfl rfl ?_
            refine M_get 27 X (by decide) rfl wfl_RX5_52 rfl dX5_says_108 ?_
            refine J_iload_n Y 3 dX5_says_111 rfl rfl ?_
            refine J_iconst (v := (1 : Int32)) Y dX5_says_112 (by decide) ?_
            refine J_isub Y dX5_says_113 ?_
            refine J_aload_n Y 1 dX5_says_114 rfl rfl ?_
            refine M_get 27 X (by decide) rfl wfl_RX5_52 rfl dX5_says_115 ?_
            refine J_iload_n Y 3 dX5_says_118 rfl rfl ?_
            refine J_iconst (v := (1 : Int32)) Y dX5_says_119 (by decide) ?_
            refine J_isub Y dX5_says_120 ?_
            refine M_ald X (mA_27 G _) dX5_says_121 (fun x121 => ?_)
            refine J_if_ne (tgt := 129) Y dX5_says_122 (by decide) ?_ ?_
            · refine J_iconst (v := (0 : Int32)) Y dX5_says_129 (by decide) ?_
              refine J_sub [1, 2, 3, 4] rfl ?_
              exact j_X5_says_L130 X (fun v1 v2 v3 σ => ih v1 v2 v3 σ) v1 v2 v3 (0 : Int32) (v2 - (1 : Int32)) σ
            · refine J_iconst (v := (1 : Int32)) Y dX5_says_125 (by decide) ?_
              refine J_goto (tgt := 130) Y dX5_says_126 (by decide) ?_
              refine J_sub [1, 2, 3, 4] rfl ?_
              exact j_X5_says_L130 X (fun v1 v2 v3 σ => ih v1 v2 v3 σ) v1 v2 v3 (1 : Int32) (v2 - (1 : Int32)) σ
        · refine J_sub [1, 2, 3, 4, 0] rfl ?_
          exact j_X5_says_L66 X (fun v1 v2 v3 σ => ih v1 v2 v3 σ) v1 v2 v3 x49 σ
set_option maxRecDepth 100000 in
set_option maxHeartbeats 4000000 in
theorem j_X5_says {E : JE} {G : JG} (X : JM E 5 cX5_says RX5 (some .int) 1 40 G) (v1 : Int32) (σ : ST) : Jg E 5 (JF E vI) [(0, .ref (gO G 50)), (1, .int v1)] 0 [] σ (f_X5_says v1 σ) := by
  have Y := X.1
  unfold f_X5_says
  refine J_iconst (v := (0 : Int32)) Y dX5_says_0 (by decide) ?_
  refine J_istore_n [(2, .int (0 : Int32)), (0, .ref (gO G 50)), (1, .int v1)] Y dX5_says_1 rfl (by decide) rfl ?_
  refine J_aload_n Y 1 dX5_says_2 rfl rfl ?_
  refine M_get 8 X (by decide) rfl wfl_RX5_25 rfl dX5_says_3 ?_
  refine J_iconst (v := (4 : Int32)) Y dX5_says_6 (by decide) ?_
  refine J_aload_n Y 1 dX5_says_7 rfl rfl ?_
  refine M_get 10 X (by decide) rfl wfl_RX5_99 rfl dX5_says_8 ?_
  refine J_imul Y dX5_says_11 ?_
  refine J_iload_n Y 2 dX5_says_12 rfl rfl ?_
  refine J_iadd Y dX5_says_13 ?_
  refine M_ald X (mA_8 G _) dX5_says_14 (fun x14 => ?_)
  refine J_istore_n [(3, .int x14), (2, .int (0 : Int32)), (0, .ref (gO G 50)), (1, .int v1)] Y dX5_says_15 rfl (by decide) rfl ?_
  refine J_sub [2, 3, 1, 0] rfl ?_
  exact j_X5_says_L16 X 1000 v1 (0 : Int32) x14 σ
theorem c_X5_says (G : JG) (v1 : Int32) (σ : ST) : Con (VM G) vI G.1 yX5_says cX5_says 5 (some .int) 1 40 [.ref (gO G 50), .int v1] σ (f_X5_says v1 σ) :=
  Con_of (VM_ok G) (by decide +kernel) (Nat.le_of_ble_eq_true rfl) (fun E e1 e2 _ X => j_X5_says ⟨X, e1, e2⟩ v1 σ)
set_option maxRecDepth 100000 in
set_option maxHeartbeats 4000000 in
theorem j_X5_force {E : JE} {G : JG} (X : JM E 3 cX5_force RX5 (some .int) 1 40 G) (v1 : Int32) (σ : ST) : Jg E 3 (JF E vI) [(0, .ref (gO G 50)), (1, .int v1)] 0 [] σ (f_X5_force v1 σ) := by
  have Y := X.1
  unfold f_X5_force
  refine J_iload_n Y 1 dX5_force_0 rfl rfl ?_
  refine J_iconst (v := (0 : Int32)) Y dX5_force_1 (by decide) ?_
  refine J_aload_n Y 0 dX5_force_2 rfl rfl ?_
  refine M_get 9 X (by decide) rfl wfl_RX5_96 rfl dX5_force_3 ?_
  refine J_iconst (v := (1 : Int32)) Y dX5_force_6 (by decide) ?_
  refine J_isub Y dX5_force_7 ?_
  refine M_cSi (As := [.int v1, .int (0 : Int32), .int ((gs 50 9 σ) - (1 : Int32))]) (st := []) rfl X (c_X5_in G v1 (0 : Int32) ((gs 50 9 σ) - (1 : Int32)) _) wi_X5_in wst_X5_in wml_RX5_78 ⟨Nat.le_of_ble_eq_true rfl, Nat.le_of_ble_eq_true rfl⟩ rfl (Nat.le_of_ble_eq_true rfl) dX5_force_8 (fun y8 t8 => ?_)
  refine J_if_ne (tgt := 17) Y dX5_force_11 (by decide) ?_ ?_
  · refine J_aload_n Y 0 dX5_force_17 rfl rfl ?_
    refine M_get 10 X (by decide) rfl wfl_RX5_99 rfl dX5_force_18 ?_
    refine J_istore_n [(2, .int (gs 50 10 t8)), (0, .ref (gO G 50)), (1, .int v1)] Y dX5_force_21 rfl (by decide) rfl ?_
    refine J_aload_n Y 1 dX5_force_22 rfl rfl ?_
    refine J_iload_n Y 2 dX5_force_23 rfl rfl ?_
    refine M_put 10 (ty := .int) X (by decide) wfl_RX5_99 rfl rfl rfl (by decide +kernel) rfl (mF_10 G _ _) dX5_force_24 (fun t24 => ?_)
    refine J_iload_n Y 0 dX5_force_27 rfl rfl ?_
    exact J_ireturn Y dX5_force_28
  · refine J_bipush (v := (-2 : Int32)) Y dX5_force_14 (by decide) ?_
    exact J_ireturn Y dX5_force_16
theorem c_X5_force (G : JG) (v1 : Int32) (σ : ST) : Con (VM G) vI G.1 yX5_force cX5_force 3 (some .int) 1 40 [.ref (gO G 50), .int v1] σ (f_X5_force v1 σ) :=
  Con_of (VM_ok G) (by decide +kernel) (Nat.le_of_ble_eq_true rfl) (fun E e1 e2 _ X => j_X5_force ⟨X, e1, e2⟩ v1 σ)
set_option maxRecDepth 100000 in
set_option maxHeartbeats 4000000 in
theorem j_X5_asksOf_L113 {E : JE} {G : JG} (X : JM E 4 cX5_asksOf RX5 (some .int) 2 80 G) (s0 : Int32) (s1 : Int32) (s2 : Int32) (σ : ST) : Jg E 4 (JF E vI) [] 113 [.int s0, .int s1, .int s2] σ (f_X5_asksOf_L113 s0 s1 s2 σ) := by
  have Y := X.1
  unfold f_X5_asksOf_L113
  refine M_cSi (As := [.int s2, .int s1, .int s0]) (st := []) rfl X (c_X5_within G s2 s1 s0 _) wi_X5_within wst_X5_within wml_RX5_167 ⟨Nat.le_of_ble_eq_true rfl, Nat.le_of_ble_eq_true rfl⟩ rfl (Nat.le_of_ble_eq_true rfl) dX5_asksOf_113 (fun y113 t113 => ?_)
  exact J_ireturn Y dX5_asksOf_116
set_option maxRecDepth 100000 in
set_option maxHeartbeats 4000000 in
theorem j_X5_asksOf_L101 {E : JE} {G : JG} (X : JM E 4 cX5_asksOf RX5 (some .int) 2 80 G) (v1 : Int32) (s0 : Int32) (s1 : Int32) (σ : ST) : Jg E 4 (JF E vI) [(1, .int v1)] 101 [.int s0, .int s1] σ (f_X5_asksOf_L101 v1 s0 s1 σ) := by
  have Y := X.1
  unfold f_X5_asksOf_L101
  refine J_iload_n Y 0 dX5_asksOf_101 rfl rfl ?_
  refine J_iconst (v := (2 : Int32)) Y dX5_asksOf_102 (by decide) ?_
  refine J_icmp_ne (tgt := 111) Y dX5_asksOf_103 (by decide) ?_ ?_
  · refine J_bipush (v := (99 : Int32)) Y dX5_asksOf_111 (by decide) ?_
    refine J_sub [] rfl ?_
    exact j_X5_asksOf_L113 X (99 : Int32) s0 s1 σ
  · refine J_bipush (v := (9 : Int32)) Y dX5_asksOf_106 (by decide) ?_
    refine J_goto (tgt := 113) Y dX5_asksOf_108 (by decide) ?_
    refine J_sub [] rfl ?_
    exact j_X5_asksOf_L113 X (9 : Int32) s0 s1 σ
set_option maxRecDepth 100000 in
set_option maxHeartbeats 4000000 in
theorem j_X5_asksOf {E : JE} {G : JG} (X : JM E 4 cX5_asksOf RX5 (some .int) 2 80 G) (v1 : Int32) (v2 : Int32) (v3 : Int32) (σ : ST) : Jg E 4 (JF E vI) [(0, .ref (gO G 50)), (1, .int v1), (2, .int v2), (3, .int v3)] 0 [] σ (f_X5_asksOf v1 v2 v3 σ) := by
  have Y := X.1
  unfold f_X5_asksOf
  refine J_aload_n Y 0 dX5_asksOf_0 rfl rfl ?_
  refine M_get 28 X (by decide) rfl wfl_RX5_55 rfl dX5_asksOf_1 ?_
  refine J_iconst (v := (0 : Int32)) Y dX5_asksOf_4 (by decide) ?_
  refine J_iload_n Y 3 dX5_asksOf_5 rfl rfl ?_
  refine M_ast X (mA_28 G _) (mS_28 G _) dX5_asksOf_6 (fun t6 => ?_)
  refine J_aload_n Y 0 dX5_asksOf_7 rfl rfl ?_
  refine M_get 28 X (by decide) rfl wfl_RX5_55 rfl dX5_asksOf_8 ?_
  refine J_iconst (v := (1 : Int32)) Y dX5_asksOf_11 (by decide) ?_
  refine J_aload_n Y 0 dX5_asksOf_12 rfl rfl ?_
  refine M_get 3 X (by decide) rfl wfl_RX5_16 rfl dX5_asksOf_13 ?_
  refine J_bipush (v := (12 : Int32)) Y dX5_asksOf_16 (by decide) ?_
  refine J_iload_n Y 2 dX5_asksOf_18 rfl rfl ?_
  refine J_imul Y dX5_asksOf_19 ?_
  refine J_iload_n Y 3 dX5_asksOf_20 rfl rfl ?_
  refine J_iadd Y dX5_asksOf_21 ?_
  refine M_ald X (mA_3 G _) dX5_asksOf_22 (fun x22 => ?_)
  refine M_ast X (mA_28 G _) (mS_28 G _) dX5_asksOf_23 (fun t23 => ?_)
  refine J_aload_n Y 0 dX5_asksOf_24 rfl rfl ?_
  refine M_get 28 X (by decide) rfl wfl_RX5_55 rfl dX5_asksOf_25 ?_
  refine J_iconst (v := (2 : Int32)) Y dX5_asksOf_28 (by decide) ?_
  refine J_aload_n Y 0 dX5_asksOf_29 rfl rfl ?_
  refine M_get 3 X (by decide) rfl wfl_RX5_16 rfl dX5_asksOf_30 ?_
  refine J_bipush (v := (12 : Int32)) Y dX5_asksOf_33 (by decide) ?_
  refine J_iload_n Y 2 dX5_asksOf_35 rfl rfl ?_
  refine J_imul Y dX5_asksOf_36 ?_
  refine J_bipush (v := (8 : Int32)) Y dX5_asksOf_37 (by decide) ?_
  refine J_iadd Y dX5_asksOf_39 ?_
  refine M_ald X (mA_3 G _) dX5_asksOf_40 (fun x40 => ?_)
  refine M_ast X (mA_28 G _) (mS_28 G _) dX5_asksOf_41 (fun t41 => ?_)
  refine J_aload_n Y 0 dX5_asksOf_42 rfl rfl ?_
  refine M_get 28 X (by decide) rfl wfl_RX5_55 rfl dX5_asksOf_43 ?_
  refine J_iconst (v := (3 : Int32)) Y dX5_asksOf_46 (by decide) ?_
  refine J_aload_n Y 0 dX5_asksOf_47 rfl rfl ?_
  refine M_get 3 X (by decide) rfl wfl_RX5_16 rfl dX5_asksOf_48 ?_
  refine J_bipush (v := (12 : Int32)) Y dX5_asksOf_51 (by decide) ?_
  refine J_iload_n Y 2 dX5_asksOf_53 rfl rfl ?_
  refine J_imul Y dX5_asksOf_54 ?_
  refine J_bipush (v := (9 : Int32)) Y dX5_asksOf_55 (by decide) ?_
  refine J_iadd Y dX5_asksOf_57 ?_
  refine M_ald X (mA_3 G _) dX5_asksOf_58 (fun x58 => ?_)
  refine M_cSi (As := [.int x58]) (st := [.int (3 : Int32), .ref (gA G 50 28)]) rfl X (c_X5_onesOf G x58 _) wi_X5_onesOf wst_X5_onesOf wml_RX5_92 ⟨Nat.le_of_ble_eq_true rfl, Nat.le_of_ble_eq_true rfl⟩ rfl (Nat.le_of_ble_eq_true rfl) dX5_asksOf_59 (fun y59 t59 => ?_)
  refine M_ast X (mA_28 G _) (mS_28 G _) dX5_asksOf_62 (fun t62 => ?_)
  refine J_aload_n Y 0 dX5_asksOf_63 rfl rfl ?_
  refine M_get 28 X (by decide) rfl wfl_RX5_55 rfl dX5_asksOf_64 ?_
  refine J_iconst (v := (4 : Int32)) Y dX5_asksOf_67 (by decide) ?_
  refine J_aload_n Y 0 dX5_asksOf_68 rfl rfl ?_
  refine M_get 4 X (by decide) rfl wfl_RX5_86 rfl dX5_asksOf_69 ?_
  refine M_ast X (mA_28 G _) (mS_28 G _) dX5_asksOf_72 (fun t72 => ?_)
  refine J_aload_n Y 0 dX5_asksOf_73 rfl rfl ?_
  refine M_get 28 X (by decide) rfl wfl_RX5_55 rfl dX5_asksOf_74 ?_
  refine J_iconst (v := (5 : Int32)) Y dX5_asksOf_77 (by decide) ?_
  refine J_aload_n Y 0 dX5_asksOf_78 rfl rfl ?_
  refine M_get 2 X (by decide) rfl wfl_RX5_13 rfl dX5_asksOf_79 ?_
  refine J_iload_n Y 2 dX5_asksOf_82 rfl rfl ?_
  refine M_ald X (mA_2 G _) dX5_asksOf_83 (fun x83 => ?_)
  refine M_ast X (mA_28 G _) (mS_28 G _) dX5_asksOf_84 (fun t84 => ?_)
  refine J_aload_n Y 0 dX5_asksOf_85 rfl rfl ?_
  refine J_iload_n Y 1 dX5_asksOf_86 rfl rfl ?_
  refine M_cVi (As := [.int v1]) (st := []) rfl X (c_X5_says G v1 _) wi_X5_says win_X5_says wse_X5_says wml_RX5_164 ⟨Nat.le_of_ble_eq_true rfl, Nat.le_of_ble_eq_true rfl⟩ rfl (Nat.le_of_ble_eq_true rfl) dX5_asksOf_87 (fun y87 t87 => ?_)
  refine J_iload_n Y 1 dX5_asksOf_90 rfl rfl ?_
  refine J_iconst (v := (1 : Int32)) Y dX5_asksOf_91 (by decide) ?_
  refine J_icmp_ne (tgt := 100) Y dX5_asksOf_92 (by decide) ?_ ?_
  · refine J_iconst (v := (0 : Int32)) Y dX5_asksOf_100 (by decide) ?_
    refine J_sub [1] rfl ?_
    exact j_X5_asksOf_L101 X v1 (0 : Int32) y87 t87
  · refine J_bipush (v := (-99 : Int32)) Y dX5_asksOf_95 (by decide) ?_
    refine J_goto (tgt := 101) Y dX5_asksOf_97 (by decide) ?_
    refine J_sub [1] rfl ?_
    exact j_X5_asksOf_L101 X v1 (-99 : Int32) y87 t87
theorem c_X5_asksOf (G : JG) (v1 : Int32) (v2 : Int32) (v3 : Int32) (σ : ST) : Con (VM G) vI G.1 yX5_asksOf cX5_asksOf 4 (some .int) 2 80 [.ref (gO G 50), .int v1, .int v2, .int v3] σ (f_X5_asksOf v1 v2 v3 σ) :=
  Con_of (VM_ok G) (by decide +kernel) (Nat.le_of_ble_eq_true rfl) (fun E e1 e2 _ X => j_X5_asksOf ⟨X, e1, e2⟩ v1 v2 v3 σ)
set_option maxRecDepth 100000 in
set_option maxHeartbeats 4000000 in
theorem j_X5_asks_L37 {E : JE} {G : JG} (X : JM E 4 cX5_asks RX5 (some .int) 3 120 G) (s0 : Int32) (σ : ST) : Jg E 4 (JF E vI) [] 37 [.int s0] σ (f_X5_asks_L37 s0 σ) := by
  have Y := X.1
  unfold f_X5_asks_L37
  exact J_ireturn Y dX5_asks_37
set_option maxRecDepth 100000 in
set_option maxHeartbeats 4000000 in
theorem j_X5_asks_L34 {E : JE} {G : JG} (X : JM E 4 cX5_asks RX5 (some .int) 3 120 G) (σ : ST) : Jg E 4 (JF E vI) [] 34 [] σ (f_X5_asks_L34 σ) := by
  have Y := X.1
  unfold f_X5_asks_L34
  refine J_sipush (v := (-1000 : Int32)) Y dX5_asks_34 (by decide) ?_
  exact j_X5_asks_L37 X (-1000 : Int32) σ
set_option maxRecDepth 100000 in
set_option maxHeartbeats 4000000 in
theorem j_X5_asks {E : JE} {G : JG} (X : JM E 4 cX5_asks RX5 (some .int) 3 120 G) (v1 : Int32) (v2 : Int32) (v3 : Int32) (σ : ST) : Jg E 4 (JF E vI) [(0, .ref (gO G 50)), (1, .int v1), (2, .int v2), (3, .int v3)] 0 [] σ (f_X5_asks v1 v2 v3 σ) := by
  have Y := X.1
  unfold f_X5_asks
  refine J_iload_n Y 1 dX5_asks_0 rfl rfl ?_
  refine J_iconst (v := (0 : Int32)) Y dX5_asks_1 (by decide) ?_
  refine J_iconst (v := (2 : Int32)) Y dX5_asks_2 (by decide) ?_
  refine M_cSi (As := [.int v1, .int (0 : Int32), .int (2 : Int32)]) (st := []) rfl X (c_X5_in G v1 (0 : Int32) (2 : Int32) _) wi_X5_in wst_X5_in wml_RX5_78 ⟨Nat.le_of_ble_eq_true rfl, Nat.le_of_ble_eq_true rfl⟩ rfl (Nat.le_of_ble_eq_true rfl) dX5_asks_3 (fun y3 t3 => ?_)
  refine J_if_eq (tgt := 34) Y dX5_asks_6 (by decide) ?_ ?_
  · refine J_sub [] rfl ?_
    exact j_X5_asks_L34 X  t3
  · refine J_aload_n Y 0 dX5_asks_9 rfl rfl ?_
    refine J_iload_n Y 2 dX5_asks_10 rfl rfl ?_
    refine M_cVi (As := [.int v2]) (st := []) rfl X (c_X5_isOne G v2 _) wi_X5_isOne win_X5_isOne wse_X5_isOne wml_RX5_170 ⟨Nat.le_of_ble_eq_true rfl, Nat.le_of_ble_eq_true rfl⟩ rfl (Nat.le_of_ble_eq_true rfl) dX5_asks_11 (fun y11 t11 => ?_)
    refine J_if_eq (tgt := 34) Y dX5_asks_14 (by decide) ?_ ?_
    · refine J_sub [] rfl ?_
      exact j_X5_asks_L34 X  t11
    · refine J_iload_n Y 3 dX5_asks_17 rfl rfl ?_
      refine M_cSi (As := [.int v3]) (st := []) rfl X (c_X5_isPlace G v3 _) wi_X5_isPlace wst_X5_isPlace wml_RX5_173 ⟨Nat.le_of_ble_eq_true rfl, Nat.le_of_ble_eq_true rfl⟩ rfl (Nat.le_of_ble_eq_true rfl) dX5_asks_18 (fun y18 t18 => ?_)
      refine J_if_eq (tgt := 34) Y dX5_asks_21 (by decide) ?_ ?_
      · refine J_sub [] rfl ?_
        exact j_X5_asks_L34 X  t18
      · refine J_aload_n Y 0 dX5_asks_24 rfl rfl ?_
        refine J_iload_n Y 1 dX5_asks_25 rfl rfl ?_
        refine J_iload_n Y 2 dX5_asks_26 rfl rfl ?_
        refine J_iload_n Y 3 dX5_asks_27 rfl rfl ?_
        refine M_cVi (As := [.int v1, .int v2, .int v3]) (st := []) rfl X (c_X5_asksOf G v1 v2 v3 _) wi_X5_asksOf win_X5_asksOf wse_X5_asksOf wml_RX5_176 ⟨Nat.le_of_ble_eq_true rfl, Nat.le_of_ble_eq_true rfl⟩ rfl (Nat.le_of_ble_eq_true rfl) dX5_asks_28 (fun y28 t28 => ?_)
        refine J_goto (tgt := 37) Y dX5_asks_31 (by decide) ?_
        refine J_sub [] rfl ?_
        exact j_X5_asks_L37 X y28 t28
theorem c_X5_asks (G : JG) (v1 : Int32) (v2 : Int32) (v3 : Int32) (σ : ST) : Con (VM G) vI G.1 yX5_asks cX5_asks 4 (some .int) 3 120 [.ref (gO G 50), .int v1, .int v2, .int v3] σ (f_X5_asks v1 v2 v3 σ) :=
  Con_of (VM_ok G) (by decide +kernel) (Nat.le_of_ble_eq_true rfl) (fun E e1 e2 _ X => j_X5_asks ⟨X, e1, e2⟩ v1 v2 v3 σ)
set_option maxRecDepth 100000 in
set_option maxHeartbeats 4000000 in
theorem j_X5_gentleman_L20 {E : JE} {G : JG} (X : JM E 4 cX5_gentleman RX5 (some .int) 1 40 G) (σ : ST) : Jg E 4 (JF E vI) [] 20 [] σ (f_X5_gentleman_L20 σ) := by
  have Y := X.1
  unfold f_X5_gentleman_L20
  refine J_bipush (v := (-2 : Int32)) Y dX5_gentleman_20 (by decide) ?_
  exact J_ireturn Y dX5_gentleman_22
set_option maxRecDepth 100000 in
set_option maxHeartbeats 4000000 in
theorem j_X5_gentleman_L90 {E : JE} {G : JG} (X : JM E 4 cX5_gentleman RX5 (some .int) 1 40 G) (σ : ST) : Jg E 4 (JF E vI) [(0, .ref (gO G 50))] 90 [] σ (f_X5_gentleman_L90 σ) := by
  have Y := X.1
  unfold f_X5_gentleman_L90
  refine J_aload_n Y 0 dX5_gentleman_90 rfl rfl ?_
  refine M_get 3 X (by decide) rfl wfl_RX5_16 rfl dX5_gentleman_91 ?_
  refine J_bipush (v := (12 : Int32)) Y dX5_gentleman_94 (by decide) ?_
  refine J_aload_n Y 0 dX5_gentleman_96 rfl rfl ?_
  refine M_get 0 X (by decide) rfl wfl_RX5_75 rfl dX5_gentleman_97 ?_
  refine J_imul Y dX5_gentleman_100 ?_
  refine J_bipush (v := (8 : Int32)) Y dX5_gentleman_101 (by decide) ?_
  refine J_iadd Y dX5_gentleman_103 ?_
  refine J_iconst (v := (0 : Int32)) Y dX5_gentleman_104 (by decide) ?_
  refine M_ast X (mA_3 G _) (mS_3 G _) dX5_gentleman_105 (fun t105 => ?_)
  refine J_aload_n Y 0 dX5_gentleman_106 rfl rfl ?_
  refine M_get 3 X (by decide) rfl wfl_RX5_16 rfl dX5_gentleman_107 ?_
  refine J_bipush (v := (12 : Int32)) Y dX5_gentleman_110 (by decide) ?_
  refine J_aload_n Y 0 dX5_gentleman_112 rfl rfl ?_
  refine M_get 0 X (by decide) rfl wfl_RX5_75 rfl dX5_gentleman_113 ?_
  refine J_imul Y dX5_gentleman_116 ?_
  refine J_bipush (v := (9 : Int32)) Y dX5_gentleman_117 (by decide) ?_
  refine J_iadd Y dX5_gentleman_119 ?_
  refine J_iconst (v := (0 : Int32)) Y dX5_gentleman_120 (by decide) ?_
  refine M_ast X (mA_3 G _) (mS_3 G _) dX5_gentleman_121 (fun t121 => ?_)
  refine J_aload_n Y 0 dX5_gentleman_122 rfl rfl ?_
  refine M_get 3 X (by decide) rfl wfl_RX5_16 rfl dX5_gentleman_123 ?_
  refine J_bipush (v := (12 : Int32)) Y dX5_gentleman_126 (by decide) ?_
  refine J_aload_n Y 0 dX5_gentleman_128 rfl rfl ?_
  refine M_get 0 X (by decide) rfl wfl_RX5_75 rfl dX5_gentleman_129 ?_
  refine J_imul Y dX5_gentleman_132 ?_
  refine J_bipush (v := (10 : Int32)) Y dX5_gentleman_133 (by decide) ?_
  refine J_iadd Y dX5_gentleman_135 ?_
  refine J_iconst (v := (-1 : Int32)) Y dX5_gentleman_136 (by decide) ?_
  refine M_ast X (mA_3 G _) (mS_3 G _) dX5_gentleman_137 (fun t137 => ?_)
  refine J_aload_n Y 0 dX5_gentleman_138 rfl rfl ?_
  refine M_get 3 X (by decide) rfl wfl_RX5_16 rfl dX5_gentleman_139 ?_
  refine J_bipush (v := (12 : Int32)) Y dX5_gentleman_142 (by decide) ?_
  refine J_aload_n Y 0 dX5_gentleman_144 rfl rfl ?_
  refine M_get 0 X (by decide) rfl wfl_RX5_75 rfl dX5_gentleman_145 ?_
  refine J_imul Y dX5_gentleman_148 ?_
  refine J_bipush (v := (11 : Int32)) Y dX5_gentleman_149 (by decide) ?_
  refine J_iadd Y dX5_gentleman_151 ?_
  refine J_iconst (v := (0 : Int32)) Y dX5_gentleman_152 (by decide) ?_
  refine M_ast X (mA_3 G _) (mS_3 G _) dX5_gentleman_153 (fun t153 => ?_)
  refine J_aload_n Y 0 dX5_gentleman_154 rfl rfl ?_
  refine J_dup Y dX5_gentleman_155 rfl ?_
  refine M_get 0 X (by decide) rfl wfl_RX5_75 rfl dX5_gentleman_156 ?_
  refine J_iconst (v := (1 : Int32)) Y dX5_gentleman_159 (by decide) ?_
  refine J_iadd Y dX5_gentleman_160 ?_
  refine M_put 0 (ty := .int) X (by decide) wfl_RX5_75 rfl rfl rfl (by decide +kernel) rfl (mF_0 G _ _) dX5_gentleman_161 (fun t161 => ?_)
  refine J_aload_n Y 0 dX5_gentleman_164 rfl rfl ?_
  refine M_get 0 X (by decide) rfl wfl_RX5_75 rfl dX5_gentleman_165 ?_
  refine J_iconst (v := (1 : Int32)) Y dX5_gentleman_168 (by decide) ?_
  refine J_isub Y dX5_gentleman_169 ?_
  exact J_ireturn Y dX5_gentleman_170
set_option maxRecDepth 100000 in
set_option maxHeartbeats 4000000 in
theorem j_X5_gentleman_L63 {E : JE} {G : JG} (X : JM E 4 cX5_gentleman RX5 (some .int) 1 40 G) : ∀ (n : Nat) (v2 : Int32) (v3 : Int32) (σ : ST), Jg E 4 (JF E vI) [(0, .ref (gO G 50)), (2, .int v2), (3, .int v3)] 63 [] σ (f_X5_gentleman_L63 n v2 v3 σ) := by
  have Y := X.1
  intro n
  induction n with
  | zero => intro v2 v3 σ; rw [f_X5_gentleman_L63]; exact J_none
  | succ n ih =>
    intro v2 v3 σ
    rw [f_X5_gentleman_L63]
    refine J_iload_n Y 2 dX5_gentleman_63 rfl rfl ?_
    refine J_bipush (v := (8 : Int32)) Y dX5_gentleman_64 (by decide) ?_
    refine J_icmp_ge (tgt := 90) Y dX5_gentleman_66 (by decide) ?_ ?_
    · refine J_sub [0] rfl ?_
      exact j_X5_gentleman_L90 X  σ
    · refine J_aload_n Y 0 dX5_gentleman_69 rfl rfl ?_
      refine M_get 3 X (by decide) rfl wfl_RX5_16 rfl dX5_gentleman_70 ?_
      refine J_bipush (v := (12 : Int32)) Y dX5_gentleman_73 (by decide) ?_
      refine J_aload_n Y 0 dX5_gentleman_75 rfl rfl ?_
      refine M_get 0 X (by decide) rfl wfl_RX5_75 rfl dX5_gentleman_76 ?_
      refine J_imul Y dX5_gentleman_79 ?_
      refine J_iload_n Y 2 dX5_gentleman_80 rfl rfl ?_
      refine J_iadd Y dX5_gentleman_81 ?_
      refine J_iload_n Y 1 dX5_gentleman_82 rfl rfl ?_
      refine M_ast X (mA_3 G _) (mS_3 G _) dX5_gentleman_83 (fun t83 => ?_)
      refine J_iinc (v := v3 + (1 : Int32)) [(3, .int (v3 + (1 : Int32))), (0, .ref (gO G 50)), (2, .int v2)] Y 2 dX5_gentleman_84 rfl (congrArg (fun z => _ + z) (by decide)) (by decide) rfl ?_
      refine J_goto (tgt := 63) Y dX5_gentleman_87 (by decide) ?_
      refine J_sub [1, 2, 0] rfl ?_
      exact ih v2 (v3 + (1 : Int32)) t83
set_option maxRecDepth 100000 in
set_option maxHeartbeats 4000000 in
theorem j_X5_gentleman {E : JE} {G : JG} (X : JM E 4 cX5_gentleman RX5 (some .int) 1 40 G) (v1 : Int32) (v2 : Int32) (σ : ST) : Jg E 4 (JF E vI) [(0, .ref (gO G 50)), (1, .int v1), (2, .int v2)] 0 [] σ (f_X5_gentleman v1 v2 σ) := by
  have Y := X.1
  unfold f_X5_gentleman
  refine J_iload_n Y 1 dX5_gentleman_0 rfl rfl ?_
  refine J_iconst (v := (0 : Int32)) Y dX5_gentleman_1 (by decide) ?_
  refine J_bipush (v := (59 : Int32)) Y dX5_gentleman_2 (by decide) ?_
  refine M_cSi (As := [.int v1, .int (0 : Int32), .int (59 : Int32)]) (st := []) rfl X (c_X5_in G v1 (0 : Int32) (59 : Int32) _) wi_X5_in wst_X5_in wml_RX5_78 ⟨Nat.le_of_ble_eq_true rfl, Nat.le_of_ble_eq_true rfl⟩ rfl (Nat.le_of_ble_eq_true rfl) dX5_gentleman_4 (fun y4 t4 => ?_)
  refine J_if_eq (tgt := 20) Y dX5_gentleman_7 (by decide) ?_ ?_
  · refine J_sub [] rfl ?_
    exact j_X5_gentleman_L20 X  t4
  · refine J_iload_n Y 2 dX5_gentleman_10 rfl rfl ?_
    refine J_iconst (v := (0 : Int32)) Y dX5_gentleman_11 (by decide) ?_
    refine J_bipush (v := (9 : Int32)) Y dX5_gentleman_12 (by decide) ?_
    refine M_cSi (As := [.int v2, .int (0 : Int32), .int (9 : Int32)]) (st := []) rfl X (c_X5_in G v2 (0 : Int32) (9 : Int32) _) wi_X5_in wst_X5_in wml_RX5_78 ⟨Nat.le_of_ble_eq_true rfl, Nat.le_of_ble_eq_true rfl⟩ rfl (Nat.le_of_ble_eq_true rfl) dX5_gentleman_14 (fun y14 t14 => ?_)
    refine J_if_ne (tgt := 23) Y dX5_gentleman_17 (by decide) ?_ ?_
    · refine J_aload_n Y 0 dX5_gentleman_23 rfl rfl ?_
      refine M_get 0 X (by decide) rfl wfl_RX5_75 rfl dX5_gentleman_24 ?_
      refine J_bipush (v := (6 : Int32)) Y dX5_gentleman_27 (by decide) ?_
      refine J_icmp_ne (tgt := 35) Y dX5_gentleman_29 (by decide) ?_ ?_
      · refine J_aload_n Y 0 dX5_gentleman_35 rfl rfl ?_
        refine M_get 1 X (by decide) rfl wfl_RX5_7 rfl dX5_gentleman_36 ?_
        refine J_aload_n Y 0 dX5_gentleman_39 rfl rfl ?_
        refine M_get 0 X (by decide) rfl wfl_RX5_75 rfl dX5_gentleman_40 ?_
        refine J_iload_n Y 1 dX5_gentleman_43 rfl rfl ?_
        refine J_bipush (v := (10 : Int32)) Y dX5_gentleman_44 (by decide) ?_
        refine J_idiv Y dX5_gentleman_46 (by decide) ?_
        refine M_ast X (mA_1 G _) (mS_1 G _) dX5_gentleman_47 (fun t47 => ?_)
        refine J_aload_n Y 0 dX5_gentleman_48 rfl rfl ?_
        refine M_get 2 X (by decide) rfl wfl_RX5_13 rfl dX5_gentleman_49 ?_
        refine J_aload_n Y 0 dX5_gentleman_52 rfl rfl ?_
        refine M_get 0 X (by decide) rfl wfl_RX5_75 rfl dX5_gentleman_53 ?_
        refine J_iload_n Y 1 dX5_gentleman_56 rfl rfl ?_
        refine J_bipush (v := (10 : Int32)) Y dX5_gentleman_57 (by decide) ?_
        refine J_irem Y dX5_gentleman_59 (by decide) ?_
        refine M_ast X (mA_2 G _) (mS_2 G _) dX5_gentleman_60 (fun t60 => ?_)
        refine J_iconst (v := (0 : Int32)) Y dX5_gentleman_61 (by decide) ?_
        refine J_istore_n [(3, .int (0 : Int32)), (0, .ref (gO G 50)), (1, .int v1), (2, .int v2)] Y dX5_gentleman_62 rfl (by decide) rfl ?_
        refine J_sub [1, 3, 0] rfl ?_
        exact j_X5_gentleman_L63 X 1000 v2 (0 : Int32) t60
      · refine J_bipush (v := (-4 : Int32)) Y dX5_gentleman_32 (by decide) ?_
        exact J_ireturn Y dX5_gentleman_34
    · refine J_sub [] rfl ?_
      exact j_X5_gentleman_L20 X  t14
theorem c_X5_gentleman (G : JG) (v1 : Int32) (v2 : Int32) (σ : ST) : Con (VM G) vI G.1 yX5_gentleman cX5_gentleman 4 (some .int) 1 40 [.ref (gO G 50), .int v1, .int v2] σ (f_X5_gentleman v1 v2 σ) :=
  Con_of (VM_ok G) (by decide +kernel) (Nat.le_of_ble_eq_true rfl) (fun E e1 e2 _ X => j_X5_gentleman ⟨X, e1, e2⟩ v1 v2 σ)
set_option maxRecDepth 100000 in
set_option maxHeartbeats 4000000 in
theorem j_X5_put_L42 {E : JE} {G : JG} (X : JM E 5 cX5_put RX5 (some .int) 2 80 G) (σ : ST) : Jg E 5 (JF E vI) [] 42 [] σ (f_X5_put_L42 σ) := by
  have Y := X.1
  unfold f_X5_put_L42
  refine J_bipush (v := (-7 : Int32)) Y dX5_put_42 (by decide) ?_
  exact J_ireturn Y dX5_put_44
set_option maxRecDepth 100000 in
set_option maxHeartbeats 4000000 in
theorem j_X5_put_L36 {E : JE} {G : JG} (X : JM E 5 cX5_put RX5 (some .int) 2 80 G) (v1 : Int32) (v2 : Int32) (v3 : Int32) (s0 : Int32) (s1 : Int32) (s2 : Int32) (σ : ST) : Jg E 5 (JF E vI) [(0, .ref (gO G 50)), (1, .int v1), (2, .int v2), (3, .int v3)] 36 [.int s0, .int s1, .int s2] σ (f_X5_put_L36 v1 v2 v3 s0 s1 s2 σ) := by
  have Y := X.1
  unfold f_X5_put_L36
  refine M_cSi (As := [.int s2, .int s1, .int s0]) (st := []) rfl X (c_X5_in G s2 s1 s0 _) wi_X5_in wst_X5_in wml_RX5_78 ⟨Nat.le_of_ble_eq_true rfl, Nat.le_of_ble_eq_true rfl⟩ rfl (Nat.le_of_ble_eq_true rfl) dX5_put_36 (fun y36 t36 => ?_)
  refine J_if_ne (tgt := 45) Y dX5_put_39 (by decide) ?_ ?_
  · refine J_aload_n Y 0 dX5_put_45 rfl rfl ?_
    refine M_get 3 X (by decide) rfl wfl_RX5_16 rfl dX5_put_46 ?_
    refine J_bipush (v := (12 : Int32)) Y dX5_put_49 (by decide) ?_
    refine J_iload_n Y 1 dX5_put_51 rfl rfl ?_
    refine J_imul Y dX5_put_52 ?_
    refine J_iload_n Y 2 dX5_put_53 rfl rfl ?_
    refine J_iadd Y dX5_put_54 ?_
    refine M_ald X (mA_3 G _) dX5_put_55 (fun x55 => ?_)
    refine J_istore [(4, .int x55), (0, .ref (gO G 50)), (1, .int v1), (2, .int v2), (3, .int v3)] Y dX5_put_56 (by decide) rfl ?_
    refine J_aload_n Y 1 dX5_put_58 rfl rfl ?_
    refine M_get 3 X (by decide) rfl wfl_RX5_16 rfl dX5_put_59 ?_
    refine J_bipush (v := (12 : Int32)) Y dX5_put_62 (by decide) ?_
    refine J_iload_n Y 2 dX5_put_64 rfl rfl ?_
    refine J_imul Y dX5_put_65 ?_
    refine J_iload_n Y 3 dX5_put_66 rfl rfl ?_
    refine J_iadd Y dX5_put_67 ?_
    refine J_iload_n Y 4 dX5_put_68 rfl rfl ?_
    refine M_ast X (mA_3 G _) (mS_3 G _) dX5_put_69 (fun t69 => ?_)
    refine J_iload Y 0 dX5_put_70 rfl ?_
    exact J_ireturn Y dX5_put_72
  · refine J_sub [] rfl ?_
    exact j_X5_put_L42 X  t36
set_option maxRecDepth 100000 in
set_option maxHeartbeats 4000000 in
theorem j_X5_put {E : JE} {G : JG} (X : JM E 5 cX5_put RX5 (some .int) 2 80 G) (v1 : Int32) (v2 : Int32) (v3 : Int32) (σ : ST) : Jg E 5 (JF E vI) [(0, .ref (gO G 50)), (1, .int v1), (2, .int v2), (3, .int v3)] 0 [] σ (f_X5_put v1 v2 v3 σ) := by
  have Y := X.1
  unfold f_X5_put
  refine J_aload_n Y 0 dX5_put_0 rfl rfl ?_
  refine J_iload_n Y 1 dX5_put_1 rfl rfl ?_
  refine M_cVi (As := [.int v1]) (st := []) rfl X (c_X5_isOne G v1 _) wi_X5_isOne win_X5_isOne wse_X5_isOne wml_RX5_170 ⟨Nat.le_of_ble_eq_true rfl, Nat.le_of_ble_eq_true rfl⟩ rfl (Nat.le_of_ble_eq_true rfl) dX5_put_2 (fun y2 t2 => ?_)
  refine J_if_ne (tgt := 11) Y dX5_put_5 (by decide) ?_ ?_
  · refine J_iload_n Y 2 dX5_put_11 rfl rfl ?_
    refine J_iconst (v := (0 : Int32)) Y dX5_put_12 (by decide) ?_
    refine J_bipush (v := (8 : Int32)) Y dX5_put_13 (by decide) ?_
    refine M_cSi (As := [.int v2, .int (0 : Int32), .int (8 : Int32)]) (st := []) rfl X (c_X5_in G v2 (0 : Int32) (8 : Int32) _) wi_X5_in wst_X5_in wml_RX5_78 ⟨Nat.le_of_ble_eq_true rfl, Nat.le_of_ble_eq_true rfl⟩ rfl (Nat.le_of_ble_eq_true rfl) dX5_put_15 (fun y15 t15 => ?_)
    refine J_if_eq (tgt := 42) Y dX5_put_18 (by decide) ?_ ?_
    · refine J_sub [] rfl ?_
      exact j_X5_put_L42 X  t15
    · refine J_iload_n Y 3 dX5_put_21 rfl rfl ?_
      refine J_iconst (v := (0 : Int32)) Y dX5_put_22 (by decide) ?_
      refine J_iload_n Y 2 dX5_put_23 rfl rfl ?_
      refine J_bipush (v := (8 : Int32)) Y dX5_put_24 (by decide) ?_
      refine J_icmp_ne (tgt := 34) Y dX5_put_26 (by decide) ?_ ?_
      · refine J_bipush (v := (9 : Int32)) Y dX5_put_34 (by decide) ?_
        exact j_X5_put_L36 X v1 v2 v3 (9 : Int32) (0 : Int32) v3 t15
      · refine J_bipush (v := (99 : Int32)) Y dX5_put_29 (by decide) ?_
        refine J_goto (tgt := 36) Y dX5_put_31 (by decide) ?_
        exact j_X5_put_L36 X v1 v2 v3 (99 : Int32) (0 : Int32) v3 t15
  · refine J_bipush (v := (-5 : Int32)) Y dX5_put_8 (by decide) ?_
    exact J_ireturn Y dX5_put_10
theorem c_X5_put (G : JG) (v1 : Int32) (v2 : Int32) (v3 : Int32) (σ : ST) : Con (VM G) vI G.1 yX5_put cX5_put 5 (some .int) 2 80 [.ref (gO G 50), .int v1, .int v2, .int v3] σ (f_X5_put v1 v2 v3 σ) :=
  Con_of (VM_ok G) (by decide +kernel) (Nat.le_of_ble_eq_true rfl) (fun E e1 e2 _ X => j_X5_put ⟨X, e1, e2⟩ v1 v2 v3 σ)
set_option maxRecDepth 100000 in
set_option maxHeartbeats 4000000 in
theorem j_X5_told {E : JE} {G : JG} (X : JM E 3 cX5_told RX5 (some .int) 2 80 G) (v1 : Int32) (v2 : Int32) (σ : ST) : Jg E 3 (JF E vI) [(0, .ref (gO G 50)), (1, .int v1), (2, .int v2)] 0 [] σ (f_X5_told v1 v2 σ) := by
  have Y := X.1
  unfold f_X5_told
  refine J_aload_n Y 0 dX5_told_0 rfl rfl ?_
  refine J_iload_n Y 1 dX5_told_1 rfl rfl ?_
  refine M_cVi (As := [.int v1]) (st := []) rfl X (c_X5_isOne G v1 _) wi_X5_isOne win_X5_isOne wse_X5_isOne wml_RX5_170 ⟨Nat.le_of_ble_eq_true rfl, Nat.le_of_ble_eq_true rfl⟩ rfl (Nat.le_of_ble_eq_true rfl) dX5_told_2 (fun y2 t2 => ?_)
  refine J_if_ne (tgt := 11) Y dX5_told_5 (by decide) ?_ ?_
  · refine J_iload_n Y 2 dX5_told_11 rfl rfl ?_
    refine J_iconst (v := (0 : Int32)) Y dX5_told_12 (by decide) ?_
    refine J_bipush (v := (8 : Int32)) Y dX5_told_13 (by decide) ?_
    refine M_cSi (As := [.int v2, .int (0 : Int32), .int (8 : Int32)]) (st := []) rfl X (c_X5_in G v2 (0 : Int32) (8 : Int32) _) wi_X5_in wst_X5_in wml_RX5_78 ⟨Nat.le_of_ble_eq_true rfl, Nat.le_of_ble_eq_true rfl⟩ rfl (Nat.le_of_ble_eq_true rfl) dX5_told_15 (fun y15 t15 => ?_)
    refine J_if_eq (tgt := 33) Y dX5_told_18 (by decide) ?_ ?_
    · refine J_iload_n Y 2 dX5_told_33 rfl rfl ?_
      refine J_ite (fun c34_9 => ?_) (fun c34_9 => ?_)
      · refine J_tin (tgt := 68) (9 : Int32) c34_9 Y dX5_told_34 (by decide) (by decide) rfl (by decide) ?_
        refine J_aload_n Y 0 dX5_told_68 rfl rfl ?_
        refine M_get 1 X (by decide) rfl wfl_RX5_7 rfl dX5_told_69 ?_
        refine J_iload_n Y 1 dX5_told_72 rfl rfl ?_
        refine M_ald X (mA_1 G _) dX5_told_73 (fun x73 => ?_)
        exact J_ireturn Y dX5_told_74
      refine J_ite (fun c34_10 => ?_) (fun c34_10 => ?_)
      · refine J_tin (tgt := 75) (10 : Int32) c34_10 Y dX5_told_34 (by decide) (by decide) rfl (by decide) ?_
        refine J_aload_n Y 0 dX5_told_75 rfl rfl ?_
        refine M_get 2 X (by decide) rfl wfl_RX5_13 rfl dX5_told_76 ?_
        refine J_iload_n Y 1 dX5_told_79 rfl rfl ?_
        refine M_ald X (mA_2 G _) dX5_told_80 (fun x80 => ?_)
        exact J_ireturn Y dX5_told_81
      refine J_ite (fun c34_11 => ?_) (fun c34_11 => ?_)
      · refine J_tin (tgt := 82) (11 : Int32) c34_11 Y dX5_told_34 (by decide) (by decide) rfl (by decide) ?_
        refine J_aload_n Y 0 dX5_told_82 rfl rfl ?_
        refine M_get 3 X (by decide) rfl wfl_RX5_16 rfl dX5_told_83 ?_
        refine J_bipush (v := (12 : Int32)) Y dX5_told_86 (by decide) ?_
        refine J_iload_n Y 1 dX5_told_88 rfl rfl ?_
        refine J_imul Y dX5_told_89 ?_
        refine J_iload_n Y 2 dX5_told_90 rfl rfl ?_
        refine J_iadd Y dX5_told_91 ?_
        refine J_iconst (v := (2 : Int32)) Y dX5_told_92 (by decide) ?_
        refine J_isub Y dX5_told_93 ?_
        refine M_ald X (mA_3 G _) dX5_told_94 (fun x94 => ?_)
        exact J_ireturn Y dX5_told_95
      refine J_ite (fun c34_12 => ?_) (fun c34_12 => ?_)
      · refine J_tin (tgt := 82) (12 : Int32) c34_12 Y dX5_told_34 (by decide) (by decide) rfl (by decide) ?_
        refine J_aload_n Y 0 dX5_told_82 rfl rfl ?_
        refine M_get 3 X (by decide) rfl wfl_RX5_16 rfl dX5_told_83 ?_
        refine J_bipush (v := (12 : Int32)) Y dX5_told_86 (by decide) ?_
        refine J_iload_n Y 1 dX5_told_88 rfl rfl ?_
        refine J_imul Y dX5_told_89 ?_
        refine J_iload_n Y 2 dX5_told_90 rfl rfl ?_
        refine J_iadd Y dX5_told_91 ?_
        refine J_iconst (v := (2 : Int32)) Y dX5_told_92 (by decide) ?_
        refine J_isub Y dX5_told_93 ?_
        refine M_ald X (mA_3 G _) dX5_told_94 (fun x94 => ?_)
        exact J_ireturn Y dX5_told_95
      refine J_ite (fun c34_13 => ?_) (fun c34_13 => ?_)
      · refine J_tin (tgt := 82) (13 : Int32) c34_13 Y dX5_told_34 (by decide) (by decide) rfl (by decide) ?_
        refine J_aload_n Y 0 dX5_told_82 rfl rfl ?_
        refine M_get 3 X (by decide) rfl wfl_RX5_16 rfl dX5_told_83 ?_
        refine J_bipush (v := (12 : Int32)) Y dX5_told_86 (by decide) ?_
        refine J_iload_n Y 1 dX5_told_88 rfl rfl ?_
        refine J_imul Y dX5_told_89 ?_
        refine J_iload_n Y 2 dX5_told_90 rfl rfl ?_
        refine J_iadd Y dX5_told_91 ?_
        refine J_iconst (v := (2 : Int32)) Y dX5_told_92 (by decide) ?_
        refine J_isub Y dX5_told_93 ?_
        refine M_ald X (mA_3 G _) dX5_told_94 (fun x94 => ?_)
        exact J_ireturn Y dX5_told_95
      have e34_9 := lv_neT c34_9 (show ((9 : Int32)).toInt = (9 : Int) by decide)
      have e34_10 := lv_neT c34_10 (show ((10 : Int32)).toInt = (10 : Int) by decide)
      have e34_11 := lv_neT c34_11 (show ((11 : Int32)).toInt = (11 : Int) by decide)
      have e34_12 := lv_neT c34_12 (show ((12 : Int32)).toInt = (12 : Int) by decide)
      have e34_13 := lv_neT c34_13 (show ((13 : Int32)).toInt = (13 : Int) by decide)
      refine J_tout (tgt := 96) Y dX5_told_34 (by omega) (by decide) ?_
      refine J_bipush (v := (-7 : Int32)) Y dX5_told_96 (by decide) ?_
      exact J_ireturn Y dX5_told_98
    · refine J_aload_n Y 0 dX5_told_21 rfl rfl ?_
      refine M_get 3 X (by decide) rfl wfl_RX5_16 rfl dX5_told_22 ?_
      refine J_bipush (v := (12 : Int32)) Y dX5_told_25 (by decide) ?_
      refine J_iload_n Y 1 dX5_told_27 rfl rfl ?_
      refine J_imul Y dX5_told_28 ?_
      refine J_iload_n Y 2 dX5_told_29 rfl rfl ?_
      refine J_iadd Y dX5_told_30 ?_
      refine M_ald X (mA_3 G _) dX5_told_31 (fun x31 => ?_)
      exact J_ireturn Y dX5_told_32
  · refine J_bipush (v := (-5 : Int32)) Y dX5_told_8 (by decide) ?_
    exact J_ireturn Y dX5_told_10
theorem c_X5_told (G : JG) (v1 : Int32) (v2 : Int32) (σ : ST) : Con (VM G) vI G.1 yX5_told cX5_told 3 (some .int) 2 80 [.ref (gO G 50), .int v1, .int v2] σ (f_X5_told v1 v2 σ) :=
  Con_of (VM_ok G) (by decide +kernel) (Nat.le_of_ble_eq_true rfl) (fun E e1 e2 _ X => j_X5_told ⟨X, e1, e2⟩ v1 v2 σ)
set_option maxRecDepth 100000 in
set_option maxHeartbeats 4000000 in
theorem j_X5_goneOf_L30 {E : JE} {G : JG} (X : JM E 5 cX5_goneOf RX5 (some .int) 3 120 G) (s0 : Int32) (σ : ST) : Jg E 5 (JF E vI) [] 30 [.int s0] σ (f_X5_goneOf_L30 s0 σ) := by
  have Y := X.1
  unfold f_X5_goneOf_L30
  exact J_ireturn Y dX5_goneOf_30
set_option maxRecDepth 100000 in
set_option maxHeartbeats 4000000 in
theorem j_X5_goneOf_L159 {E : JE} {G : JG} (X : JM E 5 cX5_goneOf RX5 (some .int) 3 120 G) (s0 : Int32) (σ : ST) : Jg E 5 (JF E vI) [] 159 [.int s0] σ (f_X5_goneOf_L159 s0 σ) := by
  have Y := X.1
  unfold f_X5_goneOf_L159
  exact J_ireturn Y dX5_goneOf_159
set_option maxRecDepth 100000 in
set_option maxHeartbeats 4000000 in
theorem j_X5_goneOf_L147 {E : JE} {G : JG} (X : JM E 5 cX5_goneOf RX5 (some .int) 3 120 G) (v4 : Int32) (σ : ST) : Jg E 5 (JF E vI) [(4, .int v4)] 147 [] σ (f_X5_goneOf_L147 v4 σ) := by
  have Y := X.1
  unfold f_X5_goneOf_L147
  refine J_iload Y 0 dX5_goneOf_147 rfl ?_
  refine J_iconst (v := (1 : Int32)) Y dX5_goneOf_149 (by decide) ?_
  refine J_icmp_ge (tgt := 157) Y dX5_goneOf_150 (by decide) ?_ ?_
  · refine J_iload Y 0 dX5_goneOf_157 rfl ?_
    refine J_sub [] rfl ?_
    exact j_X5_goneOf_L159 X v4 σ
  · refine J_iconst (v := (1 : Int32)) Y dX5_goneOf_153 (by decide) ?_
    refine J_goto (tgt := 159) Y dX5_goneOf_154 (by decide) ?_
    refine J_sub [] rfl ?_
    exact j_X5_goneOf_L159 X (1 : Int32) σ
set_option maxRecDepth 100000 in
set_option maxHeartbeats 4000000 in
theorem j_X5_goneOf_L117 {E : JE} {G : JG} (X : JM E 5 cX5_goneOf RX5 (some .int) 3 120 G) (s0 : Int32) (σ : ST) : Jg E 5 (JF E vI) [] 117 [.int s0] σ (f_X5_goneOf_L117 s0 σ) := by
  have Y := X.1
  unfold f_X5_goneOf_L117
  refine J_istore [(4, .int s0)] Y dX5_goneOf_117 (by decide) rfl ?_
  refine J_goto (tgt := 147) Y dX5_goneOf_119 (by decide) ?_
  exact j_X5_goneOf_L147 X s0 σ
set_option maxRecDepth 100000 in
set_option maxHeartbeats 4000000 in
theorem j_X5_goneOf_L139 {E : JE} {G : JG} (X : JM E 5 cX5_goneOf RX5 (some .int) 3 120 G) (s0 : Int32) (σ : ST) : Jg E 5 (JF E vI) [] 139 [.int s0] σ (f_X5_goneOf_L139 s0 σ) := by
  have Y := X.1
  unfold f_X5_goneOf_L139
  refine J_istore [(4, .int s0)] Y dX5_goneOf_139 (by decide) rfl ?_
  refine J_goto (tgt := 147) Y dX5_goneOf_141 (by decide) ?_
  exact j_X5_goneOf_L147 X s0 σ
set_option maxRecDepth 100000 in
set_option maxHeartbeats 4000000 in
theorem j_X5_goneOf {E : JE} {G : JG} (X : JM E 5 cX5_goneOf RX5 (some .int) 3 120 G) (v1 : Int32) (v2 : Int32) (σ : ST) : Jg E 5 (JF E vI) [(0, .ref (gO G 50)), (1, .int v1), (2, .int v2)] 0 [] σ (f_X5_goneOf v1 v2 σ) := by
  have Y := X.1
  unfold f_X5_goneOf
  refine J_aload_n Y 0 dX5_goneOf_0 rfl rfl ?_
  refine M_get 1 X (by decide) rfl wfl_RX5_7 rfl dX5_goneOf_1 ?_
  refine J_iload_n Y 1 dX5_goneOf_4 rfl rfl ?_
  refine M_ald X (mA_1 G _) dX5_goneOf_5 (fun x5 => ?_)
  refine J_iconst (v := (5 : Int32)) Y dX5_goneOf_6 (by decide) ?_
  refine J_icmp_ne (tgt := 31) Y dX5_goneOf_7 (by decide) ?_ ?_
  · refine J_aload_n Y 0 dX5_goneOf_31 rfl rfl ?_
    refine J_iconst (v := (0 : Int32)) Y dX5_goneOf_32 (by decide) ?_
    refine J_iload_n Y 1 dX5_goneOf_33 rfl rfl ?_
    refine J_iload_n Y 2 dX5_goneOf_34 rfl rfl ?_
    refine M_cVi (As := [.int (0 : Int32), .int v1, .int v2]) (st := []) rfl X (c_X5_asksOf G (0 : Int32) v1 v2 _) wi_X5_asksOf win_X5_asksOf wse_X5_asksOf wml_RX5_176 ⟨Nat.le_of_ble_eq_true rfl, Nat.le_of_ble_eq_true rfl⟩ rfl (Nat.le_of_ble_eq_true rfl) dX5_goneOf_35 (fun y35 t35 => ?_)
    refine J_istore_n [(3, .int y35), (0, .ref (gO G 50)), (1, .int v1), (2, .int v2)] Y dX5_goneOf_38 rfl (by decide) rfl ?_
    refine J_iload_n Y 0 dX5_goneOf_39 rfl rfl ?_
    refine J_istore [(4, .int y35), (3, .int y35), (0, .ref (gO G 50)), (1, .int v1), (2, .int v2)] Y dX5_goneOf_40 (by decide) rfl ?_
    refine J_aload_n Y 2 dX5_goneOf_42 rfl rfl ?_
    refine M_get 1 X (by decide) rfl wfl_RX5_7 rfl dX5_goneOf_43 ?_
    refine J_iload_n Y 3 dX5_goneOf_46 rfl rfl ?_
    refine M_ald X (mA_1 G _) dX5_goneOf_47 (fun x47 => ?_)
    refine J_ite (fun c48_1 => ?_) (fun c48_1 => ?_)
    · refine J_tin (tgt := 80) (1 : Int32) c48_1 Y dX5_goneOf_48 (by decide) (by decide) rfl (by decide) ?_
      refine J_iload_n Y 1 dX5_goneOf_80 rfl rfl ?_
      refine J_iconst (v := (2 : Int32)) Y dX5_goneOf_81 (by decide) ?_
      refine J_idiv Y dX5_goneOf_82 (by decide) ?_
      refine J_istore [(4, .int (y35 / (2 : Int32))), (3, .int y35), (0, .ref (gO G 50)), (1, .int v1), (2, .int v2)] Y dX5_goneOf_83 (by decide) rfl ?_
      refine J_goto (tgt := 147) Y dX5_goneOf_85 (by decide) ?_
      refine J_sub [0] rfl ?_
      exact j_X5_goneOf_L147 X (y35 / (2 : Int32)) t35
    refine J_ite (fun c48_2 => ?_) (fun c48_2 => ?_)
    · refine J_tin (tgt := 88) (2 : Int32) c48_2 Y dX5_goneOf_48 (by decide) (by decide) rfl (by decide) ?_
      refine J_iload_n Y 1 dX5_goneOf_88 rfl rfl ?_
      refine J_bipush (v := (10 : Int32)) Y dX5_goneOf_89 (by decide) ?_
      refine J_iadd Y dX5_goneOf_91 ?_
      refine J_istore [(4, .int (y35 + (10 : Int32))), (3, .int y35), (0, .ref (gO G 50)), (1, .int v1), (2, .int v2)] Y dX5_goneOf_92 (by decide) rfl ?_
      refine J_goto (tgt := 147) Y dX5_goneOf_94 (by decide) ?_
      refine J_sub [0] rfl ?_
      exact j_X5_goneOf_L147 X (y35 + (10 : Int32)) t35
    refine J_ite (fun c48_3 => ?_) (fun c48_3 => ?_)
    · refine J_tin (tgt := 97) (3 : Int32) c48_3 Y dX5_goneOf_48 (by decide) (by decide) rfl (by decide) ?_
      refine J_iload_n Y 4 dX5_goneOf_97 rfl rfl ?_
      refine J_aload_n Y 2 dX5_goneOf_98 rfl rfl ?_
      refine M_get 2 X (by decide) rfl wfl_RX5_13 rfl dX5_goneOf_99 ?_
      refine J_iload_n Y 3 dX5_goneOf_102 rfl rfl ?_
      refine M_ald X (mA_2 G _) dX5_goneOf_103 (fun x103 => ?_)
      refine J_bipush (v := (8 : Int32)) Y dX5_goneOf_104 (by decide) ?_
      refine J_irem Y dX5_goneOf_106 (by decide) ?_
      refine J_icmp_ne (tgt := 114) Y dX5_goneOf_107 (by decide) ?_ ?_
      · refine J_iload_n Y 1 dX5_goneOf_114 rfl rfl ?_
        refine J_iconst (v := (2 : Int32)) Y dX5_goneOf_115 (by decide) ?_
        refine J_idiv Y dX5_goneOf_116 (by decide) ?_
        refine J_sub [] rfl ?_
        exact j_X5_goneOf_L117 X (y35 / (2 : Int32)) t35
      · refine J_iconst (v := (1 : Int32)) Y dX5_goneOf_110 (by decide) ?_
        refine J_goto (tgt := 117) Y dX5_goneOf_111 (by decide) ?_
        refine J_sub [] rfl ?_
        exact j_X5_goneOf_L117 X (1 : Int32) t35
    refine J_ite (fun c48_4 => ?_) (fun c48_4 => ?_)
    · refine J_tin (tgt := 122) (4 : Int32) c48_4 Y dX5_goneOf_48 (by decide) (by decide) rfl (by decide) ?_
      refine J_iload_n Y 4 dX5_goneOf_122 rfl rfl ?_
      refine J_bipush (v := (7 : Int32)) Y dX5_goneOf_123 (by decide) ?_
      refine J_icmp_ne (tgt := 133) Y dX5_goneOf_125 (by decide) ?_ ?_
      · refine J_iload_n Y 1 dX5_goneOf_133 rfl rfl ?_
        refine J_bipush (v := (10 : Int32)) Y dX5_goneOf_134 (by decide) ?_
        refine J_iadd Y dX5_goneOf_136 ?_
        refine J_iconst (v := (3 : Int32)) Y dX5_goneOf_137 (by decide) ?_
        refine J_idiv Y dX5_goneOf_138 (by decide) ?_
        refine J_sub [] rfl ?_
        exact j_X5_goneOf_L139 X ((y35 + (10 : Int32)) / (3 : Int32)) t35
      · refine J_bipush (v := (99 : Int32)) Y dX5_goneOf_128 (by decide) ?_
        refine J_goto (tgt := 139) Y dX5_goneOf_130 (by decide) ?_
        refine J_sub [] rfl ?_
        exact j_X5_goneOf_L139 X (99 : Int32) t35
    have e48_1 := lv_neT c48_1 (show ((1 : Int32)).toInt = (1 : Int) by decide)
    have e48_2 := lv_neT c48_2 (show ((2 : Int32)).toInt = (2 : Int) by decide)
    have e48_3 := lv_neT c48_3 (show ((3 : Int32)).toInt = (3 : Int) by decide)
    have e48_4 := lv_neT c48_4 (show ((4 : Int32)).toInt = (4 : Int) by decide)
    refine J_tout (tgt := 144) Y dX5_goneOf_48 (by omega) (by decide) ?_
    refine J_iload_n Y 1 dX5_goneOf_144 rfl rfl ?_
    refine J_istore [(4, .int y35), (3, .int y35), (0, .ref (gO G 50)), (1, .int v1), (2, .int v2)] Y dX5_goneOf_145 (by decide) rfl ?_
    refine J_sub [0] rfl ?_
    exact j_X5_goneOf_L147 X y35 t35
  · refine J_aload_n Y 0 dX5_goneOf_10 rfl rfl ?_
    refine M_get 2 X (by decide) rfl wfl_RX5_13 rfl dX5_goneOf_11 ?_
    refine J_iload_n Y 1 dX5_goneOf_14 rfl rfl ?_
    refine M_ald X (mA_2 G _) dX5_goneOf_15 (fun x15 => ?_)
    refine J_iconst (v := (1 : Int32)) Y dX5_goneOf_16 (by decide) ?_
    refine J_icmp_ge (tgt := 24) Y dX5_goneOf_17 (by decide) ?_ ?_
    · refine J_aload_n Y 0 dX5_goneOf_24 rfl rfl ?_
      refine M_get 2 X (by decide) rfl wfl_RX5_13 rfl dX5_goneOf_25 ?_
      refine J_iload_n Y 1 dX5_goneOf_28 rfl rfl ?_
      refine M_ald X (mA_2 G _) dX5_goneOf_29 (fun x29 => ?_)
      refine J_sub [] rfl ?_
      exact j_X5_goneOf_L30 X x29 σ
    · refine J_iconst (v := (1 : Int32)) Y dX5_goneOf_20 (by decide) ?_
      refine J_goto (tgt := 30) Y dX5_goneOf_21 (by decide) ?_
      refine J_sub [] rfl ?_
      exact j_X5_goneOf_L30 X (1 : Int32) σ
theorem c_X5_goneOf (G : JG) (v1 : Int32) (v2 : Int32) (σ : ST) : Con (VM G) vI G.1 yX5_goneOf cX5_goneOf 5 (some .int) 3 120 [.ref (gO G 50), .int v1, .int v2] σ (f_X5_goneOf v1 v2 σ) :=
  Con_of (VM_ok G) (by decide +kernel) (Nat.le_of_ble_eq_true rfl) (fun E e1 e2 _ X => j_X5_goneOf ⟨X, e1, e2⟩ v1 v2 σ)
set_option maxRecDepth 100000 in
set_option maxHeartbeats 4000000 in
theorem j_X5_gainsOf_L69 {E : JE} {G : JG} (X : JM E 5 cX5_gainsOf RX5 (some .int) 3 120 G) (s0 : Int32) (σ : ST) : Jg E 5 (JF E vI) [] 69 [.int s0] σ (f_X5_gainsOf_L69 s0 σ) := by
  have Y := X.1
  unfold f_X5_gainsOf_L69
  exact J_ireturn Y dX5_gainsOf_69
set_option maxRecDepth 100000 in
set_option maxHeartbeats 4000000 in
theorem j_X5_gainsOf_L89 {E : JE} {G : JG} (X : JM E 5 cX5_gainsOf RX5 (some .int) 3 120 G) (s0 : Int32) (σ : ST) : Jg E 5 (JF E vI) [] 89 [.int s0] σ (f_X5_gainsOf_L89 s0 σ) := by
  have Y := X.1
  unfold f_X5_gainsOf_L89
  exact J_ireturn Y dX5_gainsOf_89
set_option maxRecDepth 100000 in
set_option maxHeartbeats 4000000 in
theorem j_X5_gainsOf {E : JE} {G : JG} (X : JM E 5 cX5_gainsOf RX5 (some .int) 3 120 G) (v1 : Int32) (v2 : Int32) (σ : ST) : Jg E 5 (JF E vI) [(0, .ref (gO G 50)), (1, .int v1), (2, .int v2)] 0 [] σ (f_X5_gainsOf v1 v2 σ) := by
  have Y := X.1
  unfold f_X5_gainsOf
  refine J_aload_n Y 0 dX5_gainsOf_0 rfl rfl ?_
  refine J_iconst (v := (1 : Int32)) Y dX5_gainsOf_1 (by decide) ?_
  refine J_iload_n Y 1 dX5_gainsOf_2 rfl rfl ?_
  refine J_iload_n Y 2 dX5_gainsOf_3 rfl rfl ?_
  refine M_cVi (As := [.int (1 : Int32), .int v1, .int v2]) (st := []) rfl X (c_X5_asksOf G (1 : Int32) v1 v2 _) wi_X5_asksOf win_X5_asksOf wse_X5_asksOf wml_RX5_176 ⟨Nat.le_of_ble_eq_true rfl, Nat.le_of_ble_eq_true rfl⟩ rfl (Nat.le_of_ble_eq_true rfl) dX5_gainsOf_4 (fun y4 t4 => ?_)
  refine J_istore_n [(3, .int y4), (0, .ref (gO G 50)), (1, .int v1), (2, .int v2)] Y dX5_gainsOf_7 rfl (by decide) rfl ?_
  refine J_aload_n Y 1 dX5_gainsOf_8 rfl rfl ?_
  refine J_iload_n Y 2 dX5_gainsOf_9 rfl rfl ?_
  refine J_iload_n Y 3 dX5_gainsOf_10 rfl rfl ?_
  refine M_cVi (As := [.int v1, .int v2]) (st := []) rfl X (c_X5_hasSand G v1 v2 _) wi_X5_hasSand win_X5_hasSand wse_X5_hasSand wml_RX5_179 ⟨Nat.le_of_ble_eq_true rfl, Nat.le_of_ble_eq_true rfl⟩ rfl (Nat.le_of_ble_eq_true rfl) dX5_gainsOf_11 (fun y11 t11 => ?_)
  refine J_istore [(4, .int y11), (3, .int y4), (0, .ref (gO G 50)), (1, .int v1), (2, .int v2)] Y dX5_gainsOf_14 (by decide) rfl ?_
  refine J_aload_n Y 2 dX5_gainsOf_16 rfl rfl ?_
  refine M_get 1 X (by decide) rfl wfl_RX5_7 rfl dX5_gainsOf_17 ?_
  refine J_iload_n Y 3 dX5_gainsOf_20 rfl rfl ?_
  refine M_ald X (mA_1 G _) dX5_gainsOf_21 (fun x21 => ?_)
  refine J_ite (fun c22_1 => ?_) (fun c22_1 => ?_)
  · refine J_tin (tgt := 52) (1 : Int32) c22_1 Y dX5_gainsOf_22 (by decide) (by decide) rfl (by decide) ?_
    refine J_iload Y 0 dX5_gainsOf_52 rfl ?_
    refine J_if_eq (tgt := 61) Y dX5_gainsOf_54 (by decide) ?_ ?_
    · refine J_iload_n Y 1 dX5_gainsOf_61 rfl rfl ?_
      refine J_aload_n Y 2 dX5_gainsOf_62 rfl rfl ?_
      refine M_get 2 X (by decide) rfl wfl_RX5_13 rfl dX5_gainsOf_63 ?_
      refine J_iload_n Y 3 dX5_gainsOf_66 rfl rfl ?_
      refine M_ald X (mA_2 G _) dX5_gainsOf_67 (fun x67 => ?_)
      refine J_iadd Y dX5_gainsOf_68 ?_
      refine J_sub [] rfl ?_
      exact j_X5_gainsOf_L69 X (y4 + x67) t11
    · refine J_iload_n Y 1 dX5_gainsOf_57 rfl rfl ?_
      refine J_goto (tgt := 69) Y dX5_gainsOf_58 (by decide) ?_
      refine J_sub [] rfl ?_
      exact j_X5_gainsOf_L69 X y4 t11
  refine J_ite (fun c22_2 => ?_) (fun c22_2 => ?_)
  · refine J_tin (tgt := 93) (2 : Int32) c22_2 Y dX5_gainsOf_22 (by decide) (by decide) rfl (by decide) ?_
    refine J_iload_n Y 1 dX5_gainsOf_93 rfl rfl ?_
    exact J_ireturn Y dX5_gainsOf_94
  refine J_ite (fun c22_3 => ?_) (fun c22_3 => ?_)
  · refine J_tin (tgt := 70) (3 : Int32) c22_3 Y dX5_gainsOf_22 (by decide) (by decide) rfl (by decide) ?_
    refine J_iload Y 0 dX5_gainsOf_70 rfl ?_
    refine J_if_eq (tgt := 79) Y dX5_gainsOf_72 (by decide) ?_ ?_
    · refine J_iconst (v := (2 : Int32)) Y dX5_gainsOf_79 (by decide) ?_
      refine J_iload_n Y 1 dX5_gainsOf_80 rfl rfl ?_
      refine J_aload_n Y 2 dX5_gainsOf_81 rfl rfl ?_
      refine M_get 2 X (by decide) rfl wfl_RX5_13 rfl dX5_gainsOf_82 ?_
      refine J_iload_n Y 3 dX5_gainsOf_85 rfl rfl ?_
      refine M_ald X (mA_2 G _) dX5_gainsOf_86 (fun x86 => ?_)
      refine J_iadd Y dX5_gainsOf_87 ?_
      refine J_imul Y dX5_gainsOf_88 ?_
      refine J_sub [] rfl ?_
      exact j_X5_gainsOf_L89 X ((2 : Int32) * (y4 + x86)) t11
    · refine J_iconst (v := (0 : Int32)) Y dX5_gainsOf_75 (by decide) ?_
      refine J_goto (tgt := 89) Y dX5_gainsOf_76 (by decide) ?_
      refine J_sub [] rfl ?_
      exact j_X5_gainsOf_L89 X (0 : Int32) t11
  refine J_ite (fun c22_4 => ?_) (fun c22_4 => ?_)
  · refine J_tin (tgt := 90) (4 : Int32) c22_4 Y dX5_gainsOf_22 (by decide) (by decide) rfl (by decide) ?_
    refine J_iload_n Y 1 dX5_gainsOf_90 rfl rfl ?_
    refine J_ineg Y dX5_gainsOf_91 ?_
    exact J_ireturn Y dX5_gainsOf_92
  have e22_1 := lv_neT c22_1 (show ((1 : Int32)).toInt = (1 : Int) by decide)
  have e22_2 := lv_neT c22_2 (show ((2 : Int32)).toInt = (2 : Int) by decide)
  have e22_3 := lv_neT c22_3 (show ((3 : Int32)).toInt = (3 : Int) by decide)
  have e22_4 := lv_neT c22_4 (show ((4 : Int32)).toInt = (4 : Int) by decide)
  refine J_tout (tgt := 93) Y dX5_gainsOf_22 (by omega) (by decide) ?_
  refine J_iload_n Y 1 dX5_gainsOf_93 rfl rfl ?_
  exact J_ireturn Y dX5_gainsOf_94
theorem c_X5_gainsOf (G : JG) (v1 : Int32) (v2 : Int32) (σ : ST) : Con (VM G) vI G.1 yX5_gainsOf cX5_gainsOf 5 (some .int) 3 120 [.ref (gO G 50), .int v1, .int v2] σ (f_X5_gainsOf v1 v2 σ) :=
  Con_of (VM_ok G) (by decide +kernel) (Nat.le_of_ble_eq_true rfl) (fun E e1 e2 _ X => j_X5_gainsOf ⟨X, e1, e2⟩ v1 v2 σ)
set_option maxRecDepth 100000 in
set_option maxHeartbeats 4000000 in
theorem j_X5_spillsOf_L56 {E : JE} {G : JG} (X : JM E 4 cX5_spillsOf RX5 (some .int) 3 120 G) (s0 : Int32) (σ : ST) : Jg E 4 (JF E vI) [] 56 [.int s0] σ (f_X5_spillsOf_L56 s0 σ) := by
  have Y := X.1
  unfold f_X5_spillsOf_L56
  exact J_ireturn Y dX5_spillsOf_56
set_option maxRecDepth 100000 in
set_option maxHeartbeats 4000000 in
theorem j_X5_spillsOf_L40 {E : JE} {G : JG} (X : JM E 4 cX5_spillsOf RX5 (some .int) 3 120 G) (v3 : Int32) (σ : ST) : Jg E 4 (JF E vI) [(0, .ref (gO G 50)), (3, .int v3)] 40 [] σ (f_X5_spillsOf_L40 v3 σ) := by
  have Y := X.1
  unfold f_X5_spillsOf_L40
  refine J_aload_n Y 0 dX5_spillsOf_40 rfl rfl ?_
  refine M_get 4 X (by decide) rfl wfl_RX5_86 rfl dX5_spillsOf_41 ?_
  refine J_iconst (v := (2 : Int32)) Y dX5_spillsOf_44 (by decide) ?_
  refine J_irem Y dX5_spillsOf_45 (by decide) ?_
  refine J_if_ne (tgt := 55) Y dX5_spillsOf_46 (by decide) ?_ ?_
  · refine J_iconst (v := (0 : Int32)) Y dX5_spillsOf_55 (by decide) ?_
    refine J_sub [] rfl ?_
    exact j_X5_spillsOf_L56 X (0 : Int32) σ
  · refine J_iload_n Y 1 dX5_spillsOf_49 rfl rfl ?_
    refine J_iconst (v := (1 : Int32)) Y dX5_spillsOf_50 (by decide) ?_
    refine J_iadd Y dX5_spillsOf_51 ?_
    refine J_goto (tgt := 56) Y dX5_spillsOf_52 (by decide) ?_
    refine J_sub [] rfl ?_
    exact j_X5_spillsOf_L56 X (v3 + (1 : Int32)) σ
set_option maxRecDepth 100000 in
set_option maxHeartbeats 4000000 in
theorem j_X5_spillsOf {E : JE} {G : JG} (X : JM E 4 cX5_spillsOf RX5 (some .int) 3 120 G) (v1 : Int32) (v2 : Int32) (σ : ST) : Jg E 4 (JF E vI) [(0, .ref (gO G 50)), (1, .int v1), (2, .int v2)] 0 [] σ (f_X5_spillsOf v1 v2 σ) := by
  have Y := X.1
  unfold f_X5_spillsOf
  refine J_aload_n Y 0 dX5_spillsOf_0 rfl rfl ?_
  refine M_get 1 X (by decide) rfl wfl_RX5_7 rfl dX5_spillsOf_1 ?_
  refine J_iload_n Y 1 dX5_spillsOf_4 rfl rfl ?_
  refine M_ald X (mA_1 G _) dX5_spillsOf_5 (fun x5 => ?_)
  refine J_iconst (v := (5 : Int32)) Y dX5_spillsOf_6 (by decide) ?_
  refine J_icmp_ne (tgt := 12) Y dX5_spillsOf_7 (by decide) ?_ ?_
  · refine J_aload_n Y 0 dX5_spillsOf_12 rfl rfl ?_
    refine J_iconst (v := (2 : Int32)) Y dX5_spillsOf_13 (by decide) ?_
    refine J_iload_n Y 1 dX5_spillsOf_14 rfl rfl ?_
    refine J_iload_n Y 2 dX5_spillsOf_15 rfl rfl ?_
    refine M_cVi (As := [.int (2 : Int32), .int v1, .int v2]) (st := []) rfl X (c_X5_asksOf G (2 : Int32) v1 v2 _) wi_X5_asksOf win_X5_asksOf wse_X5_asksOf wml_RX5_176 ⟨Nat.le_of_ble_eq_true rfl, Nat.le_of_ble_eq_true rfl⟩ rfl (Nat.le_of_ble_eq_true rfl) dX5_spillsOf_16 (fun y16 t16 => ?_)
    refine J_istore_n [(3, .int y16), (0, .ref (gO G 50)), (1, .int v1), (2, .int v2)] Y dX5_spillsOf_19 rfl (by decide) rfl ?_
    refine J_aload_n Y 1 dX5_spillsOf_20 rfl rfl ?_
    refine M_get 1 X (by decide) rfl wfl_RX5_7 rfl dX5_spillsOf_21 ?_
    refine J_iload_n Y 2 dX5_spillsOf_24 rfl rfl ?_
    refine M_ald X (mA_1 G _) dX5_spillsOf_25 (fun x25 => ?_)
    refine J_iconst (v := (2 : Int32)) Y dX5_spillsOf_26 (by decide) ?_
    refine J_icmp_eq (tgt := 40) Y dX5_spillsOf_27 (by decide) ?_ ?_
    · refine J_sub [1, 0] rfl ?_
      exact j_X5_spillsOf_L40 X y16 t16
    · refine J_aload_n Y 1 dX5_spillsOf_30 rfl rfl ?_
      refine M_get 1 X (by decide) rfl wfl_RX5_7 rfl dX5_spillsOf_31 ?_
      refine J_iload_n Y 2 dX5_spillsOf_34 rfl rfl ?_
      refine M_ald X (mA_1 G _) dX5_spillsOf_35 (fun x35 => ?_)
      refine J_iconst (v := (4 : Int32)) Y dX5_spillsOf_36 (by decide) ?_
      refine J_icmp_ne (tgt := 57) Y dX5_spillsOf_37 (by decide) ?_ ?_
      · refine J_iload_n Y 0 dX5_spillsOf_57 rfl rfl ?_
        exact J_ireturn Y dX5_spillsOf_58
      · refine J_sub [1, 0] rfl ?_
        exact j_X5_spillsOf_L40 X y16 t16
  · refine J_iconst (v := (0 : Int32)) Y dX5_spillsOf_10 (by decide) ?_
    exact J_ireturn Y dX5_spillsOf_11
theorem c_X5_spillsOf (G : JG) (v1 : Int32) (v2 : Int32) (σ : ST) : Con (VM G) vI G.1 yX5_spillsOf cX5_spillsOf 4 (some .int) 3 120 [.ref (gO G 50), .int v1, .int v2] σ (f_X5_spillsOf v1 v2 σ) :=
  Con_of (VM_ok G) (by decide +kernel) (Nat.le_of_ble_eq_true rfl) (fun E e1 e2 _ X => j_X5_spillsOf ⟨X, e1, e2⟩ v1 v2 σ)
set_option maxRecDepth 100000 in
set_option maxHeartbeats 4000000 in
theorem j_X5_pinches_L15 {E : JE} {G : JG} (X : JM E 4 cX5_pinches RX5 (some .int) 4 160 G) (σ : ST) : Jg E 4 (JF E vI) [] 15 [] σ (f_X5_pinches_L15 σ) := by
  have Y := X.1
  unfold f_X5_pinches_L15
  refine J_sipush (v := (-5000 : Int32)) Y dX5_pinches_15 (by decide) ?_
  exact J_ireturn Y dX5_pinches_18
set_option maxRecDepth 100000 in
set_option maxHeartbeats 4000000 in
theorem j_X5_pinches {E : JE} {G : JG} (X : JM E 4 cX5_pinches RX5 (some .int) 4 160 G) (v1 : Int32) (v2 : Int32) (v3 : Int32) (σ : ST) : Jg E 4 (JF E vI) [(0, .ref (gO G 50)), (1, .int v1), (2, .int v2), (3, .int v3)] 0 [] σ (f_X5_pinches v1 v2 v3 σ) := by
  have Y := X.1
  unfold f_X5_pinches
  refine J_aload_n Y 0 dX5_pinches_0 rfl rfl ?_
  refine J_iload_n Y 1 dX5_pinches_1 rfl rfl ?_
  refine M_cVi (As := [.int v1]) (st := []) rfl X (c_X5_isOne G v1 _) wi_X5_isOne win_X5_isOne wse_X5_isOne wml_RX5_170 ⟨Nat.le_of_ble_eq_true rfl, Nat.le_of_ble_eq_true rfl⟩ rfl (Nat.le_of_ble_eq_true rfl) dX5_pinches_2 (fun y2 t2 => ?_)
  refine J_if_eq (tgt := 15) Y dX5_pinches_5 (by decide) ?_ ?_
  · refine J_sub [] rfl ?_
    exact j_X5_pinches_L15 X  t2
  · refine J_iload_n Y 2 dX5_pinches_8 rfl rfl ?_
    refine M_cSi (As := [.int v2]) (st := []) rfl X (c_X5_isPlace G v2 _) wi_X5_isPlace wst_X5_isPlace wml_RX5_173 ⟨Nat.le_of_ble_eq_true rfl, Nat.le_of_ble_eq_true rfl⟩ rfl (Nat.le_of_ble_eq_true rfl) dX5_pinches_9 (fun y9 t9 => ?_)
    refine J_if_ne (tgt := 19) Y dX5_pinches_12 (by decide) ?_ ?_
    · refine J_iload_n Y 3 dX5_pinches_19 rfl rfl ?_
      refine J_ite (fun c20_0 => ?_) (fun c20_0 => ?_)
      · refine J_tin (tgt := 48) (0 : Int32) c20_0 Y dX5_pinches_20 (by decide) (by decide) rfl (by decide) ?_
        refine J_aload_n Y 0 dX5_pinches_48 rfl rfl ?_
        refine J_iload_n Y 1 dX5_pinches_49 rfl rfl ?_
        refine J_iload_n Y 2 dX5_pinches_50 rfl rfl ?_
        refine M_cVi (As := [.int v1, .int v2]) (st := []) rfl X (c_X5_goneOf G v1 v2 _) wi_X5_goneOf win_X5_goneOf wse_X5_goneOf wml_RX5_183 ⟨Nat.le_of_ble_eq_true rfl, Nat.le_of_ble_eq_true rfl⟩ rfl (Nat.le_of_ble_eq_true rfl) dX5_pinches_51 (fun y51 t51 => ?_)
        exact J_ireturn Y dX5_pinches_54
      refine J_ite (fun c20_1 => ?_) (fun c20_1 => ?_)
      · refine J_tin (tgt := 55) (1 : Int32) c20_1 Y dX5_pinches_20 (by decide) (by decide) rfl (by decide) ?_
        refine J_aload_n Y 0 dX5_pinches_55 rfl rfl ?_
        refine J_iload_n Y 1 dX5_pinches_56 rfl rfl ?_
        refine J_iload_n Y 2 dX5_pinches_57 rfl rfl ?_
        refine M_cVi (As := [.int v1, .int v2]) (st := []) rfl X (c_X5_gainsOf G v1 v2 _) wi_X5_gainsOf win_X5_gainsOf wse_X5_gainsOf wml_RX5_186 ⟨Nat.le_of_ble_eq_true rfl, Nat.le_of_ble_eq_true rfl⟩ rfl (Nat.le_of_ble_eq_true rfl) dX5_pinches_58 (fun y58 t58 => ?_)
        exact J_ireturn Y dX5_pinches_61
      refine J_ite (fun c20_2 => ?_) (fun c20_2 => ?_)
      · refine J_tin (tgt := 62) (2 : Int32) c20_2 Y dX5_pinches_20 (by decide) (by decide) rfl (by decide) ?_
        refine J_aload_n Y 0 dX5_pinches_62 rfl rfl ?_
        refine J_iload_n Y 1 dX5_pinches_63 rfl rfl ?_
        refine J_iload_n Y 2 dX5_pinches_64 rfl rfl ?_
        refine M_cVi (As := [.int v1, .int v2]) (st := []) rfl X (c_X5_spillsOf G v1 v2 _) wi_X5_spillsOf win_X5_spillsOf wse_X5_spillsOf wml_RX5_189 ⟨Nat.le_of_ble_eq_true rfl, Nat.le_of_ble_eq_true rfl⟩ rfl (Nat.le_of_ble_eq_true rfl) dX5_pinches_65 (fun y65 t65 => ?_)
        exact J_ireturn Y dX5_pinches_68
      have e20_0 := lv_neT c20_0 (show ((0 : Int32)).toInt = (0 : Int) by decide)
      have e20_1 := lv_neT c20_1 (show ((1 : Int32)).toInt = (1 : Int) by decide)
      have e20_2 := lv_neT c20_2 (show ((2 : Int32)).toInt = (2 : Int) by decide)
      refine J_tout (tgt := 69) Y dX5_pinches_20 (by omega) (by decide) ?_
      refine J_sipush (v := (-7000 : Int32)) Y dX5_pinches_69 (by decide) ?_
      exact J_ireturn Y dX5_pinches_72
    · refine J_sub [] rfl ?_
      exact j_X5_pinches_L15 X  t9
theorem c_X5_pinches (G : JG) (v1 : Int32) (v2 : Int32) (v3 : Int32) (σ : ST) : Con (VM G) vI G.1 yX5_pinches cX5_pinches 4 (some .int) 4 160 [.ref (gO G 50), .int v1, .int v2, .int v3] σ (f_X5_pinches v1 v2 v3 σ) :=
  Con_of (VM_ok G) (by decide +kernel) (Nat.le_of_ble_eq_true rfl) (fun E e1 e2 _ X => j_X5_pinches ⟨X, e1, e2⟩ v1 v2 v3 σ)
set_option maxRecDepth 100000 in
set_option maxHeartbeats 4000000 in
theorem j_X5_can_L27 {E : JE} {G : JG} (X : JM E 3 cX5_can RX5 (some .boolean) 1 40 G) (s0 : Int32) (σ : ST) : Jg E 3 (JF E vI) [] 27 [.int s0] σ (f_X5_can_L27 s0 σ) := by
  have Y := X.1
  unfold f_X5_can_L27
  exact J_zreturn Y dX5_can_27
set_option maxRecDepth 100000 in
set_option maxHeartbeats 4000000 in
theorem j_X5_can_L26 {E : JE} {G : JG} (X : JM E 3 cX5_can RX5 (some .boolean) 1 40 G) (σ : ST) : Jg E 3 (JF E vI) [] 26 [] σ (f_X5_can_L26 σ) := by
  have Y := X.1
  unfold f_X5_can_L26
  refine J_iconst (v := (0 : Int32)) Y dX5_can_26 (by decide) ?_
  exact j_X5_can_L27 X (0 : Int32) σ
set_option maxRecDepth 100000 in
set_option maxHeartbeats 4000000 in
theorem j_X5_can {E : JE} {G : JG} (X : JM E 3 cX5_can RX5 (some .boolean) 1 40 G) (v1 : Int32) (v2 : Int32) (σ : ST) : Jg E 3 (JF E vI) [(0, .ref (gO G 50)), (1, .int v1), (2, .int v2)] 0 [] σ (f_X5_can v1 v2 σ) := by
  have Y := X.1
  unfold f_X5_can
  refine J_aload_n Y 0 dX5_can_0 rfl rfl ?_
  refine J_iload_n Y 1 dX5_can_1 rfl rfl ?_
  refine M_cVi (As := [.int v1]) (st := []) rfl X (c_X5_isHere G v1 _) wi_X5_isHere win_X5_isHere wse_X5_isHere wml_RX5_82 ⟨Nat.le_of_ble_eq_true rfl, Nat.le_of_ble_eq_true rfl⟩ rfl (Nat.le_of_ble_eq_true rfl) dX5_can_2 (fun y2 t2 => ?_)
  refine J_if_eq (tgt := 26) Y dX5_can_5 (by decide) ?_ ?_
  · refine J_sub [] rfl ?_
    exact j_X5_can_L26 X  t2
  · refine J_aload_n Y 0 dX5_can_8 rfl rfl ?_
    refine M_get 3 X (by decide) rfl wfl_RX5_16 rfl dX5_can_9 ?_
    refine J_bipush (v := (12 : Int32)) Y dX5_can_12 (by decide) ?_
    refine J_iload_n Y 1 dX5_can_14 rfl rfl ?_
    refine J_imul Y dX5_can_15 ?_
    refine J_iload_n Y 2 dX5_can_16 rfl rfl ?_
    refine J_iadd Y dX5_can_17 ?_
    refine M_ald X (mA_3 G _) dX5_can_18 (fun x18 => ?_)
    refine J_if_le (tgt := 26) Y dX5_can_19 (by decide) ?_ ?_
    · refine J_sub [] rfl ?_
      exact j_X5_can_L26 X  t2
    · refine J_iconst (v := (1 : Int32)) Y dX5_can_22 (by decide) ?_
      refine J_goto (tgt := 27) Y dX5_can_23 (by decide) ?_
      refine J_sub [] rfl ?_
      exact j_X5_can_L27 X (1 : Int32) t2
theorem c_X5_can (G : JG) (v1 : Int32) (v2 : Int32) (σ : ST) : Con (VM G) vI G.1 yX5_can cX5_can 3 (some .boolean) 1 40 [.ref (gO G 50), .int v1, .int v2] σ (f_X5_can v1 v2 σ) :=
  Con_of (VM_ok G) (by decide +kernel) (Nat.le_of_ble_eq_true rfl) (fun E e1 e2 _ X => j_X5_can ⟨X, e1, e2⟩ v1 v2 σ)
set_option maxRecDepth 100000 in
set_option maxHeartbeats 4000000 in
theorem j_X5_pinchOf_L163 {E : JE} {G : JG} (X : JM E 9 cX5_pinchOf RX5 none 4 160 G) (v1 : Int32) (v2 : Int32) (v3 : Int32) (v4 : Int32) (σ : ST) : Jg E 9 (JF E vV) [(0, .ref (gO G 50)), (1, .int v1), (2, .int v2), (3, .int v3), (4, .int v4)] 163 [] σ (f_X5_pinchOf_L163 v1 v2 v3 v4 σ) := by
  have Y := X.1
  unfold f_X5_pinchOf_L163
  refine J_aload_n Y 0 dX5_pinchOf_163 rfl rfl ?_
  refine M_get 3 X (by decide) rfl wfl_RX5_16 rfl dX5_pinchOf_164 ?_
  refine J_bipush (v := (12 : Int32)) Y dX5_pinchOf_167 (by decide) ?_
  refine J_iload_n Y 1 dX5_pinchOf_169 rfl rfl ?_
  refine J_imul Y dX5_pinchOf_170 ?_
  refine J_bipush (v := (8 : Int32)) Y dX5_pinchOf_171 (by decide) ?_
  refine J_iadd Y dX5_pinchOf_173 ?_
  refine J_aload_n Y 0 dX5_pinchOf_174 rfl rfl ?_
  refine M_get 3 X (by decide) rfl wfl_RX5_16 rfl dX5_pinchOf_175 ?_
  refine J_bipush (v := (12 : Int32)) Y dX5_pinchOf_178 (by decide) ?_
  refine J_iload_n Y 1 dX5_pinchOf_180 rfl rfl ?_
  refine J_imul Y dX5_pinchOf_181 ?_
  refine J_bipush (v := (8 : Int32)) Y dX5_pinchOf_182 (by decide) ?_
  refine J_iadd Y dX5_pinchOf_184 ?_
  refine M_ald X (mA_3 G _) dX5_pinchOf_185 (fun x185 => ?_)
  refine J_iload Y 4 dX5_pinchOf_186 rfl ?_
  refine J_iadd Y dX5_pinchOf_188 ?_
  refine J_iconst (v := (0 : Int32)) Y dX5_pinchOf_189 (by decide) ?_
  refine J_bipush (v := (99 : Int32)) Y dX5_pinchOf_190 (by decide) ?_
  refine M_cSi (As := [.int (x185 + v4), .int (0 : Int32), .int (99 : Int32)]) (st := [.int (((12 : Int32) * v1) + (8 : Int32)), .ref (gA G 50 3)]) rfl X (c_X5_within G (x185 + v4) (0 : Int32) (99 : Int32) _) wi_X5_within wst_X5_within wml_RX5_167 ⟨Nat.le_of_ble_eq_true rfl, Nat.le_of_ble_eq_true rfl⟩ rfl (Nat.le_of_ble_eq_true rfl) dX5_pinchOf_192 (fun y192 t192 => ?_)
  refine M_ast X (mA_3 G _) (mS_3 G _) dX5_pinchOf_195 (fun t195 => ?_)
  refine J_aload_n Y 0 dX5_pinchOf_196 rfl rfl ?_
  refine M_get 3 X (by decide) rfl wfl_RX5_16 rfl dX5_pinchOf_197 ?_
  refine J_bipush (v := (12 : Int32)) Y dX5_pinchOf_200 (by decide) ?_
  refine J_iload_n Y 1 dX5_pinchOf_202 rfl rfl ?_
  refine J_imul Y dX5_pinchOf_203 ?_
  refine J_bipush (v := (9 : Int32)) Y dX5_pinchOf_204 (by decide) ?_
  refine J_iadd Y dX5_pinchOf_206 ?_
  refine J_dup2 Y dX5_pinchOf_207 rfl rfl ?_
  refine M_ald X (mA_3 G _) dX5_pinchOf_208 (fun x208 => ?_)
  refine J_iconst (v := (1 : Int32)) Y dX5_pinchOf_209 (by decide) ?_
  refine J_iload_n Y 2 dX5_pinchOf_210 rfl rfl ?_
  refine J_ishl Y dX5_pinchOf_211 ?_
  refine J_ior Y dX5_pinchOf_212 ?_
  refine M_ast X (mA_3 G _) (mS_3 G _) dX5_pinchOf_213 (fun t213 => ?_)
  refine J_aload_n Y 0 dX5_pinchOf_214 rfl rfl ?_
  refine M_get 3 X (by decide) rfl wfl_RX5_16 rfl dX5_pinchOf_215 ?_
  refine J_bipush (v := (12 : Int32)) Y dX5_pinchOf_218 (by decide) ?_
  refine J_iload_n Y 1 dX5_pinchOf_220 rfl rfl ?_
  refine J_imul Y dX5_pinchOf_221 ?_
  refine J_bipush (v := (10 : Int32)) Y dX5_pinchOf_222 (by decide) ?_
  refine J_iadd Y dX5_pinchOf_224 ?_
  refine J_iload_n Y 2 dX5_pinchOf_225 rfl rfl ?_
  refine M_ast X (mA_3 G _) (mS_3 G _) dX5_pinchOf_226 (fun t226 => ?_)
  refine J_aload_n Y 0 dX5_pinchOf_227 rfl rfl ?_
  refine M_get 3 X (by decide) rfl wfl_RX5_16 rfl dX5_pinchOf_228 ?_
  refine J_bipush (v := (12 : Int32)) Y dX5_pinchOf_231 (by decide) ?_
  refine J_iload_n Y 1 dX5_pinchOf_233 rfl rfl ?_
  refine J_imul Y dX5_pinchOf_234 ?_
  refine J_bipush (v := (11 : Int32)) Y dX5_pinchOf_235 (by decide) ?_
  refine J_iadd Y dX5_pinchOf_237 ?_
  refine J_iload_n Y 3 dX5_pinchOf_238 rfl rfl ?_
  refine M_ast X (mA_3 G _) (mS_3 G _) dX5_pinchOf_239 (fun t239 => ?_)
  exact J_return Y dX5_pinchOf_240
set_option maxRecDepth 100000 in
set_option maxHeartbeats 4000000 in
theorem j_X5_pinchOf_L128 {E : JE} {G : JG} (X : JM E 9 cX5_pinchOf RX5 none 4 160 G) (v1 : Int32) (v2 : Int32) (v3 : Int32) (v4 : Int32) (v6 : Int32) (s0 : Int32) (σ : ST) : Jg E 9 (JF E vV) [(0, .ref (gO G 50)), (1, .int v1), (2, .int v2), (3, .int v3), (4, .int v4), (6, .int v6)] 128 [.int s0] σ (f_X5_pinchOf_L128 v1 v2 v3 v4 v6 s0 σ) := by
  have Y := X.1
  unfold f_X5_pinchOf_L128
  refine J_istore [(7, .int s0), (0, .ref (gO G 50)), (1, .int v1), (2, .int v2), (3, .int v3), (4, .int v4), (6, .int v6)] Y dX5_pinchOf_128 (by decide) rfl ?_
  refine J_aload_n Y 1 dX5_pinchOf_130 rfl rfl ?_
  refine M_get 3 X (by decide) rfl wfl_RX5_16 rfl dX5_pinchOf_131 ?_
  refine J_bipush (v := (12 : Int32)) Y dX5_pinchOf_134 (by decide) ?_
  refine J_iload_n Y 2 dX5_pinchOf_136 rfl rfl ?_
  refine J_imul Y dX5_pinchOf_137 ?_
  refine J_iload_n Y 3 dX5_pinchOf_138 rfl rfl ?_
  refine J_iadd Y dX5_pinchOf_139 ?_
  refine J_dup2 Y dX5_pinchOf_140 rfl rfl ?_
  refine M_ald X (mA_3 G _) dX5_pinchOf_141 (fun x141 => ?_)
  refine J_iload Y 0 dX5_pinchOf_142 rfl ?_
  refine J_isub Y dX5_pinchOf_144 ?_
  refine M_ast X (mA_3 G _) (mS_3 G _) dX5_pinchOf_145 (fun t145 => ?_)
  refine J_aload_n Y 1 dX5_pinchOf_146 rfl rfl ?_
  refine M_get 3 X (by decide) rfl wfl_RX5_16 rfl dX5_pinchOf_147 ?_
  refine J_bipush (v := (12 : Int32)) Y dX5_pinchOf_150 (by decide) ?_
  refine J_iload Y 6 dX5_pinchOf_152 rfl ?_
  refine J_imul Y dX5_pinchOf_154 ?_
  refine J_iload_n Y 3 dX5_pinchOf_155 rfl rfl ?_
  refine J_iadd Y dX5_pinchOf_156 ?_
  refine J_dup2 Y dX5_pinchOf_157 rfl rfl ?_
  refine M_ald X (mA_3 G _) dX5_pinchOf_158 (fun x158 => ?_)
  refine J_iload Y 0 dX5_pinchOf_159 rfl ?_
  refine J_iadd Y dX5_pinchOf_161 ?_
  refine M_ast X (mA_3 G _) (mS_3 G _) dX5_pinchOf_162 (fun t162 => ?_)
  refine J_sub [1, 2, 3, 4, 5] rfl ?_
  exact j_X5_pinchOf_L163 X v1 v2 v3 v4 t162
set_option maxRecDepth 100000 in
set_option maxHeartbeats 4000000 in
theorem j_X5_pinchOf_L95 {E : JE} {G : JG} (X : JM E 9 cX5_pinchOf RX5 none 4 160 G) (v1 : Int32) (v2 : Int32) (v3 : Int32) (v4 : Int32) (v6 : Int32) (s0 : Int32) (σ : ST) : Jg E 9 (JF E vV) [(0, .ref (gO G 50)), (1, .int v1), (2, .int v2), (3, .int v3), (4, .int v4), (6, .int v6)] 95 [.int s0] σ (f_X5_pinchOf_L95 v1 v2 v3 v4 v6 s0 σ) := by
  have Y := X.1
  unfold f_X5_pinchOf_L95
  refine J_istore [(7, .int s0), (0, .ref (gO G 50)), (1, .int v1), (2, .int v2), (3, .int v3), (4, .int v4), (6, .int v6)] Y dX5_pinchOf_95 (by decide) rfl ?_
  refine J_bipush (v := (9 : Int32)) Y dX5_pinchOf_97 (by decide) ?_
  refine J_aload_n Y 1 dX5_pinchOf_99 rfl rfl ?_
  refine M_get 3 X (by decide) rfl wfl_RX5_16 rfl dX5_pinchOf_100 ?_
  refine J_bipush (v := (12 : Int32)) Y dX5_pinchOf_103 (by decide) ?_
  refine J_iload Y 6 dX5_pinchOf_105 rfl ?_
  refine J_imul Y dX5_pinchOf_107 ?_
  refine J_iload_n Y 3 dX5_pinchOf_108 rfl rfl ?_
  refine J_iadd Y dX5_pinchOf_109 ?_
  refine M_ald X (mA_3 G _) dX5_pinchOf_110 (fun x110 => ?_)
  refine J_isub Y dX5_pinchOf_111 ?_
  refine J_istore [(8, .int ((9 : Int32) - x110)), (7, .int s0), (0, .ref (gO G 50)), (1, .int v1), (2, .int v2), (3, .int v3), (4, .int v4), (6, .int v6)] Y dX5_pinchOf_112 (by decide) rfl ?_
  refine J_iload Y 0 dX5_pinchOf_114 rfl ?_
  refine J_iload Y 1 dX5_pinchOf_116 rfl ?_
  refine J_icmp_ge (tgt := 126) Y dX5_pinchOf_118 (by decide) ?_ ?_
  · refine J_iload Y 1 dX5_pinchOf_126 rfl ?_
    refine J_sub [2, 3, 4, 5, 6, 7] rfl ?_
    exact j_X5_pinchOf_L128 X v1 v2 v3 v4 v6 s0 σ
  · refine J_iload Y 0 dX5_pinchOf_121 rfl ?_
    refine J_goto (tgt := 128) Y dX5_pinchOf_123 (by decide) ?_
    refine J_sub [2, 3, 4, 5, 6, 7] rfl ?_
    exact j_X5_pinchOf_L128 X v1 v2 v3 v4 v6 ((9 : Int32) - x110) σ
set_option maxRecDepth 100000 in
set_option maxHeartbeats 4000000 in
theorem j_X5_pinchOf_L55 {E : JE} {G : JG} (X : JM E 9 cX5_pinchOf RX5 none 4 160 G) (v1 : Int32) (v2 : Int32) (v3 : Int32) (v4 : Int32) (v5 : Int32) (s0 : Int32) (σ : ST) : Jg E 9 (JF E vV) [(0, .ref (gO G 50)), (1, .int v1), (2, .int v2), (3, .int v3), (4, .int v4), (5, .int v5)] 55 [.int s0] σ (f_X5_pinchOf_L55 v1 v2 v3 v4 v5 s0 σ) := by
  have Y := X.1
  unfold f_X5_pinchOf_L55
  refine J_istore [(6, .int s0), (0, .ref (gO G 50)), (1, .int v1), (2, .int v2), (3, .int v3), (4, .int v4), (5, .int v5)] Y dX5_pinchOf_55 (by decide) rfl ?_
  refine J_iload Y 0 dX5_pinchOf_57 rfl ?_
  refine J_iload_n Y 2 dX5_pinchOf_59 rfl rfl ?_
  refine J_icmp_eq (tgt := 163) Y dX5_pinchOf_60 (by decide) ?_ ?_
  · refine J_sub [1, 2, 3, 4, 5] rfl ?_
    exact j_X5_pinchOf_L163 X v1 v2 v3 v4 σ
  · refine J_iload Y 6 dX5_pinchOf_63 rfl ?_
    refine J_aload_n Y 1 dX5_pinchOf_65 rfl rfl ?_
    refine M_get 3 X (by decide) rfl wfl_RX5_16 rfl dX5_pinchOf_66 ?_
    refine J_bipush (v := (12 : Int32)) Y dX5_pinchOf_69 (by decide) ?_
    refine J_iload_n Y 2 dX5_pinchOf_71 rfl rfl ?_
    refine J_imul Y dX5_pinchOf_72 ?_
    refine J_iload_n Y 3 dX5_pinchOf_73 rfl rfl ?_
    refine J_iadd Y dX5_pinchOf_74 ?_
    refine M_ald X (mA_3 G _) dX5_pinchOf_75 (fun x75 => ?_)
    refine J_icmp_ge (tgt := 84) Y dX5_pinchOf_76 (by decide) ?_ ?_
    · refine J_aload_n Y 1 dX5_pinchOf_84 rfl rfl ?_
      refine M_get 3 X (by decide) rfl wfl_RX5_16 rfl dX5_pinchOf_85 ?_
      refine J_bipush (v := (12 : Int32)) Y dX5_pinchOf_88 (by decide) ?_
      refine J_iload_n Y 2 dX5_pinchOf_90 rfl rfl ?_
      refine J_imul Y dX5_pinchOf_91 ?_
      refine J_iload_n Y 3 dX5_pinchOf_92 rfl rfl ?_
      refine J_iadd Y dX5_pinchOf_93 ?_
      refine M_ald X (mA_3 G _) dX5_pinchOf_94 (fun x94 => ?_)
      refine J_sub [1, 2, 3, 4, 5, 0] rfl ?_
      exact j_X5_pinchOf_L95 X v1 v2 v3 v4 s0 x94 σ
    · refine J_iload Y 6 dX5_pinchOf_79 rfl ?_
      refine J_goto (tgt := 95) Y dX5_pinchOf_81 (by decide) ?_
      refine J_sub [1, 2, 3, 4, 5, 0] rfl ?_
      exact j_X5_pinchOf_L95 X v1 v2 v3 v4 s0 v5 σ
set_option maxRecDepth 100000 in
set_option maxHeartbeats 4000000 in
theorem j_X5_pinchOf {E : JE} {G : JG} (X : JM E 9 cX5_pinchOf RX5 none 4 160 G) (v1 : Int32) (v2 : Int32) (σ : ST) : Jg E 9 (JF E vV) [(0, .ref (gO G 50)), (1, .int v1), (2, .int v2)] 0 [] σ (f_X5_pinchOf v1 v2 σ) := by
  have Y := X.1
  unfold f_X5_pinchOf
  refine J_aload_n Y 0 dX5_pinchOf_0 rfl rfl ?_
  refine J_iload_n Y 1 dX5_pinchOf_1 rfl rfl ?_
  refine J_iload_n Y 2 dX5_pinchOf_2 rfl rfl ?_
  refine M_cVi (As := [.int v1, .int v2]) (st := []) rfl X (c_X5_goneOf G v1 v2 _) wi_X5_goneOf win_X5_goneOf wse_X5_goneOf wml_RX5_183 ⟨Nat.le_of_ble_eq_true rfl, Nat.le_of_ble_eq_true rfl⟩ rfl (Nat.le_of_ble_eq_true rfl) dX5_pinchOf_3 (fun y3 t3 => ?_)
  refine J_istore_n [(3, .int y3), (0, .ref (gO G 50)), (1, .int v1), (2, .int v2)] Y dX5_pinchOf_6 rfl (by decide) rfl ?_
  refine J_aload_n Y 1 dX5_pinchOf_7 rfl rfl ?_
  refine J_iload_n Y 2 dX5_pinchOf_8 rfl rfl ?_
  refine J_iload_n Y 3 dX5_pinchOf_9 rfl rfl ?_
  refine M_cVi (As := [.int v1, .int v2]) (st := []) rfl X (c_X5_gainsOf G v1 v2 _) wi_X5_gainsOf win_X5_gainsOf wse_X5_gainsOf wml_RX5_186 ⟨Nat.le_of_ble_eq_true rfl, Nat.le_of_ble_eq_true rfl⟩ rfl (Nat.le_of_ble_eq_true rfl) dX5_pinchOf_10 (fun y10 t10 => ?_)
  refine J_istore [(4, .int y10), (3, .int y3), (0, .ref (gO G 50)), (1, .int v1), (2, .int v2)] Y dX5_pinchOf_13 (by decide) rfl ?_
  refine J_aload_n Y 2 dX5_pinchOf_15 rfl rfl ?_
  refine J_iload_n Y 3 dX5_pinchOf_16 rfl rfl ?_
  refine J_iload_n Y 4 dX5_pinchOf_17 rfl rfl ?_
  refine M_cVi (As := [.int v1, .int v2]) (st := []) rfl X (c_X5_spillsOf G v1 v2 _) wi_X5_spillsOf win_X5_spillsOf wse_X5_spillsOf wml_RX5_189 ⟨Nat.le_of_ble_eq_true rfl, Nat.le_of_ble_eq_true rfl⟩ rfl (Nat.le_of_ble_eq_true rfl) dX5_pinchOf_18 (fun y18 t18 => ?_)
  refine J_istore [(5, .int y18), (4, .int y10), (3, .int y3), (0, .ref (gO G 50)), (1, .int v1), (2, .int v2)] Y dX5_pinchOf_21 (by decide) rfl ?_
  refine J_aload_n Y 3 dX5_pinchOf_23 rfl rfl ?_
  refine M_get 3 X (by decide) rfl wfl_RX5_16 rfl dX5_pinchOf_24 ?_
  refine J_bipush (v := (12 : Int32)) Y dX5_pinchOf_27 (by decide) ?_
  refine J_iload_n Y 4 dX5_pinchOf_29 rfl rfl ?_
  refine J_imul Y dX5_pinchOf_30 ?_
  refine J_iload_n Y 5 dX5_pinchOf_31 rfl rfl ?_
  refine J_iadd Y dX5_pinchOf_32 ?_
  refine J_dup2 Y dX5_pinchOf_33 rfl rfl ?_
  refine M_ald X (mA_3 G _) dX5_pinchOf_34 (fun x34 => ?_)
  refine J_iconst (v := (1 : Int32)) Y dX5_pinchOf_35 (by decide) ?_
  refine J_isub Y dX5_pinchOf_36 ?_
  refine M_ast X (mA_3 G _) (mS_3 G _) dX5_pinchOf_37 (fun t37 => ?_)
  refine J_iload_n Y 4 dX5_pinchOf_38 rfl rfl ?_
  refine J_iconst (v := (1 : Int32)) Y dX5_pinchOf_39 (by decide) ?_
  refine J_iadd Y dX5_pinchOf_40 ?_
  refine J_aload_n Y 3 dX5_pinchOf_41 rfl rfl ?_
  refine M_get 0 X (by decide) rfl wfl_RX5_75 rfl dX5_pinchOf_42 ?_
  refine J_icmp_ne (tgt := 52) Y dX5_pinchOf_45 (by decide) ?_ ?_
  · refine J_iload_n Y 4 dX5_pinchOf_52 rfl rfl ?_
    refine J_iconst (v := (1 : Int32)) Y dX5_pinchOf_53 (by decide) ?_
    refine J_iadd Y dX5_pinchOf_54 ?_
    refine J_sub [3, 4, 5, 2, 1, 0] rfl ?_
    exact j_X5_pinchOf_L55 X v1 v2 y3 y10 y18 (v1 + (1 : Int32)) t37
  · refine J_iconst (v := (0 : Int32)) Y dX5_pinchOf_48 (by decide) ?_
    refine J_goto (tgt := 55) Y dX5_pinchOf_49 (by decide) ?_
    refine J_sub [3, 4, 5, 2, 1, 0] rfl ?_
    exact j_X5_pinchOf_L55 X v1 v2 y3 y10 y18 (0 : Int32) t37
theorem c_X5_pinchOf (G : JG) (v1 : Int32) (v2 : Int32) (σ : ST) : Con (VM G) vV G.1 yX5_pinchOf cX5_pinchOf 9 none 4 160 [.ref (gO G 50), .int v1, .int v2] σ (f_X5_pinchOf v1 v2 σ) :=
  Con_of (VM_ok G) (by decide +kernel) (Nat.le_of_ble_eq_true rfl) (fun E e1 e2 _ X => j_X5_pinchOf ⟨X, e1, e2⟩ v1 v2 σ)
set_option maxRecDepth 100000 in
set_option maxHeartbeats 4000000 in
theorem j_X5_pinch {E : JE} {G : JG} (X : JM E 3 cX5_pinch RX5 (some .int) 5 200 G) (v1 : Int32) (v2 : Int32) (σ : ST) : Jg E 3 (JF E vI) [(0, .ref (gO G 50)), (1, .int v1), (2, .int v2)] 0 [] σ (f_X5_pinch v1 v2 σ) := by
  have Y := X.1
  unfold f_X5_pinch
  refine J_aload_n Y 0 dX5_pinch_0 rfl rfl ?_
  refine J_iload_n Y 1 dX5_pinch_1 rfl rfl ?_
  refine M_cVi (As := [.int v1]) (st := []) rfl X (c_X5_isOne G v1 _) wi_X5_isOne win_X5_isOne wse_X5_isOne wml_RX5_170 ⟨Nat.le_of_ble_eq_true rfl, Nat.le_of_ble_eq_true rfl⟩ rfl (Nat.le_of_ble_eq_true rfl) dX5_pinch_2 (fun y2 t2 => ?_)
  refine J_if_ne (tgt := 11) Y dX5_pinch_5 (by decide) ?_ ?_
  · refine J_iload_n Y 2 dX5_pinch_11 rfl rfl ?_
    refine M_cSi (As := [.int v2]) (st := []) rfl X (c_X5_isPlace G v2 _) wi_X5_isPlace wst_X5_isPlace wml_RX5_173 ⟨Nat.le_of_ble_eq_true rfl, Nat.le_of_ble_eq_true rfl⟩ rfl (Nat.le_of_ble_eq_true rfl) dX5_pinch_12 (fun y12 t12 => ?_)
    refine J_if_ne (tgt := 21) Y dX5_pinch_15 (by decide) ?_ ?_
    · refine J_aload_n Y 0 dX5_pinch_21 rfl rfl ?_
      refine J_iload_n Y 1 dX5_pinch_22 rfl rfl ?_
      refine J_iload_n Y 2 dX5_pinch_23 rfl rfl ?_
      refine M_cVi (As := [.int v1, .int v2]) (st := []) rfl X (c_X5_can G v1 v2 _) wi_X5_can win_X5_can wse_X5_can wml_RX5_192 ⟨Nat.le_of_ble_eq_true rfl, Nat.le_of_ble_eq_true rfl⟩ rfl (Nat.le_of_ble_eq_true rfl) dX5_pinch_24 (fun y24 t24 => ?_)
      refine J_if_ne (tgt := 33) Y dX5_pinch_27 (by decide) ?_ ?_
      · refine J_aload_n Y 0 dX5_pinch_33 rfl rfl ?_
        refine J_iload_n Y 1 dX5_pinch_34 rfl rfl ?_
        refine J_iload_n Y 2 dX5_pinch_35 rfl rfl ?_
        refine M_cVv (As := [.int v1, .int v2]) (st := []) rfl X (c_X5_pinchOf G v1 v2 _) wi_X5_pinchOf win_X5_pinchOf wse_X5_pinchOf wml_RX5_195 ⟨Nat.le_of_ble_eq_true rfl, Nat.le_of_ble_eq_true rfl⟩ rfl (Nat.le_of_ble_eq_true rfl) dX5_pinch_36 (fun t36 => ?_)
        refine J_aload_n Y 0 dX5_pinch_39 rfl rfl ?_
        refine M_get 3 X (by decide) rfl wfl_RX5_16 rfl dX5_pinch_40 ?_
        refine J_bipush (v := (12 : Int32)) Y dX5_pinch_43 (by decide) ?_
        refine J_iload_n Y 1 dX5_pinch_45 rfl rfl ?_
        refine J_imul Y dX5_pinch_46 ?_
        refine J_bipush (v := (11 : Int32)) Y dX5_pinch_47 (by decide) ?_
        refine J_iadd Y dX5_pinch_49 ?_
        refine M_ald X (mA_3 G _) dX5_pinch_50 (fun x50 => ?_)
        exact J_ireturn Y dX5_pinch_51
      · refine J_bipush (v := (-3 : Int32)) Y dX5_pinch_30 (by decide) ?_
        exact J_ireturn Y dX5_pinch_32
    · refine J_bipush (v := (-6 : Int32)) Y dX5_pinch_18 (by decide) ?_
      exact J_ireturn Y dX5_pinch_20
  · refine J_bipush (v := (-5 : Int32)) Y dX5_pinch_8 (by decide) ?_
    exact J_ireturn Y dX5_pinch_10
theorem c_X5_pinch (G : JG) (v1 : Int32) (v2 : Int32) (σ : ST) : Con (VM G) vI G.1 yX5_pinch cX5_pinch 3 (some .int) 5 200 [.ref (gO G 50), .int v1, .int v2] σ (f_X5_pinch v1 v2 σ) :=
  Con_of (VM_ok G) (by decide +kernel) (Nat.le_of_ble_eq_true rfl) (fun E e1 e2 _ X => j_X5_pinch ⟨X, e1, e2⟩ v1 v2 σ)
set_option maxRecDepth 100000 in
set_option maxHeartbeats 4000000 in
theorem j_X5_give_L21 {E : JE} {G : JG} (X : JM E 4 cX5_give RX5 (some .int) 2 80 G) (σ : ST) : Jg E 4 (JF E vI) [] 21 [] σ (f_X5_give_L21 σ) := by
  have Y := X.1
  unfold f_X5_give_L21
  refine J_bipush (v := (-5 : Int32)) Y dX5_give_21 (by decide) ?_
  exact J_ireturn Y dX5_give_23
set_option maxRecDepth 100000 in
set_option maxHeartbeats 4000000 in
theorem j_X5_give_L64 {E : JE} {G : JG} (X : JM E 4 cX5_give RX5 (some .int) 2 80 G) (σ : ST) : Jg E 4 (JF E vI) [] 64 [] σ (f_X5_give_L64 σ) := by
  have Y := X.1
  unfold f_X5_give_L64
  refine J_bipush (v := (-3 : Int32)) Y dX5_give_64 (by decide) ?_
  exact J_ireturn Y dX5_give_66
set_option maxRecDepth 100000 in
set_option maxHeartbeats 4000000 in
theorem j_X5_give {E : JE} {G : JG} (X : JM E 4 cX5_give RX5 (some .int) 2 80 G) (v1 : Int32) (v2 : Int32) (v3 : Int32) (σ : ST) : Jg E 4 (JF E vI) [(0, .ref (gO G 50)), (1, .int v1), (2, .int v2), (3, .int v3)] 0 [] σ (f_X5_give v1 v2 v3 σ) := by
  have Y := X.1
  unfold f_X5_give
  refine J_aload_n Y 0 dX5_give_0 rfl rfl ?_
  refine J_iload_n Y 1 dX5_give_1 rfl rfl ?_
  refine M_cVi (As := [.int v1]) (st := []) rfl X (c_X5_isOne G v1 _) wi_X5_isOne win_X5_isOne wse_X5_isOne wml_RX5_170 ⟨Nat.le_of_ble_eq_true rfl, Nat.le_of_ble_eq_true rfl⟩ rfl (Nat.le_of_ble_eq_true rfl) dX5_give_2 (fun y2 t2 => ?_)
  refine J_if_eq (tgt := 21) Y dX5_give_5 (by decide) ?_ ?_
  · refine J_sub [] rfl ?_
    exact j_X5_give_L21 X  t2
  · refine J_aload_n Y 0 dX5_give_8 rfl rfl ?_
    refine J_iload_n Y 2 dX5_give_9 rfl rfl ?_
    refine M_cVi (As := [.int v2]) (st := []) rfl X (c_X5_isOne G v2 _) wi_X5_isOne win_X5_isOne wse_X5_isOne wml_RX5_170 ⟨Nat.le_of_ble_eq_true rfl, Nat.le_of_ble_eq_true rfl⟩ rfl (Nat.le_of_ble_eq_true rfl) dX5_give_10 (fun y10 t10 => ?_)
    refine J_if_eq (tgt := 21) Y dX5_give_13 (by decide) ?_ ?_
    · refine J_sub [] rfl ?_
      exact j_X5_give_L21 X  t10
    · refine J_iload_n Y 1 dX5_give_16 rfl rfl ?_
      refine J_iload_n Y 2 dX5_give_17 rfl rfl ?_
      refine J_icmp_ne (tgt := 24) Y dX5_give_18 (by decide) ?_ ?_
      · refine J_iload_n Y 3 dX5_give_24 rfl rfl ?_
        refine M_cSi (As := [.int v3]) (st := []) rfl X (c_X5_isPlace G v3 _) wi_X5_isPlace wst_X5_isPlace wml_RX5_173 ⟨Nat.le_of_ble_eq_true rfl, Nat.le_of_ble_eq_true rfl⟩ rfl (Nat.le_of_ble_eq_true rfl) dX5_give_25 (fun y25 t25 => ?_)
        refine J_if_ne (tgt := 34) Y dX5_give_28 (by decide) ?_ ?_
        · refine J_aload_n Y 0 dX5_give_34 rfl rfl ?_
          refine M_get 3 X (by decide) rfl wfl_RX5_16 rfl dX5_give_35 ?_
          refine J_bipush (v := (12 : Int32)) Y dX5_give_38 (by decide) ?_
          refine J_iload_n Y 1 dX5_give_40 rfl rfl ?_
          refine J_imul Y dX5_give_41 ?_
          refine J_iload_n Y 3 dX5_give_42 rfl rfl ?_
          refine J_iadd Y dX5_give_43 ?_
          refine M_ald X (mA_3 G _) dX5_give_44 (fun x44 => ?_)
          refine J_if_eq (tgt := 64) Y dX5_give_45 (by decide) ?_ ?_
          · refine J_sub [] rfl ?_
            exact j_X5_give_L64 X  t25
          · refine J_aload_n Y 0 dX5_give_48 rfl rfl ?_
            refine M_get 3 X (by decide) rfl wfl_RX5_16 rfl dX5_give_49 ?_
            refine J_bipush (v := (12 : Int32)) Y dX5_give_52 (by decide) ?_
            refine J_iload_n Y 2 dX5_give_54 rfl rfl ?_
            refine J_imul Y dX5_give_55 ?_
            refine J_iload_n Y 3 dX5_give_56 rfl rfl ?_
            refine J_iadd Y dX5_give_57 ?_
            refine M_ald X (mA_3 G _) dX5_give_58 (fun x58 => ?_)
            refine J_bipush (v := (9 : Int32)) Y dX5_give_59 (by decide) ?_
            refine J_icmp_ne (tgt := 67) Y dX5_give_61 (by decide) ?_ ?_
            · refine J_aload_n Y 0 dX5_give_67 rfl rfl ?_
              refine M_get 3 X (by decide) rfl wfl_RX5_16 rfl dX5_give_68 ?_
              refine J_bipush (v := (12 : Int32)) Y dX5_give_71 (by decide) ?_
              refine J_iload_n Y 1 dX5_give_73 rfl rfl ?_
              refine J_imul Y dX5_give_74 ?_
              refine J_iload_n Y 3 dX5_give_75 rfl rfl ?_
              refine J_iadd Y dX5_give_76 ?_
              refine J_dup2 Y dX5_give_77 rfl rfl ?_
              refine M_ald X (mA_3 G _) dX5_give_78 (fun x78 => ?_)
              refine J_iconst (v := (1 : Int32)) Y dX5_give_79 (by decide) ?_
              refine J_isub Y dX5_give_80 ?_
              refine M_ast X (mA_3 G _) (mS_3 G _) dX5_give_81 (fun t81 => ?_)
              refine J_aload_n Y 0 dX5_give_82 rfl rfl ?_
              refine M_get 3 X (by decide) rfl wfl_RX5_16 rfl dX5_give_83 ?_
              refine J_bipush (v := (12 : Int32)) Y dX5_give_86 (by decide) ?_
              refine J_iload_n Y 2 dX5_give_88 rfl rfl ?_
              refine J_imul Y dX5_give_89 ?_
              refine J_iload_n Y 3 dX5_give_90 rfl rfl ?_
              refine J_iadd Y dX5_give_91 ?_
              refine J_dup2 Y dX5_give_92 rfl rfl ?_
              refine M_ald X (mA_3 G _) dX5_give_93 (fun x93 => ?_)
              refine J_iconst (v := (1 : Int32)) Y dX5_give_94 (by decide) ?_
              refine J_iadd Y dX5_give_95 ?_
              refine M_ast X (mA_3 G _) (mS_3 G _) dX5_give_96 (fun t96 => ?_)
              refine J_aload_n Y 0 dX5_give_97 rfl rfl ?_
              refine M_get 3 X (by decide) rfl wfl_RX5_16 rfl dX5_give_98 ?_
              refine J_bipush (v := (12 : Int32)) Y dX5_give_101 (by decide) ?_
              refine J_iload_n Y 2 dX5_give_103 rfl rfl ?_
              refine J_imul Y dX5_give_104 ?_
              refine J_iload_n Y 3 dX5_give_105 rfl rfl ?_
              refine J_iadd Y dX5_give_106 ?_
              refine M_ald X (mA_3 G _) dX5_give_107 (fun x107 => ?_)
              exact J_ireturn Y dX5_give_108
            · refine J_sub [] rfl ?_
              exact j_X5_give_L64 X  t25
        · refine J_bipush (v := (-6 : Int32)) Y dX5_give_31 (by decide) ?_
          exact J_ireturn Y dX5_give_33
      · refine J_sub [] rfl ?_
        exact j_X5_give_L21 X  t10
theorem c_X5_give (G : JG) (v1 : Int32) (v2 : Int32) (v3 : Int32) (σ : ST) : Con (VM G) vI G.1 yX5_give cX5_give 4 (some .int) 2 80 [.ref (gO G 50), .int v1, .int v2, .int v3] σ (f_X5_give v1 v2 v3 σ) :=
  Con_of (VM_ok G) (by decide +kernel) (Nat.le_of_ble_eq_true rfl) (fun E e1 e2 _ X => j_X5_give ⟨X, e1, e2⟩ v1 v2 v3 σ)
set_option maxRecDepth 100000 in
set_option maxHeartbeats 4000000 in
theorem j_X5_minuteOf_L70 {E : JE} {G : JG} (X : JM E 3 cX5_minuteOf RX5 (some .int) 1 40 G) {k4 : Int32 → Int32 → ST → Option (Int32 × ST)} (hk4 : ∀ (v1 : Int32) (v2 : Int32) (σ : ST), Jg E 3 (JF E vI) [(0, .ref (gO G 50)), (1, .int v1), (2, .int v2)] 4 [] σ (k4 v1 v2 σ)) (v1 : Int32) (v2 : Int32) (σ : ST) : Jg E 3 (JF E vI) [(0, .ref (gO G 50)), (1, .int v1), (2, .int v2)] 70 [] σ (f_X5_minuteOf_L70 k4 v1 v2 σ) := by
  have Y := X.1
  unfold f_X5_minuteOf_L70
  refine J_iinc (v := v2 + (1 : Int32)) [(2, .int (v2 + (1 : Int32))), (0, .ref (gO G 50)), (1, .int v1)] Y 2 dX5_minuteOf_70 rfl (congrArg (fun z => _ + z) (by decide)) (by decide) rfl ?_
  refine J_goto (tgt := 4) Y dX5_minuteOf_73 (by decide) ?_
  refine J_sub [1, 2, 0] rfl ?_
  exact hk4 v1 (v2 + (1 : Int32)) σ
set_option maxRecDepth 100000 in
set_option maxHeartbeats 4000000 in
theorem j_X5_minuteOf_L76 {E : JE} {G : JG} (X : JM E 3 cX5_minuteOf RX5 (some .int) 1 40 G) (v1 : Int32) (σ : ST) : Jg E 3 (JF E vI) [(0, .ref (gO G 50)), (1, .int v1)] 76 [] σ (f_X5_minuteOf_L76 v1 σ) := by
  have Y := X.1
  unfold f_X5_minuteOf_L76
  refine J_aload_n Y 0 dX5_minuteOf_76 rfl rfl ?_
  refine J_dup Y dX5_minuteOf_77 rfl ?_
  refine M_get 4 X (by decide) rfl wfl_RX5_86 rfl dX5_minuteOf_78 ?_
  refine J_iconst (v := (1 : Int32)) Y dX5_minuteOf_81 (by decide) ?_
  refine J_iadd Y dX5_minuteOf_82 ?_
  refine M_put 4 (ty := .int) X (by decide) wfl_RX5_86 rfl rfl rfl (by decide +kernel) rfl (mF_4 G _ _) dX5_minuteOf_83 (fun t83 => ?_)
  refine J_iload_n Y 1 dX5_minuteOf_86 rfl rfl ?_
  exact J_ireturn Y dX5_minuteOf_87
set_option maxRecDepth 100000 in
set_option maxHeartbeats 4000000 in
theorem j_X5_minuteOf_L4 {E : JE} {G : JG} (X : JM E 3 cX5_minuteOf RX5 (some .int) 1 40 G) : ∀ (n : Nat) (v1 : Int32) (v2 : Int32) (σ : ST), Jg E 3 (JF E vI) [(0, .ref (gO G 50)), (1, .int v1), (2, .int v2)] 4 [] σ (f_X5_minuteOf_L4 n v1 v2 σ) := by
  have Y := X.1
  intro n
  induction n with
  | zero => intro v1 v2 σ; rw [f_X5_minuteOf_L4]; exact J_none
  | succ n ih =>
    intro v1 v2 σ
    rw [f_X5_minuteOf_L4]
    refine J_iload_n Y 2 dX5_minuteOf_4 rfl rfl ?_
    refine J_aload_n Y 0 dX5_minuteOf_5 rfl rfl ?_
    refine M_get 0 X (by decide) rfl wfl_RX5_75 rfl dX5_minuteOf_6 ?_
    refine J_icmp_ge (tgt := 76) Y dX5_minuteOf_9 (by decide) ?_ ?_
    · refine J_sub [0, 1] rfl ?_
      exact j_X5_minuteOf_L76 X v1 σ
    · refine J_aload_n Y 0 dX5_minuteOf_12 rfl rfl ?_
      refine J_iload_n Y 2 dX5_minuteOf_13 rfl rfl ?_
      refine M_cVi (As := [.int v2]) (st := []) rfl X (c_X5_isHere G v2 _) wi_X5_isHere win_X5_isHere wse_X5_isHere wml_RX5_82 ⟨Nat.le_of_ble_eq_true rfl, Nat.le_of_ble_eq_true rfl⟩ rfl (Nat.le_of_ble_eq_true rfl) dX5_minuteOf_14 (fun y14 t14 => ?_)
      refine J_if_ne (tgt := 70) Y dX5_minuteOf_17 (by decide) ?_ ?_
      · exact j_X5_minuteOf_L70 X (fun v1 v2 σ => ih v1 v2 σ) v1 v2 t14
      · refine J_aload_n Y 0 dX5_minuteOf_20 rfl rfl ?_
        refine M_get 3 X (by decide) rfl wfl_RX5_16 rfl dX5_minuteOf_21 ?_
        refine J_bipush (v := (12 : Int32)) Y dX5_minuteOf_24 (by decide) ?_
        refine J_iload_n Y 2 dX5_minuteOf_26 rfl rfl ?_
        refine J_imul Y dX5_minuteOf_27 ?_
        refine J_bipush (v := (11 : Int32)) Y dX5_minuteOf_28 (by decide) ?_
        refine J_iadd Y dX5_minuteOf_30 ?_
        refine J_dup2 Y dX5_minuteOf_31 rfl rfl ?_
        refine M_ald X (mA_3 G _) dX5_minuteOf_32 (fun x32 => ?_)
        refine J_iconst (v := (1 : Int32)) Y dX5_minuteOf_33 (by decide) ?_
        refine J_isub Y dX5_minuteOf_34 ?_
        refine M_ast X (mA_3 G _) (mS_3 G _) dX5_minuteOf_35 (fun t35 => ?_)
        refine J_aload_n Y 0 dX5_minuteOf_36 rfl rfl ?_
        refine M_get 3 X (by decide) rfl wfl_RX5_16 rfl dX5_minuteOf_37 ?_
        refine J_bipush (v := (12 : Int32)) Y dX5_minuteOf_40 (by decide) ?_
        refine J_iload_n Y 2 dX5_minuteOf_42 rfl rfl ?_
        refine J_imul Y dX5_minuteOf_43 ?_
        refine J_bipush (v := (11 : Int32)) Y dX5_minuteOf_44 (by decide) ?_
        refine J_iadd Y dX5_minuteOf_46 ?_
        refine M_ald X (mA_3 G _) dX5_minuteOf_47 (fun x47 => ?_)
        refine J_if_ne (tgt := 70) Y dX5_minuteOf_48 (by decide) ?_ ?_
        · exact j_X5_minuteOf_L70 X (fun v1 v2 σ => ih v1 v2 σ) v1 v2 t35
        · refine J_aload_n Y 0 dX5_minuteOf_51 rfl rfl ?_
          refine M_get 3 X (by decide) rfl wfl_RX5_16 rfl dX5_minuteOf_52 ?_
          refine J_bipush (v := (12 : Int32)) Y dX5_minuteOf_55 (by decide) ?_
          refine J_iload_n Y 2 dX5_minuteOf_57 rfl rfl ?_
          refine J_imul Y dX5_minuteOf_58 ?_
          refine J_bipush (v := (10 : Int32)) Y dX5_minuteOf_59 (by decide) ?_
          refine J_iadd Y dX5_minuteOf_61 ?_
          refine J_iconst (v := (-1 : Int32)) Y dX5_minuteOf_62 (by decide) ?_
          refine M_ast X (mA_3 G _) (mS_3 G _) dX5_minuteOf_63 (fun t63 => ?_)
          refine J_iload_n Y 1 dX5_minuteOf_64 rfl rfl ?_
          refine J_iconst (v := (1 : Int32)) Y dX5_minuteOf_65 (by decide) ?_
          refine J_iload_n Y 2 dX5_minuteOf_66 rfl rfl ?_
          refine J_ishl Y dX5_minuteOf_67 ?_
          refine J_ior Y dX5_minuteOf_68 ?_
          refine J_istore_n [(1, .int (v1 ||| ((1 : Int32) <<< (v2 &&& 31)))), (0, .ref (gO G 50)), (2, .int v2)] Y dX5_minuteOf_69 rfl (by decide) rfl ?_
          refine J_sub [1, 0, 2] rfl ?_
          exact j_X5_minuteOf_L70 X (fun v1 v2 σ => ih v1 v2 σ) (v1 ||| ((1 : Int32) <<< (v2 &&& 31))) v2 t63
set_option maxRecDepth 100000 in
set_option maxHeartbeats 4000000 in
theorem j_X5_minuteOf {E : JE} {G : JG} (X : JM E 3 cX5_minuteOf RX5 (some .int) 1 40 G) (σ : ST) : Jg E 3 (JF E vI) [(0, .ref (gO G 50))] 0 [] σ (f_X5_minuteOf σ) := by
  have Y := X.1
  unfold f_X5_minuteOf
  refine J_iconst (v := (0 : Int32)) Y dX5_minuteOf_0 (by decide) ?_
  refine J_istore_n [(1, .int (0 : Int32)), (0, .ref (gO G 50))] Y dX5_minuteOf_1 rfl (by decide) rfl ?_
  refine J_iconst (v := (0 : Int32)) Y dX5_minuteOf_2 (by decide) ?_
  refine J_istore_n [(2, .int (0 : Int32)), (1, .int (0 : Int32)), (0, .ref (gO G 50))] Y dX5_minuteOf_3 rfl (by decide) rfl ?_
  refine J_sub [2, 1, 0] rfl ?_
  exact j_X5_minuteOf_L4 X 1000 (0 : Int32) (0 : Int32) σ
theorem c_X5_minuteOf (G : JG) (σ : ST) : Con (VM G) vI G.1 yX5_minuteOf cX5_minuteOf 3 (some .int) 1 40 [.ref (gO G 50)] σ (f_X5_minuteOf σ) :=
  Con_of (VM_ok G) (by decide +kernel) (Nat.le_of_ble_eq_true rfl) (fun E e1 e2 _ X => j_X5_minuteOf ⟨X, e1, e2⟩ σ)
set_option maxRecDepth 100000 in
set_option maxHeartbeats 4000000 in
theorem j_X5_minute_L19 {E : JE} {G : JG} (X : JM E 1 cX5_minute RX5 (some .int) 2 80 G) (s0 : Int32) (σ : ST) : Jg E 1 (JF E vI) [] 19 [.int s0] σ (f_X5_minute_L19 s0 σ) := by
  have Y := X.1
  unfold f_X5_minute_L19
  exact J_ireturn Y dX5_minute_19
set_option maxRecDepth 100000 in
set_option maxHeartbeats 4000000 in
theorem j_X5_minute {E : JE} {G : JG} (X : JM E 1 cX5_minute RX5 (some .int) 2 80 G) (σ : ST) : Jg E 1 (JF E vI) [(0, .ref (gO G 50))] 0 [] σ (f_X5_minute σ) := by
  have Y := X.1
  unfold f_X5_minute
  refine J_aload_n Y 0 dX5_minute_0 rfl rfl ?_
  refine M_get 4 X (by decide) rfl wfl_RX5_86 rfl dX5_minute_1 ?_
  refine J_sipush (v := (999 : Int32)) Y dX5_minute_4 (by decide) ?_
  refine J_icmp_ne (tgt := 15) Y dX5_minute_7 (by decide) ?_ ?_
  · refine J_aload_n Y 0 dX5_minute_15 rfl rfl ?_
    refine M_cVi (As := []) (st := []) rfl X (c_X5_minuteOf G _) wi_X5_minuteOf win_X5_minuteOf wse_X5_minuteOf wml_RX5_199 ⟨Nat.le_of_ble_eq_true rfl, Nat.le_of_ble_eq_true rfl⟩ rfl (Nat.le_of_ble_eq_true rfl) dX5_minute_16 (fun y16 t16 => ?_)
    refine J_sub [] rfl ?_
    exact j_X5_minute_L19 X y16 t16
  · refine J_bipush (v := (-3 : Int32)) Y dX5_minute_10 (by decide) ?_
    refine J_goto (tgt := 19) Y dX5_minute_12 (by decide) ?_
    refine J_sub [] rfl ?_
    exact j_X5_minute_L19 X (-3 : Int32) σ
theorem c_X5_minute (G : JG) (σ : ST) : Con (VM G) vI G.1 yX5_minute cX5_minute 1 (some .int) 2 80 [.ref (gO G 50)] σ (f_X5_minute σ) :=
  Con_of (VM_ok G) (by decide +kernel) (Nat.le_of_ble_eq_true rfl) (fun E e1 e2 _ X => j_X5_minute ⟨X, e1, e2⟩ σ)
set_option maxRecDepth 100000 in
set_option maxHeartbeats 4000000 in
theorem j_X5_whoIn_L36 {E : JE} {G : JG} (X : JM E 4 cX5_whoIn RX5 (some .int) 0 0 G) {k4 : Int32 → Int32 → Int32 → ST → Option (Int32 × ST)} (hk4 : ∀ (v1 : Int32) (v2 : Int32) (v3 : Int32) (σ : ST), Jg E 4 (JF E vI) [(0, .ref (gO G 50)), (1, .int v1), (2, .int v2), (3, .int v3)] 4 [] σ (k4 v1 v2 v3 σ)) (v1 : Int32) (v3 : Int32) (s0 : Int32) (s1 : Int32) (σ : ST) : Jg E 4 (JF E vI) [(0, .ref (gO G 50)), (1, .int v1), (3, .int v3)] 36 [.int s0, .int s1] σ (f_X5_whoIn_L36 k4 v1 v3 s0 s1 σ) := by
  have Y := X.1
  unfold f_X5_whoIn_L36
  refine J_ior Y dX5_whoIn_36 ?_
  refine J_istore_n [(2, .int (s1 ||| s0)), (0, .ref (gO G 50)), (1, .int v1), (3, .int v3)] Y dX5_whoIn_37 rfl (by decide) rfl ?_
  refine J_iinc (v := v3 + (1 : Int32)) [(3, .int (v3 + (1 : Int32))), (2, .int (s1 ||| s0)), (0, .ref (gO G 50)), (1, .int v1)] Y 3 dX5_whoIn_38 rfl (congrArg (fun z => _ + z) (by decide)) (by decide) rfl ?_
  refine J_goto (tgt := 4) Y dX5_whoIn_41 (by decide) ?_
  refine J_sub [2, 3, 1, 0] rfl ?_
  exact hk4 v1 (s1 ||| s0) (v3 + (1 : Int32)) σ
set_option maxRecDepth 100000 in
set_option maxHeartbeats 4000000 in
theorem j_X5_whoIn_L4 {E : JE} {G : JG} (X : JM E 4 cX5_whoIn RX5 (some .int) 0 0 G) : ∀ (n : Nat) (v1 : Int32) (v2 : Int32) (v3 : Int32) (σ : ST), Jg E 4 (JF E vI) [(0, .ref (gO G 50)), (1, .int v1), (2, .int v2), (3, .int v3)] 4 [] σ (f_X5_whoIn_L4 n v1 v2 v3 σ) := by
  have Y := X.1
  intro n
  induction n with
  | zero => intro v1 v2 v3 σ; rw [f_X5_whoIn_L4]; exact J_none
  | succ n ih =>
    intro v1 v2 v3 σ
    rw [f_X5_whoIn_L4]
    refine J_iload_n Y 3 dX5_whoIn_4 rfl rfl ?_
    refine J_aload_n Y 0 dX5_whoIn_5 rfl rfl ?_
    refine M_get 0 X (by decide) rfl wfl_RX5_75 rfl dX5_whoIn_6 ?_
    refine J_icmp_ge (tgt := 44) Y dX5_whoIn_9 (by decide) ?_ ?_
    · refine J_iload_n Y 2 dX5_whoIn_44 rfl rfl ?_
      exact J_ireturn Y dX5_whoIn_45
    · refine J_iload_n Y 2 dX5_whoIn_12 rfl rfl ?_
      refine J_aload_n Y 0 dX5_whoIn_13 rfl rfl ?_
      refine M_get 3 X (by decide) rfl wfl_RX5_16 rfl dX5_whoIn_14 ?_
      refine J_bipush (v := (12 : Int32)) Y dX5_whoIn_17 (by decide) ?_
      refine J_iload_n Y 3 dX5_whoIn_19 rfl rfl ?_
      refine J_imul Y dX5_whoIn_20 ?_
      refine J_bipush (v := (10 : Int32)) Y dX5_whoIn_21 (by decide) ?_
      refine J_iadd Y dX5_whoIn_23 ?_
      refine M_ald X (mA_3 G _) dX5_whoIn_24 (fun x24 => ?_)
      refine J_iload_n Y 1 dX5_whoIn_25 rfl rfl ?_
      refine J_icmp_ne (tgt := 35) Y dX5_whoIn_26 (by decide) ?_ ?_
      · refine J_iconst (v := (0 : Int32)) Y dX5_whoIn_35 (by decide) ?_
        refine J_sub [0, 1, 3] rfl ?_
        exact j_X5_whoIn_L36 X (fun v1 v2 v3 σ => ih v1 v2 v3 σ) v1 v3 (0 : Int32) v2 σ
      · refine J_iconst (v := (1 : Int32)) Y dX5_whoIn_29 (by decide) ?_
        refine J_iload_n Y 3 dX5_whoIn_30 rfl rfl ?_
        refine J_ishl Y dX5_whoIn_31 ?_
        refine J_goto (tgt := 36) Y dX5_whoIn_32 (by decide) ?_
        refine J_sub [0, 1, 3] rfl ?_
        exact j_X5_whoIn_L36 X (fun v1 v2 v3 σ => ih v1 v2 v3 σ) v1 v3 ((1 : Int32) <<< (v3 &&& 31)) v2 σ
set_option maxRecDepth 100000 in
set_option maxHeartbeats 4000000 in
theorem j_X5_whoIn {E : JE} {G : JG} (X : JM E 4 cX5_whoIn RX5 (some .int) 0 0 G) (v1 : Int32) (σ : ST) : Jg E 4 (JF E vI) [(0, .ref (gO G 50)), (1, .int v1)] 0 [] σ (f_X5_whoIn v1 σ) := by
  have Y := X.1
  unfold f_X5_whoIn
  refine J_iconst (v := (0 : Int32)) Y dX5_whoIn_0 (by decide) ?_
  refine J_istore_n [(2, .int (0 : Int32)), (0, .ref (gO G 50)), (1, .int v1)] Y dX5_whoIn_1 rfl (by decide) rfl ?_
  refine J_iconst (v := (0 : Int32)) Y dX5_whoIn_2 (by decide) ?_
  refine J_istore_n [(3, .int (0 : Int32)), (2, .int (0 : Int32)), (0, .ref (gO G 50)), (1, .int v1)] Y dX5_whoIn_3 rfl (by decide) rfl ?_
  refine J_sub [2, 3, 1, 0] rfl ?_
  exact j_X5_whoIn_L4 X 1000 v1 (0 : Int32) (0 : Int32) σ
theorem c_X5_whoIn (G : JG) (v1 : Int32) (σ : ST) : Con (VM G) vI G.1 yX5_whoIn cX5_whoIn 4 (some .int) 0 0 [.ref (gO G 50), .int v1] σ (f_X5_whoIn v1 σ) :=
  Con_of (VM_ok G) (by decide +kernel) (Nat.le_of_ble_eq_true rfl) (fun E e1 e2 _ X => j_X5_whoIn ⟨X, e1, e2⟩ v1 σ)
set_option maxRecDepth 100000 in
set_option maxHeartbeats 4000000 in
theorem j_X5_longest_L44 {E : JE} {G : JG} (X : JM E 3 cX5_longest RX5 (some .int) 0 0 G) {k4 : Int32 → Int32 → ST → Option (Int32 × ST)} (hk4 : ∀ (v1 : Int32) (v2 : Int32) (σ : ST), Jg E 3 (JF E vI) [(0, .ref (gO G 50)), (1, .int v1), (2, .int v2)] 4 [] σ (k4 v1 v2 σ)) (v2 : Int32) (s0 : Int32) (σ : ST) : Jg E 3 (JF E vI) [(0, .ref (gO G 50)), (2, .int v2)] 44 [.int s0] σ (f_X5_longest_L44 k4 v2 s0 σ) := by
  have Y := X.1
  unfold f_X5_longest_L44
  refine J_istore_n [(1, .int s0), (0, .ref (gO G 50)), (2, .int v2)] Y dX5_longest_44 rfl (by decide) rfl ?_
  refine J_iinc (v := v2 + (1 : Int32)) [(2, .int (v2 + (1 : Int32))), (1, .int s0), (0, .ref (gO G 50))] Y 2 dX5_longest_45 rfl (congrArg (fun z => _ + z) (by decide)) (by decide) rfl ?_
  refine J_goto (tgt := 4) Y dX5_longest_48 (by decide) ?_
  refine J_sub [2, 1, 0] rfl ?_
  exact hk4 s0 (v2 + (1 : Int32)) σ
set_option maxRecDepth 100000 in
set_option maxHeartbeats 4000000 in
theorem j_X5_longest_L4 {E : JE} {G : JG} (X : JM E 3 cX5_longest RX5 (some .int) 0 0 G) : ∀ (n : Nat) (v1 : Int32) (v2 : Int32) (σ : ST), Jg E 3 (JF E vI) [(0, .ref (gO G 50)), (1, .int v1), (2, .int v2)] 4 [] σ (f_X5_longest_L4 n v1 v2 σ) := by
  have Y := X.1
  intro n
  induction n with
  | zero => intro v1 v2 σ; rw [f_X5_longest_L4]; exact J_none
  | succ n ih =>
    intro v1 v2 σ
    rw [f_X5_longest_L4]
    refine J_iload_n Y 2 dX5_longest_4 rfl rfl ?_
    refine J_aload_n Y 0 dX5_longest_5 rfl rfl ?_
    refine M_get 0 X (by decide) rfl wfl_RX5_75 rfl dX5_longest_6 ?_
    refine J_icmp_ge (tgt := 51) Y dX5_longest_9 (by decide) ?_ ?_
    · refine J_iload_n Y 1 dX5_longest_51 rfl rfl ?_
      exact J_ireturn Y dX5_longest_52
    · refine J_aload_n Y 0 dX5_longest_12 rfl rfl ?_
      refine M_get 3 X (by decide) rfl wfl_RX5_16 rfl dX5_longest_13 ?_
      refine J_bipush (v := (12 : Int32)) Y dX5_longest_16 (by decide) ?_
      refine J_iload_n Y 2 dX5_longest_18 rfl rfl ?_
      refine J_imul Y dX5_longest_19 ?_
      refine J_bipush (v := (11 : Int32)) Y dX5_longest_20 (by decide) ?_
      refine J_iadd Y dX5_longest_22 ?_
      refine M_ald X (mA_3 G _) dX5_longest_23 (fun x23 => ?_)
      refine J_iload_n Y 1 dX5_longest_24 rfl rfl ?_
      refine J_icmp_le (tgt := 43) Y dX5_longest_25 (by decide) ?_ ?_
      · refine J_iload_n Y 1 dX5_longest_43 rfl rfl ?_
        refine J_sub [0, 2] rfl ?_
        exact j_X5_longest_L44 X (fun v1 v2 σ => ih v1 v2 σ) v2 v1 σ
      · refine J_aload_n Y 0 dX5_longest_28 rfl rfl ?_
        refine M_get 3 X (by decide) rfl wfl_RX5_16 rfl dX5_longest_29 ?_
        refine J_bipush (v := (12 : Int32)) Y dX5_longest_32 (by decide) ?_
        refine J_iload_n Y 2 dX5_longest_34 rfl rfl ?_
        refine J_imul Y dX5_longest_35 ?_
        refine J_bipush (v := (11 : Int32)) Y dX5_longest_36 (by decide) ?_
        refine J_iadd Y dX5_longest_38 ?_
        refine M_ald X (mA_3 G _) dX5_longest_39 (fun x39 => ?_)
        refine J_goto (tgt := 44) Y dX5_longest_40 (by decide) ?_
        refine J_sub [0, 2] rfl ?_
        exact j_X5_longest_L44 X (fun v1 v2 σ => ih v1 v2 σ) v2 x39 σ
set_option maxRecDepth 100000 in
set_option maxHeartbeats 4000000 in
theorem j_X5_longest {E : JE} {G : JG} (X : JM E 3 cX5_longest RX5 (some .int) 0 0 G) (σ : ST) : Jg E 3 (JF E vI) [(0, .ref (gO G 50))] 0 [] σ (f_X5_longest σ) := by
  have Y := X.1
  unfold f_X5_longest
  refine J_iconst (v := (0 : Int32)) Y dX5_longest_0 (by decide) ?_
  refine J_istore_n [(1, .int (0 : Int32)), (0, .ref (gO G 50))] Y dX5_longest_1 rfl (by decide) rfl ?_
  refine J_iconst (v := (0 : Int32)) Y dX5_longest_2 (by decide) ?_
  refine J_istore_n [(2, .int (0 : Int32)), (1, .int (0 : Int32)), (0, .ref (gO G 50))] Y dX5_longest_3 rfl (by decide) rfl ?_
  refine J_sub [2, 1, 0] rfl ?_
  exact j_X5_longest_L4 X 1000 (0 : Int32) (0 : Int32) σ
theorem c_X5_longest (G : JG) (σ : ST) : Con (VM G) vI G.1 yX5_longest cX5_longest 3 (some .int) 0 0 [.ref (gO G 50)] σ (f_X5_longest σ) :=
  Con_of (VM_ok G) (by decide +kernel) (Nat.le_of_ble_eq_true rfl) (fun E e1 e2 _ X => j_X5_longest ⟨X, e1, e2⟩ σ)
set_option maxRecDepth 100000 in
set_option maxHeartbeats 4000000 in
theorem j_X5_room_L44 {E : JE} {G : JG} (X : JM E 2 cX5_room RX5 (some .int) 2 80 G) (s0 : Int32) (σ : ST) : Jg E 2 (JF E vI) [] 44 [.int s0] σ (f_X5_room_L44 s0 σ) := by
  have Y := X.1
  unfold f_X5_room_L44
  exact J_ireturn Y dX5_room_44
set_option maxRecDepth 100000 in
set_option maxHeartbeats 4000000 in
theorem j_X5_room {E : JE} {G : JG} (X : JM E 2 cX5_room RX5 (some .int) 2 80 G) (v1 : Int32) (σ : ST) : Jg E 2 (JF E vI) [(0, .ref (gO G 50)), (1, .int v1)] 0 [] σ (f_X5_room v1 σ) := by
  have Y := X.1
  unfold f_X5_room
  refine J_iload_n Y 1 dX5_room_0 rfl rfl ?_
  refine J_iconst (v := (0 : Int32)) Y dX5_room_1 (by decide) ?_
  refine J_bipush (v := (9 : Int32)) Y dX5_room_2 (by decide) ?_
  refine M_cSi (As := [.int v1, .int (0 : Int32), .int (9 : Int32)]) (st := []) rfl X (c_X5_in G v1 (0 : Int32) (9 : Int32) _) wi_X5_in wst_X5_in wml_RX5_78 ⟨Nat.le_of_ble_eq_true rfl, Nat.le_of_ble_eq_true rfl⟩ rfl (Nat.le_of_ble_eq_true rfl) dX5_room_4 (fun y4 t4 => ?_)
  refine J_if_ne (tgt := 13) Y dX5_room_7 (by decide) ?_ ?_
  · refine J_iload_n Y 1 dX5_room_13 rfl rfl ?_
    refine J_if_ne (tgt := 24) Y dX5_room_14 (by decide) ?_ ?_
    · refine J_iload_n Y 1 dX5_room_24 rfl rfl ?_
      refine J_bipush (v := (9 : Int32)) Y dX5_room_25 (by decide) ?_
      refine J_icmp_ne (tgt := 37) Y dX5_room_27 (by decide) ?_ ?_
      · refine J_aload_n Y 0 dX5_room_37 rfl rfl ?_
        refine J_iload_n Y 1 dX5_room_38 rfl rfl ?_
        refine J_iconst (v := (1 : Int32)) Y dX5_room_39 (by decide) ?_
        refine J_isub Y dX5_room_40 ?_
        refine M_cVi (As := [.int (v1 - (1 : Int32))]) (st := []) rfl X (c_X5_whoIn G (v1 - (1 : Int32)) _) wi_X5_whoIn win_X5_whoIn wse_X5_whoIn wml_RX5_205 ⟨Nat.le_of_ble_eq_true rfl, Nat.le_of_ble_eq_true rfl⟩ rfl (Nat.le_of_ble_eq_true rfl) dX5_room_41 (fun y41 t41 => ?_)
        refine J_sub [] rfl ?_
        exact j_X5_room_L44 X y41 t41
      · refine J_aload_n Y 0 dX5_room_30 rfl rfl ?_
        refine M_cVi (As := []) (st := []) rfl X (c_X5_longest G _) wi_X5_longest win_X5_longest wse_X5_longest wml_RX5_202 ⟨Nat.le_of_ble_eq_true rfl, Nat.le_of_ble_eq_true rfl⟩ rfl (Nat.le_of_ble_eq_true rfl) dX5_room_31 (fun y31 t31 => ?_)
        refine J_goto (tgt := 44) Y dX5_room_34 (by decide) ?_
        refine J_sub [] rfl ?_
        exact j_X5_room_L44 X y31 t31
    · refine J_aload_n Y 0 dX5_room_17 rfl rfl ?_
      refine M_cVi (As := []) (st := []) rfl X (c_X5_hereSet G _) wi_X5_hereSet win_X5_hereSet wse_X5_hereSet wml_RX5_89 ⟨Nat.le_of_ble_eq_true rfl, Nat.le_of_ble_eq_true rfl⟩ rfl (Nat.le_of_ble_eq_true rfl) dX5_room_18 (fun y18 t18 => ?_)
      refine J_goto (tgt := 44) Y dX5_room_21 (by decide) ?_
      refine J_sub [] rfl ?_
      exact j_X5_room_L44 X y18 t18
  · refine J_bipush (v := (-2 : Int32)) Y dX5_room_10 (by decide) ?_
    exact J_ireturn Y dX5_room_12
theorem c_X5_room (G : JG) (v1 : Int32) (σ : ST) : Con (VM G) vI G.1 yX5_room cX5_room 2 (some .int) 2 80 [.ref (gO G 50), .int v1] σ (f_X5_room v1 σ) :=
  Con_of (VM_ok G) (by decide +kernel) (Nat.le_of_ble_eq_true rfl) (fun E e1 e2 _ X => j_X5_room ⟨X, e1, e2⟩ v1 σ)
