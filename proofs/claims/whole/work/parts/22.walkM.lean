set_option maxRecDepth 100000 in
set_option maxHeartbeats 4000000 in
theorem j_X5_keeps_L26 {E : JE} {G : JG} (X : JM E 2 cX5_keeps RX5 none 0 0 G) (σ : ST) : Jg E 2 (JF E vV) [(0, .ref (gO G 50))] 26 [] σ (f_X5_keeps_L26 σ) := by
  have Y := X.1
  unfold f_X5_keeps_L26
  refine J_aload_n Y 0 dX5_keeps_26 rfl rfl ?_
  refine M_get 29 X (by decide) rfl wfl_RX5_58 rfl dX5_keeps_27 ?_
  refine J_bipush (v := (72 : Int32)) Y dX5_keeps_30 (by decide) ?_
  refine J_aload_n Y 0 dX5_keeps_32 rfl rfl ?_
  refine M_get 4 X (by decide) rfl wfl_RX5_86 rfl dX5_keeps_33 ?_
  refine M_ast X (mA_29 G _) (mS_29 G _) dX5_keeps_36 (fun t36 => ?_)
  exact J_return Y dX5_keeps_37
set_option maxRecDepth 100000 in
set_option maxHeartbeats 4000000 in
theorem j_X5_keeps_L2 {E : JE} {G : JG} (X : JM E 2 cX5_keeps RX5 none 0 0 G) : ∀ (n : Nat) (v1 : Int32) (σ : ST), Jg E 2 (JF E vV) [(0, .ref (gO G 50)), (1, .int v1)] 2 [] σ (f_X5_keeps_L2 n v1 σ) := by
  have Y := X.1
  intro n
  induction n with
  | zero => intro v1 σ; rw [f_X5_keeps_L2]; exact J_none
  | succ n ih =>
    intro v1 σ
    rw [f_X5_keeps_L2]
    refine J_iload_n Y 1 dX5_keeps_2 rfl rfl ?_
    refine J_bipush (v := (72 : Int32)) Y dX5_keeps_3 (by decide) ?_
    refine J_icmp_ge (tgt := 26) Y dX5_keeps_5 (by decide) ?_ ?_
    · refine J_sub [0] rfl ?_
      exact j_X5_keeps_L26 X  σ
    · refine J_aload_n Y 0 dX5_keeps_8 rfl rfl ?_
      refine M_get 29 X (by decide) rfl wfl_RX5_58 rfl dX5_keeps_9 ?_
      refine J_iload_n Y 1 dX5_keeps_12 rfl rfl ?_
      refine J_aload_n Y 0 dX5_keeps_13 rfl rfl ?_
      refine M_get 3 X (by decide) rfl wfl_RX5_16 rfl dX5_keeps_14 ?_
      refine J_iload_n Y 1 dX5_keeps_17 rfl rfl ?_
      refine M_ald X (mA_3 G _) dX5_keeps_18 (fun x18 => ?_)
      refine M_ast X (mA_29 G _) (mS_29 G _) dX5_keeps_19 (fun t19 => ?_)
      refine J_iinc (v := v1 + (1 : Int32)) [(1, .int (v1 + (1 : Int32))), (0, .ref (gO G 50))] Y 1 dX5_keeps_20 rfl (congrArg (fun z => _ + z) (by decide)) (by decide) rfl ?_
      refine J_goto (tgt := 2) Y dX5_keeps_23 (by decide) ?_
      refine J_sub [1, 0] rfl ?_
      exact ih (v1 + (1 : Int32)) t19
set_option maxRecDepth 100000 in
set_option maxHeartbeats 4000000 in
theorem j_X5_keeps {E : JE} {G : JG} (X : JM E 2 cX5_keeps RX5 none 0 0 G) (σ : ST) : Jg E 2 (JF E vV) [(0, .ref (gO G 50))] 0 [] σ (f_X5_keeps σ) := by
  have Y := X.1
  unfold f_X5_keeps
  refine J_iconst (v := (0 : Int32)) Y dX5_keeps_0 (by decide) ?_
  refine J_istore_n [(1, .int (0 : Int32)), (0, .ref (gO G 50))] Y dX5_keeps_1 rfl (by decide) rfl ?_
  refine J_sub [1, 0] rfl ?_
  exact j_X5_keeps_L2 X 1000 (0 : Int32) σ
theorem c_X5_keeps (G : JG) (σ : ST) : Con (VM G) vV G.1 yX5_keeps cX5_keeps 2 none 0 0 [.ref (gO G 50)] σ (f_X5_keeps σ) :=
  Con_of (VM_ok G) (by decide +kernel) (Nat.le_of_ble_eq_true rfl) (fun E e1 e2 _ X => j_X5_keeps ⟨X, e1, e2⟩ σ)
set_option maxRecDepth 100000 in
set_option maxHeartbeats 4000000 in
theorem j_X5_lays_L26 {E : JE} {G : JG} (X : JM E 2 cX5_lays RX5 none 0 0 G) (σ : ST) : Jg E 2 (JF E vV) [(0, .ref (gO G 50))] 26 [] σ (f_X5_lays_L26 σ) := by
  have Y := X.1
  unfold f_X5_lays_L26
  refine J_aload_n Y 0 dX5_lays_26 rfl rfl ?_
  refine J_aload_n Y 0 dX5_lays_27 rfl rfl ?_
  refine M_get 29 X (by decide) rfl wfl_RX5_58 rfl dX5_lays_28 ?_
  refine J_bipush (v := (72 : Int32)) Y dX5_lays_31 (by decide) ?_
  refine M_ald X (mA_29 G _) dX5_lays_33 (fun x33 => ?_)
  refine M_put 4 (ty := .int) X (by decide) wfl_RX5_86 rfl rfl rfl (by decide +kernel) rfl (mF_4 G _ _) dX5_lays_34 (fun t34 => ?_)
  exact J_return Y dX5_lays_37
set_option maxRecDepth 100000 in
set_option maxHeartbeats 4000000 in
theorem j_X5_lays_L2 {E : JE} {G : JG} (X : JM E 2 cX5_lays RX5 none 0 0 G) : ∀ (n : Nat) (v1 : Int32) (σ : ST), Jg E 2 (JF E vV) [(0, .ref (gO G 50)), (1, .int v1)] 2 [] σ (f_X5_lays_L2 n v1 σ) := by
  have Y := X.1
  intro n
  induction n with
  | zero => intro v1 σ; rw [f_X5_lays_L2]; exact J_none
  | succ n ih =>
    intro v1 σ
    rw [f_X5_lays_L2]
    refine J_iload_n Y 1 dX5_lays_2 rfl rfl ?_
    refine J_bipush (v := (72 : Int32)) Y dX5_lays_3 (by decide) ?_
    refine J_icmp_ge (tgt := 26) Y dX5_lays_5 (by decide) ?_ ?_
    · refine J_sub [0] rfl ?_
      exact j_X5_lays_L26 X  σ
    · refine J_aload_n Y 0 dX5_lays_8 rfl rfl ?_
      refine M_get 3 X (by decide) rfl wfl_RX5_16 rfl dX5_lays_9 ?_
      refine J_iload_n Y 1 dX5_lays_12 rfl rfl ?_
      refine J_aload_n Y 0 dX5_lays_13 rfl rfl ?_
      refine M_get 29 X (by decide) rfl wfl_RX5_58 rfl dX5_lays_14 ?_
      refine J_iload_n Y 1 dX5_lays_17 rfl rfl ?_
      refine M_ald X (mA_29 G _) dX5_lays_18 (fun x18 => ?_)
      refine M_ast X (mA_3 G _) (mS_3 G _) dX5_lays_19 (fun t19 => ?_)
      refine J_iinc (v := v1 + (1 : Int32)) [(1, .int (v1 + (1 : Int32))), (0, .ref (gO G 50))] Y 1 dX5_lays_20 rfl (congrArg (fun z => _ + z) (by decide)) (by decide) rfl ?_
      refine J_goto (tgt := 2) Y dX5_lays_23 (by decide) ?_
      refine J_sub [1, 0] rfl ?_
      exact ih (v1 + (1 : Int32)) t19
set_option maxRecDepth 100000 in
set_option maxHeartbeats 4000000 in
theorem j_X5_lays {E : JE} {G : JG} (X : JM E 2 cX5_lays RX5 none 0 0 G) (σ : ST) : Jg E 2 (JF E vV) [(0, .ref (gO G 50))] 0 [] σ (f_X5_lays σ) := by
  have Y := X.1
  unfold f_X5_lays
  refine J_iconst (v := (0 : Int32)) Y dX5_lays_0 (by decide) ?_
  refine J_istore_n [(1, .int (0 : Int32)), (0, .ref (gO G 50))] Y dX5_lays_1 rfl (by decide) rfl ?_
  refine J_sub [1, 0] rfl ?_
  exact j_X5_lays_L2 X 1000 (0 : Int32) σ
theorem c_X5_lays (G : JG) (σ : ST) : Con (VM G) vV G.1 yX5_lays cX5_lays 2 none 0 0 [.ref (gO G 50)] σ (f_X5_lays σ) :=
  Con_of (VM_ok G) (by decide +kernel) (Nat.le_of_ble_eq_true rfl) (fun E e1 e2 _ X => j_X5_lays ⟨X, e1, e2⟩ σ)
set_option maxRecDepth 100000 in
set_option maxHeartbeats 4000000 in
theorem j_X5_eveningWrong_L79 {E : JE} {G : JG} (X : JM E 4 cX5_eveningWrong RX5 (some .int) 2 80 G) (σ : ST) : Jg E 4 (JF E vI) [] 79 [] σ (f_X5_eveningWrong_L79 σ) := by
  have Y := X.1
  unfold f_X5_eveningWrong_L79
  refine J_bipush (v := (-2 : Int32)) Y dX5_eveningWrong_79 (by decide) ?_
  exact J_ireturn Y dX5_eveningWrong_81
set_option maxRecDepth 100000 in
set_option maxHeartbeats 4000000 in
theorem j_X5_eveningWrong_L82 {E : JE} {G : JG} (X : JM E 4 cX5_eveningWrong RX5 (some .int) 2 80 G) {k27 : Int32 → Int32 → ST → Option (Int32 × ST)} (hk27 : ∀ (v1 : Int32) (v2 : Int32) (σ : ST), Jg E 4 (JF E vI) [(0, .ref (gO G 50)), (1, .int v1), (2, .int v2)] 27 [] σ (k27 v1 v2 σ)) (v1 : Int32) (v2 : Int32) (σ : ST) : Jg E 4 (JF E vI) [(0, .ref (gO G 50)), (1, .int v1), (2, .int v2)] 82 [] σ (f_X5_eveningWrong_L82 k27 v1 v2 σ) := by
  have Y := X.1
  unfold f_X5_eveningWrong_L82
  refine J_iinc (v := v2 + (1 : Int32)) [(2, .int (v2 + (1 : Int32))), (0, .ref (gO G 50)), (1, .int v1)] Y 2 dX5_eveningWrong_82 rfl (congrArg (fun z => _ + z) (by decide)) (by decide) rfl ?_
  refine J_goto (tgt := 27) Y dX5_eveningWrong_85 (by decide) ?_
  refine J_sub [1, 2, 0] rfl ?_
  exact hk27 v1 (v2 + (1 : Int32)) σ
set_option maxRecDepth 100000 in
set_option maxHeartbeats 4000000 in
theorem j_X5_eveningWrong_L27 {E : JE} {G : JG} (X : JM E 4 cX5_eveningWrong RX5 (some .int) 2 80 G) : ∀ (n : Nat) (v1 : Int32) (v2 : Int32) (σ : ST), Jg E 4 (JF E vI) [(0, .ref (gO G 50)), (1, .int v1), (2, .int v2)] 27 [] σ (f_X5_eveningWrong_L27 n v1 v2 σ) := by
  have Y := X.1
  intro n
  induction n with
  | zero => intro v1 v2 σ; rw [f_X5_eveningWrong_L27]; exact J_none
  | succ n ih =>
    intro v1 v2 σ
    rw [f_X5_eveningWrong_L27]
    refine J_iload_n Y 2 dX5_eveningWrong_27 rfl rfl ?_
    refine J_aload_n Y 0 dX5_eveningWrong_28 rfl rfl ?_
    refine M_get 15 X (by decide) rfl wfl_RX5_37 rfl dX5_eveningWrong_29 ?_
    refine J_iload_n Y 1 dX5_eveningWrong_32 rfl rfl ?_
    refine M_ald X (mA_15 G _) dX5_eveningWrong_33 (fun x33 => ?_)
    refine J_icmp_ge (tgt := 88) Y dX5_eveningWrong_34 (by decide) ?_ ?_
    · refine J_iconst (v := (0 : Int32)) Y dX5_eveningWrong_88 (by decide) ?_
      exact J_ireturn Y dX5_eveningWrong_89
    · refine J_aload_n Y 0 dX5_eveningWrong_37 rfl rfl ?_
      refine M_get 16 X (by decide) rfl wfl_RX5_40 rfl dX5_eveningWrong_38 ?_
      refine J_bipush (v := (40 : Int32)) Y dX5_eveningWrong_41 (by decide) ?_
      refine J_iload_n Y 1 dX5_eveningWrong_43 rfl rfl ?_
      refine J_imul Y dX5_eveningWrong_44 ?_
      refine J_iload_n Y 2 dX5_eveningWrong_45 rfl rfl ?_
      refine J_iadd Y dX5_eveningWrong_46 ?_
      refine M_ald X (mA_16 G _) dX5_eveningWrong_47 (fun x47 => ?_)
      refine J_istore_n [(3, .int x47), (0, .ref (gO G 50)), (1, .int v1), (2, .int v2)] Y dX5_eveningWrong_48 rfl (by decide) rfl ?_
      refine J_iload_n Y 0 dX5_eveningWrong_49 rfl rfl ?_
      refine J_iconst (v := (-1 : Int32)) Y dX5_eveningWrong_50 (by decide) ?_
      refine J_icmp_eq (tgt := 82) Y dX5_eveningWrong_51 (by decide) ?_ ?_
      · refine J_sub [1, 2, 3] rfl ?_
        exact j_X5_eveningWrong_L82 X (fun v1 v2 σ => ih v1 v2 σ) v1 v2 σ
      · refine J_iload_n Y 0 dX5_eveningWrong_54 rfl rfl ?_
        refine J_if_lt (tgt := 79) Y dX5_eveningWrong_55 (by decide) ?_ ?_
        · refine J_sub [] rfl ?_
          exact j_X5_eveningWrong_L79 X  σ
        · refine J_aload_n Y 1 dX5_eveningWrong_58 rfl rfl ?_
          refine J_iload_n Y 0 dX5_eveningWrong_59 rfl rfl ?_
          refine J_bipush (v := (10 : Int32)) Y dX5_eveningWrong_60 (by decide) ?_
          refine J_idiv Y dX5_eveningWrong_62 (by decide) ?_
          refine M_cVi (As := [.int (x47 / (10 : Int32))]) (st := []) rfl X (c_X5_isOne G (x47 / (10 : Int32)) _) wi_X5_isOne win_X5_isOne wse_X5_isOne wml_RX5_170 ⟨Nat.le_of_ble_eq_true rfl, Nat.le_of_ble_eq_true rfl⟩ rfl (Nat.le_of_ble_eq_true rfl) dX5_eveningWrong_63 (fun y63 t63 => ?_)
          refine J_if_eq (tgt := 79) Y dX5_eveningWrong_66 (by decide) ?_ ?_
          · refine J_sub [] rfl ?_
            exact j_X5_eveningWrong_L79 X  t63
          · refine J_iload_n Y 0 dX5_eveningWrong_69 rfl rfl ?_
            refine J_bipush (v := (10 : Int32)) Y dX5_eveningWrong_70 (by decide) ?_
            refine J_irem Y dX5_eveningWrong_72 (by decide) ?_
            refine M_cSi (As := [.int (x47 - x47 / (10 : Int32) * (10 : Int32))]) (st := []) rfl X (c_X5_isPlace G (x47 - x47 / (10 : Int32) * (10 : Int32)) _) wi_X5_isPlace wst_X5_isPlace wml_RX5_173 ⟨Nat.le_of_ble_eq_true rfl, Nat.le_of_ble_eq_true rfl⟩ rfl (Nat.le_of_ble_eq_true rfl) dX5_eveningWrong_73 (fun y73 t73 => ?_)
            refine J_if_ne (tgt := 82) Y dX5_eveningWrong_76 (by decide) ?_ ?_
            · refine J_sub [1, 2, 3] rfl ?_
              exact j_X5_eveningWrong_L82 X (fun v1 v2 σ => ih v1 v2 σ) v1 v2 t73
            · refine J_sub [] rfl ?_
              exact j_X5_eveningWrong_L79 X  t73
set_option maxRecDepth 100000 in
set_option maxHeartbeats 4000000 in
theorem j_X5_eveningWrong {E : JE} {G : JG} (X : JM E 4 cX5_eveningWrong RX5 (some .int) 2 80 G) (v1 : Int32) (σ : ST) : Jg E 4 (JF E vI) [(0, .ref (gO G 50)), (1, .int v1)] 0 [] σ (f_X5_eveningWrong v1 σ) := by
  have Y := X.1
  unfold f_X5_eveningWrong
  refine J_iload_n Y 1 dX5_eveningWrong_0 rfl rfl ?_
  refine J_iconst (v := (0 : Int32)) Y dX5_eveningWrong_1 (by decide) ?_
  refine J_iconst (v := (3 : Int32)) Y dX5_eveningWrong_2 (by decide) ?_
  refine M_cSi (As := [.int v1, .int (0 : Int32), .int (3 : Int32)]) (st := []) rfl X (c_X5_in G v1 (0 : Int32) (3 : Int32) _) wi_X5_in wst_X5_in wml_RX5_78 ⟨Nat.le_of_ble_eq_true rfl, Nat.le_of_ble_eq_true rfl⟩ rfl (Nat.le_of_ble_eq_true rfl) dX5_eveningWrong_3 (fun y3 t3 => ?_)
  refine J_if_ne (tgt := 12) Y dX5_eveningWrong_6 (by decide) ?_ ?_
  · refine J_aload_n Y 0 dX5_eveningWrong_12 rfl rfl ?_
    refine M_get 14 X (by decide) rfl wfl_RX5_34 rfl dX5_eveningWrong_13 ?_
    refine J_iload_n Y 1 dX5_eveningWrong_16 rfl rfl ?_
    refine M_ald X (mA_14 G _) dX5_eveningWrong_17 (fun x17 => ?_)
    refine J_iconst (v := (-1 : Int32)) Y dX5_eveningWrong_18 (by decide) ?_
    refine J_icmp_ne (tgt := 25) Y dX5_eveningWrong_19 (by decide) ?_ ?_
    · refine J_iconst (v := (0 : Int32)) Y dX5_eveningWrong_25 (by decide) ?_
      refine J_istore_n [(2, .int (0 : Int32)), (0, .ref (gO G 50)), (1, .int v1)] Y dX5_eveningWrong_26 rfl (by decide) rfl ?_
      refine J_sub [1, 2, 0] rfl ?_
      exact j_X5_eveningWrong_L27 X 1000 v1 (0 : Int32) t3
    · refine J_bipush (v := (-11 : Int32)) Y dX5_eveningWrong_22 (by decide) ?_
      exact J_ireturn Y dX5_eveningWrong_24
  · refine J_bipush (v := (-2 : Int32)) Y dX5_eveningWrong_9 (by decide) ?_
    exact J_ireturn Y dX5_eveningWrong_11
theorem c_X5_eveningWrong (G : JG) (v1 : Int32) (σ : ST) : Con (VM G) vI G.1 yX5_eveningWrong cX5_eveningWrong 4 (some .int) 2 80 [.ref (gO G 50), .int v1] σ (f_X5_eveningWrong v1 σ) :=
  Con_of (VM_ok G) (by decide +kernel) (Nat.le_of_ble_eq_true rfl) (fun E e1 e2 _ X => j_X5_eveningWrong ⟨X, e1, e2⟩ v1 σ)
set_option maxRecDepth 100000 in
set_option maxHeartbeats 4000000 in
theorem j_X5_takesOne_L47 {E : JE} {G : JG} (X : JM E 5 cX5_takesOne RX5 (some .boolean) 5 200 G) (v4 : Int32) (σ : ST) : Jg E 5 (JF E vI) [(4, .int v4)] 47 [] σ (f_X5_takesOne_L47 v4 σ) := by
  have Y := X.1
  unfold f_X5_takesOne_L47
  refine J_iload Y 0 dX5_takesOne_47 rfl ?_
  exact J_zreturn Y dX5_takesOne_49
set_option maxRecDepth 100000 in
set_option maxHeartbeats 4000000 in
theorem j_X5_takesOne {E : JE} {G : JG} (X : JM E 5 cX5_takesOne RX5 (some .boolean) 5 200 G) (v1 : Int32) (σ : ST) : Jg E 5 (JF E vI) [(0, .ref (gO G 50)), (1, .int v1)] 0 [] σ (f_X5_takesOne v1 σ) := by
  have Y := X.1
  unfold f_X5_takesOne
  refine J_iload_n Y 1 dX5_takesOne_0 rfl rfl ?_
  refine J_iconst (v := (-1 : Int32)) Y dX5_takesOne_1 (by decide) ?_
  refine J_icmp_ne (tgt := 7) Y dX5_takesOne_2 (by decide) ?_ ?_
  · refine J_iload_n Y 1 dX5_takesOne_7 rfl rfl ?_
    refine J_bipush (v := (10 : Int32)) Y dX5_takesOne_8 (by decide) ?_
    refine J_idiv Y dX5_takesOne_10 (by decide) ?_
    refine J_iconst (v := (0 : Int32)) Y dX5_takesOne_11 (by decide) ?_
    refine J_iconst (v := (5 : Int32)) Y dX5_takesOne_12 (by decide) ?_
    refine M_cSi (As := [.int (v1 / (10 : Int32)), .int (0 : Int32), .int (5 : Int32)]) (st := []) rfl X (c_X5_within G (v1 / (10 : Int32)) (0 : Int32) (5 : Int32) _) wi_X5_within wst_X5_within wml_RX5_167 ⟨Nat.le_of_ble_eq_true rfl, Nat.le_of_ble_eq_true rfl⟩ rfl (Nat.le_of_ble_eq_true rfl) dX5_takesOne_13 (fun y13 t13 => ?_)
    refine J_istore_n [(2, .int y13), (0, .ref (gO G 50)), (1, .int v1)] Y dX5_takesOne_16 rfl (by decide) rfl ?_
    refine J_iload_n Y 2 dX5_takesOne_17 rfl rfl ?_
    refine J_bipush (v := (10 : Int32)) Y dX5_takesOne_18 (by decide) ?_
    refine J_irem Y dX5_takesOne_20 (by decide) ?_
    refine J_iconst (v := (0 : Int32)) Y dX5_takesOne_21 (by decide) ?_
    refine J_bipush (v := (7 : Int32)) Y dX5_takesOne_22 (by decide) ?_
    refine M_cSi (As := [.int (v1 - v1 / (10 : Int32) * (10 : Int32)), .int (0 : Int32), .int (7 : Int32)]) (st := []) rfl X (c_X5_within G (v1 - v1 / (10 : Int32) * (10 : Int32)) (0 : Int32) (7 : Int32) _) wi_X5_within wst_X5_within wml_RX5_167 ⟨Nat.le_of_ble_eq_true rfl, Nat.le_of_ble_eq_true rfl⟩ rfl (Nat.le_of_ble_eq_true rfl) dX5_takesOne_24 (fun y24 t24 => ?_)
    refine J_istore_n [(3, .int y24), (2, .int y13), (0, .ref (gO G 50)), (1, .int v1)] Y dX5_takesOne_27 rfl (by decide) rfl ?_
    refine J_aload_n Y 2 dX5_takesOne_28 rfl rfl ?_
    refine J_iload_n Y 1 dX5_takesOne_29 rfl rfl ?_
    refine J_iload_n Y 0 dX5_takesOne_30 rfl rfl ?_
    refine M_cVi (As := [.int y13, .int y24]) (st := []) rfl X (c_X5_can G y13 y24 _) wi_X5_can win_X5_can wse_X5_can wml_RX5_192 ⟨Nat.le_of_ble_eq_true rfl, Nat.le_of_ble_eq_true rfl⟩ rfl (Nat.le_of_ble_eq_true rfl) dX5_takesOne_31 (fun y31 t31 => ?_)
    refine J_istore [(4, .int y31), (3, .int y24), (2, .int y13), (0, .ref (gO G 50)), (1, .int v1)] Y dX5_takesOne_34 (by decide) rfl ?_
    refine J_iload Y 0 dX5_takesOne_36 rfl ?_
    refine J_if_eq (tgt := 47) Y dX5_takesOne_38 (by decide) ?_ ?_
    · refine J_sub [0] rfl ?_
      exact j_X5_takesOne_L47 X y31 t31
    · refine J_aload_n Y 3 dX5_takesOne_41 rfl rfl ?_
      refine J_iload_n Y 2 dX5_takesOne_42 rfl rfl ?_
      refine J_iload_n Y 1 dX5_takesOne_43 rfl rfl ?_
      refine M_cVv (As := [.int y13, .int y24]) (st := []) rfl X (c_X5_pinchOf G y13 y24 _) wi_X5_pinchOf win_X5_pinchOf wse_X5_pinchOf wml_RX5_195 ⟨Nat.le_of_ble_eq_true rfl, Nat.le_of_ble_eq_true rfl⟩ rfl (Nat.le_of_ble_eq_true rfl) dX5_takesOne_44 (fun t44 => ?_)
      refine J_sub [0] rfl ?_
      exact j_X5_takesOne_L47 X y31 t44
  · refine J_iconst (v := (0 : Int32)) Y dX5_takesOne_5 (by decide) ?_
    exact J_zreturn Y dX5_takesOne_6
theorem c_X5_takesOne (G : JG) (v1 : Int32) (σ : ST) : Con (VM G) vI G.1 yX5_takesOne cX5_takesOne 5 (some .boolean) 5 200 [.ref (gO G 50), .int v1] σ (f_X5_takesOne v1 σ) :=
  Con_of (VM_ok G) (by decide +kernel) (Nat.le_of_ble_eq_true rfl) (fun E e1 e2 _ X => j_X5_takesOne ⟨X, e1, e2⟩ v1 σ)
set_option maxRecDepth 100000 in
set_option maxHeartbeats 4000000 in
theorem j_X5_goes_L151 {E : JE} {G : JG} (X : JM E 5 cX5_goes RX5 none 6 240 G) {k30 : Int32 → Int32 → ST → Option (Unit × ST)} (hk30 : ∀ (v1 : Int32) (v2 : Int32) (σ : ST), Jg E 5 (JF E vV) [(0, .ref (gO G 50)), (1, .int v1), (2, .int v2)] 30 [] σ (k30 v1 v2 σ)) (v1 : Int32) (v2 : Int32) (v4 : Int32) (s0 : Int32) (s1 : Int32) (σ : ST) : Jg E 5 (JF E vV) [(0, .ref (gO G 50)), (1, .int v1), (2, .int v2), (4, .int v4)] 151 [.int s0, .int s1, .ref (gA G 50 30)] σ (f_X5_goes_L151 k30 v1 v2 v4 s0 s1 σ) := by
  have Y := X.1
  unfold f_X5_goes_L151
  refine M_ast X (mA_30 G _) (mS_30 G _) dX5_goes_151 (fun t151 => ?_)
  refine J_aload_n Y 0 dX5_goes_152 rfl rfl ?_
  refine M_get 30 X (by decide) rfl wfl_RX5_61 rfl dX5_goes_153 ?_
  refine J_iconst (v := (2 : Int32)) Y dX5_goes_156 (by decide) ?_
  refine J_dup2 Y dX5_goes_157 rfl rfl ?_
  refine M_ald X (mA_30 G _) dX5_goes_158 (fun x158 => ?_)
  refine J_iload Y 3 dX5_goes_159 rfl ?_
  refine J_iadd Y dX5_goes_161 ?_
  refine M_ast X (mA_30 G _) (mS_30 G _) dX5_goes_162 (fun t162 => ?_)
  refine J_aload_n Y 0 dX5_goes_163 rfl rfl ?_
  refine M_cVi (As := []) (st := []) rfl X (c_X5_minuteOf G _) wi_X5_minuteOf win_X5_minuteOf wse_X5_minuteOf wml_RX5_199 ⟨Nat.le_of_ble_eq_true rfl, Nat.le_of_ble_eq_true rfl⟩ rfl (Nat.le_of_ble_eq_true rfl) dX5_goes_164 (fun y164 t164 => ?_)
  refine J_pop Y dX5_goes_167 rfl ?_
  refine J_iinc (v := v2 + (1 : Int32)) [(2, .int (v2 + (1 : Int32))), (0, .ref (gO G 50)), (1, .int v1), (4, .int v4)] Y 2 dX5_goes_168 rfl (congrArg (fun z => _ + z) (by decide)) (by decide) rfl ?_
  refine J_goto (tgt := 30) Y dX5_goes_171 (by decide) ?_
  refine J_sub [1, 2, 0] rfl ?_
  exact hk30 v1 (v2 + (1 : Int32)) t164
set_option maxRecDepth 100000 in
set_option maxHeartbeats 4000000 in
theorem j_X5_goes_L110 {E : JE} {G : JG} (X : JM E 5 cX5_goes RX5 none 6 240 G) {k30 : Int32 → Int32 → ST → Option (Unit × ST)} (hk30 : ∀ (v1 : Int32) (v2 : Int32) (σ : ST), Jg E 5 (JF E vV) [(0, .ref (gO G 50)), (1, .int v1), (2, .int v2)] 30 [] σ (k30 v1 v2 σ)) (v1 : Int32) (v2 : Int32) (σ : ST) : Jg E 5 (JF E vV) [(0, .ref (gO G 50)), (1, .int v1), (2, .int v2)] 110 [] σ (f_X5_goes_L110 k30 v1 v2 σ) := by
  have Y := X.1
  unfold f_X5_goes_L110
  refine J_aload_n Y 0 dX5_goes_110 rfl rfl ?_
  refine M_get 0 X (by decide) rfl wfl_RX5_75 rfl dX5_goes_111 ?_
  refine J_aload_n Y 0 dX5_goes_114 rfl rfl ?_
  refine M_cVi (As := []) (st := [.int (gs 50 0 σ)]) rfl X (c_X5_hereSet G _) wi_X5_hereSet win_X5_hereSet wse_X5_hereSet wml_RX5_89 ⟨Nat.le_of_ble_eq_true rfl, Nat.le_of_ble_eq_true rfl⟩ rfl (Nat.le_of_ble_eq_true rfl) dX5_goes_115 (fun y115 t115 => ?_)
  refine M_cSi (As := [.int y115]) (st := [.int (gs 50 0 σ)]) rfl X (c_X5_onesOf G y115 _) wi_X5_onesOf wst_X5_onesOf wml_RX5_92 ⟨Nat.le_of_ble_eq_true rfl, Nat.le_of_ble_eq_true rfl⟩ rfl (Nat.le_of_ble_eq_true rfl) dX5_goes_118 (fun y118 t118 => ?_)
  refine J_isub Y dX5_goes_121 ?_
  refine J_istore [(4, .int ((gs 50 0 σ) - y118)), (0, .ref (gO G 50)), (1, .int v1), (2, .int v2)] Y dX5_goes_122 (by decide) rfl ?_
  refine J_aload_n Y 1 dX5_goes_124 rfl rfl ?_
  refine M_get 30 X (by decide) rfl wfl_RX5_61 rfl dX5_goes_125 ?_
  refine J_iconst (v := (1 : Int32)) Y dX5_goes_128 (by decide) ?_
  refine J_iload Y 0 dX5_goes_129 rfl ?_
  refine J_aload_n Y 1 dX5_goes_131 rfl rfl ?_
  refine M_get 30 X (by decide) rfl wfl_RX5_61 rfl dX5_goes_132 ?_
  refine J_iconst (v := (1 : Int32)) Y dX5_goes_135 (by decide) ?_
  refine M_ald X (mA_30 G _) dX5_goes_136 (fun x136 => ?_)
  refine J_icmp_le (tgt := 145) Y dX5_goes_137 (by decide) ?_ ?_
  · refine J_aload_n Y 1 dX5_goes_145 rfl rfl ?_
    refine M_get 30 X (by decide) rfl wfl_RX5_61 rfl dX5_goes_146 ?_
    refine J_iconst (v := (1 : Int32)) Y dX5_goes_149 (by decide) ?_
    refine M_ald X (mA_30 G _) dX5_goes_150 (fun x150 => ?_)
    refine J_sub [1, 2, 3, 0] rfl ?_
    exact j_X5_goes_L151 X hk30 v1 v2 ((gs 50 0 σ) - y118) x150 (1 : Int32) t118
  · refine J_iload Y 0 dX5_goes_140 rfl ?_
    refine J_goto (tgt := 151) Y dX5_goes_142 (by decide) ?_
    refine J_sub [1, 2, 3, 0] rfl ?_
    exact j_X5_goes_L151 X hk30 v1 v2 ((gs 50 0 σ) - y118) ((gs 50 0 σ) - y118) (1 : Int32) t118
set_option maxRecDepth 100000 in
set_option maxHeartbeats 4000000 in
theorem j_X5_goes_L72 {E : JE} {G : JG} (X : JM E 5 cX5_goes RX5 none 6 240 G) {k30 : Int32 → Int32 → ST → Option (Unit × ST)} (hk30 : ∀ (v1 : Int32) (v2 : Int32) (σ : ST), Jg E 5 (JF E vV) [(0, .ref (gO G 50)), (1, .int v1), (2, .int v2)] 30 [] σ (k30 v1 v2 σ)) (v1 : Int32) (v2 : Int32) (v3 : Int32) (s0 : Int32) (s1 : Int32) (s2 : Int32) (σ : ST) : Jg E 5 (JF E vV) [(0, .ref (gO G 50)), (1, .int v1), (2, .int v2), (3, .int v3)] 72 [.int s0, .int s1, .int s2, .ref (gA G 50 30)] σ (f_X5_goes_L72 k30 v1 v2 v3 s0 s1 s2 σ) := by
  have Y := X.1
  unfold f_X5_goes_L72
  refine J_iadd Y dX5_goes_72 ?_
  refine M_ast X (mA_30 G _) (mS_30 G _) dX5_goes_73 (fun t73 => ?_)
  refine J_iload_n Y 3 dX5_goes_74 rfl rfl ?_
  refine J_if_ne (tgt := 110) Y dX5_goes_75 (by decide) ?_ ?_
  · refine J_sub [0, 1, 2] rfl ?_
    exact j_X5_goes_L110 X hk30 v1 v2 t73
  · refine J_aload_n Y 0 dX5_goes_78 rfl rfl ?_
    refine M_get 16 X (by decide) rfl wfl_RX5_40 rfl dX5_goes_79 ?_
    refine J_bipush (v := (40 : Int32)) Y dX5_goes_82 (by decide) ?_
    refine J_iload_n Y 1 dX5_goes_84 rfl rfl ?_
    refine J_imul Y dX5_goes_85 ?_
    refine J_iload_n Y 2 dX5_goes_86 rfl rfl ?_
    refine J_iadd Y dX5_goes_87 ?_
    refine M_ald X (mA_16 G _) dX5_goes_88 (fun x88 => ?_)
    refine J_iconst (v := (-1 : Int32)) Y dX5_goes_89 (by decide) ?_
    refine J_icmp_eq (tgt := 110) Y dX5_goes_90 (by decide) ?_ ?_
    · refine J_sub [0, 1, 2] rfl ?_
      exact j_X5_goes_L110 X hk30 v1 v2 t73
    · refine J_aload_n Y 0 dX5_goes_93 rfl rfl ?_
      refine M_get 30 X (by decide) rfl wfl_RX5_61 rfl dX5_goes_94 ?_
      refine J_iconst (v := (3 : Int32)) Y dX5_goes_97 (by decide) ?_
      refine M_ald X (mA_30 G _) dX5_goes_98 (fun x98 => ?_)
      refine J_iconst (v := (-1 : Int32)) Y dX5_goes_99 (by decide) ?_
      refine J_icmp_ne (tgt := 110) Y dX5_goes_100 (by decide) ?_ ?_
      · refine J_sub [0, 1, 2] rfl ?_
        exact j_X5_goes_L110 X hk30 v1 v2 t73
      · refine J_aload_n Y 0 dX5_goes_103 rfl rfl ?_
        refine M_get 30 X (by decide) rfl wfl_RX5_61 rfl dX5_goes_104 ?_
        refine J_iconst (v := (3 : Int32)) Y dX5_goes_107 (by decide) ?_
        refine J_iload_n Y 2 dX5_goes_108 rfl rfl ?_
        refine M_ast X (mA_30 G _) (mS_30 G _) dX5_goes_109 (fun t109 => ?_)
        refine J_sub [0, 1, 2] rfl ?_
        exact j_X5_goes_L110 X hk30 v1 v2 t109
set_option maxRecDepth 100000 in
set_option maxHeartbeats 4000000 in
theorem j_X5_goes_L30 {E : JE} {G : JG} (X : JM E 5 cX5_goes RX5 none 6 240 G) : ∀ (n : Nat) (v1 : Int32) (v2 : Int32) (σ : ST), Jg E 5 (JF E vV) [(0, .ref (gO G 50)), (1, .int v1), (2, .int v2)] 30 [] σ (f_X5_goes_L30 n v1 v2 σ) := by
  have Y := X.1
  intro n
  induction n with
  | zero => intro v1 v2 σ; rw [f_X5_goes_L30]; exact J_none
  | succ n ih =>
    intro v1 v2 σ
    rw [f_X5_goes_L30]
    refine J_iload_n Y 2 dX5_goes_30 rfl rfl ?_
    refine J_aload_n Y 0 dX5_goes_31 rfl rfl ?_
    refine M_get 15 X (by decide) rfl wfl_RX5_37 rfl dX5_goes_32 ?_
    refine J_iload_n Y 1 dX5_goes_35 rfl rfl ?_
    refine M_ald X (mA_15 G _) dX5_goes_36 (fun x36 => ?_)
    refine J_icmp_ge (tgt := 174) Y dX5_goes_37 (by decide) ?_ ?_
    · exact J_return Y dX5_goes_174
    · refine J_aload_n Y 0 dX5_goes_40 rfl rfl ?_
      refine J_aload_n Y 0 dX5_goes_41 rfl rfl ?_
      refine M_get 16 X (by decide) rfl wfl_RX5_40 rfl dX5_goes_42 ?_
      refine J_bipush (v := (40 : Int32)) Y dX5_goes_45 (by decide) ?_
      refine J_iload_n Y 1 dX5_goes_47 rfl rfl ?_
      refine J_imul Y dX5_goes_48 ?_
      refine J_iload_n Y 2 dX5_goes_49 rfl rfl ?_
      refine J_iadd Y dX5_goes_50 ?_
      refine M_ald X (mA_16 G _) dX5_goes_51 (fun x51 => ?_)
      refine M_cVi (As := [.int x51]) (st := []) rfl X (c_X5_takesOne G x51 _) wi_X5_takesOne win_X5_takesOne wse_X5_takesOne wml_RX5_208 ⟨Nat.le_of_ble_eq_true rfl, Nat.le_of_ble_eq_true rfl⟩ rfl (Nat.le_of_ble_eq_true rfl) dX5_goes_52 (fun y52 t52 => ?_)
      refine J_istore_n [(3, .int y52), (0, .ref (gO G 50)), (1, .int v1), (2, .int v2)] Y dX5_goes_55 rfl (by decide) rfl ?_
      refine J_aload_n Y 1 dX5_goes_56 rfl rfl ?_
      refine M_get 30 X (by decide) rfl wfl_RX5_61 rfl dX5_goes_57 ?_
      refine J_iconst (v := (0 : Int32)) Y dX5_goes_60 (by decide) ?_
      refine J_dup2 Y dX5_goes_61 rfl rfl ?_
      refine M_ald X (mA_30 G _) dX5_goes_62 (fun x62 => ?_)
      refine J_iload_n Y 0 dX5_goes_63 rfl rfl ?_
      refine J_if_eq (tgt := 71) Y dX5_goes_64 (by decide) ?_ ?_
      · refine J_iconst (v := (0 : Int32)) Y dX5_goes_71 (by decide) ?_
        refine J_sub [1, 2, 3, 0] rfl ?_
        exact j_X5_goes_L72 X (fun v1 v2 σ => ih v1 v2 σ) v1 v2 y52 (0 : Int32) x62 (0 : Int32) t52
      · refine J_iconst (v := (1 : Int32)) Y dX5_goes_67 (by decide) ?_
        refine J_goto (tgt := 72) Y dX5_goes_68 (by decide) ?_
        refine J_sub [1, 2, 3, 0] rfl ?_
        exact j_X5_goes_L72 X (fun v1 v2 σ => ih v1 v2 σ) v1 v2 y52 (1 : Int32) x62 (0 : Int32) t52
set_option maxRecDepth 100000 in
set_option maxHeartbeats 4000000 in
theorem j_X5_goes {E : JE} {G : JG} (X : JM E 5 cX5_goes RX5 none 6 240 G) (v1 : Int32) (σ : ST) : Jg E 5 (JF E vV) [(0, .ref (gO G 50)), (1, .int v1)] 0 [] σ (f_X5_goes v1 σ) := by
  have Y := X.1
  unfold f_X5_goes
  refine J_aload_n Y 0 dX5_goes_0 rfl rfl ?_
  refine M_get 30 X (by decide) rfl wfl_RX5_61 rfl dX5_goes_1 ?_
  refine J_iconst (v := (0 : Int32)) Y dX5_goes_4 (by decide) ?_
  refine J_iconst (v := (0 : Int32)) Y dX5_goes_5 (by decide) ?_
  refine M_ast X (mA_30 G _) (mS_30 G _) dX5_goes_6 (fun t6 => ?_)
  refine J_aload_n Y 0 dX5_goes_7 rfl rfl ?_
  refine M_get 30 X (by decide) rfl wfl_RX5_61 rfl dX5_goes_8 ?_
  refine J_iconst (v := (1 : Int32)) Y dX5_goes_11 (by decide) ?_
  refine J_iconst (v := (0 : Int32)) Y dX5_goes_12 (by decide) ?_
  refine M_ast X (mA_30 G _) (mS_30 G _) dX5_goes_13 (fun t13 => ?_)
  refine J_aload_n Y 0 dX5_goes_14 rfl rfl ?_
  refine M_get 30 X (by decide) rfl wfl_RX5_61 rfl dX5_goes_15 ?_
  refine J_iconst (v := (2 : Int32)) Y dX5_goes_18 (by decide) ?_
  refine J_iconst (v := (0 : Int32)) Y dX5_goes_19 (by decide) ?_
  refine M_ast X (mA_30 G _) (mS_30 G _) dX5_goes_20 (fun t20 => ?_)
  refine J_aload_n Y 0 dX5_goes_21 rfl rfl ?_
  refine M_get 30 X (by decide) rfl wfl_RX5_61 rfl dX5_goes_22 ?_
  refine J_iconst (v := (3 : Int32)) Y dX5_goes_25 (by decide) ?_
  refine J_iconst (v := (-1 : Int32)) Y dX5_goes_26 (by decide) ?_
  refine M_ast X (mA_30 G _) (mS_30 G _) dX5_goes_27 (fun t27 => ?_)
  refine J_iconst (v := (0 : Int32)) Y dX5_goes_28 (by decide) ?_
  refine J_istore_n [(2, .int (0 : Int32)), (0, .ref (gO G 50)), (1, .int v1)] Y dX5_goes_29 rfl (by decide) rfl ?_
  refine J_sub [1, 2, 0] rfl ?_
  exact j_X5_goes_L30 X 1000 v1 (0 : Int32) t27
theorem c_X5_goes (G : JG) (v1 : Int32) (σ : ST) : Con (VM G) vV G.1 yX5_goes cX5_goes 5 none 6 240 [.ref (gO G 50), .int v1] σ (f_X5_goes v1 σ) :=
  Con_of (VM_ok G) (by decide +kernel) (Nat.le_of_ble_eq_true rfl) (fun E e1 e2 _ X => j_X5_goes ⟨X, e1, e2⟩ v1 σ)
set_option maxRecDepth 100000 in
set_option maxHeartbeats 4000000 in
theorem j_X5_evening_L125 {E : JE} {G : JG} (X : JM E 5 cX5_evening RX5 (some .int) 7 280 G) (v4 : Int32) (σ : ST) : Jg E 5 (JF E vI) [(0, .ref (gO G 50)), (4, .int v4)] 125 [] σ (f_X5_evening_L125 v4 σ) := by
  have Y := X.1
  unfold f_X5_evening_L125
  refine J_aload_n Y 0 dX5_evening_125 rfl rfl ?_
  refine M_cVv (As := []) (st := []) rfl X (c_X5_lays G _) wi_X5_lays win_X5_lays wse_X5_lays wml_RX5_220 ⟨Nat.le_of_ble_eq_true rfl, Nat.le_of_ble_eq_true rfl⟩ rfl (Nat.le_of_ble_eq_true rfl) dX5_evening_126 (fun t126 => ?_)
  refine J_iload Y 1 dX5_evening_129 rfl ?_
  exact J_ireturn Y dX5_evening_131
set_option maxRecDepth 100000 in
set_option maxHeartbeats 4000000 in
theorem j_X5_evening_L123 {E : JE} {G : JG} (X : JM E 5 cX5_evening RX5 (some .int) 7 280 G) (s0 : Int32) (σ : ST) : Jg E 5 (JF E vI) [(0, .ref (gO G 50))] 123 [.int s0] σ (f_X5_evening_L123 s0 σ) := by
  have Y := X.1
  unfold f_X5_evening_L123
  refine J_istore [(4, .int s0), (0, .ref (gO G 50))] Y dX5_evening_123 (by decide) rfl ?_
  refine J_sub [1, 0] rfl ?_
  exact j_X5_evening_L125 X s0 σ
set_option maxRecDepth 100000 in
set_option maxHeartbeats 4000000 in
theorem j_X5_evening_L56 {E : JE} {G : JG} (X : JM E 5 cX5_evening RX5 (some .int) 7 280 G) (v1 : Int32) (v2 : Int32) (σ : ST) : Jg E 5 (JF E vI) [(0, .ref (gO G 50)), (1, .int v1), (2, .int v2)] 56 [] σ (f_X5_evening_L56 v1 v2 σ) := by
  have Y := X.1
  unfold f_X5_evening_L56
  refine J_aload_n Y 0 dX5_evening_56 rfl rfl ?_
  refine M_cVv (As := []) (st := []) rfl X (c_X5_keeps G _) wi_X5_keeps win_X5_keeps wse_X5_keeps wml_RX5_214 ⟨Nat.le_of_ble_eq_true rfl, Nat.le_of_ble_eq_true rfl⟩ rfl (Nat.le_of_ble_eq_true rfl) dX5_evening_57 (fun t57 => ?_)
  refine J_aload_n Y 0 dX5_evening_60 rfl rfl ?_
  refine J_iload_n Y 1 dX5_evening_61 rfl rfl ?_
  refine M_cVv (As := [.int v1]) (st := []) rfl X (c_X5_goes G v1 _) wi_X5_goes win_X5_goes wse_X5_goes wml_RX5_217 ⟨Nat.le_of_ble_eq_true rfl, Nat.le_of_ble_eq_true rfl⟩ rfl (Nat.le_of_ble_eq_true rfl) dX5_evening_62 (fun t62 => ?_)
  refine J_iconst (v := (0 : Int32)) Y dX5_evening_65 (by decide) ?_
  refine J_istore [(4, .int (0 : Int32)), (0, .ref (gO G 50)), (1, .int v1), (2, .int v2)] Y dX5_evening_66 (by decide) rfl ?_
  refine J_iload_n Y 3 dX5_evening_68 rfl rfl ?_
  refine J_iconst (v := (4 : Int32)) Y dX5_evening_69 (by decide) ?_
  refine J_icmp_ge (tgt := 84) Y dX5_evening_70 (by decide) ?_ ?_
  · refine J_iload_n Y 3 dX5_evening_84 rfl rfl ?_
    refine J_bipush (v := (20 : Int32)) Y dX5_evening_85 (by decide) ?_
    refine J_icmp_ge (tgt := 108) Y dX5_evening_87 (by decide) ?_ ?_
    · refine J_aload_n Y 1 dX5_evening_108 rfl rfl ?_
      refine M_get 3 X (by decide) rfl wfl_RX5_16 rfl dX5_evening_109 ?_
      refine J_bipush (v := (12 : Int32)) Y dX5_evening_112 (by decide) ?_
      refine J_iload_n Y 3 dX5_evening_114 rfl rfl ?_
      refine J_bipush (v := (20 : Int32)) Y dX5_evening_115 (by decide) ?_
      refine J_isub Y dX5_evening_117 ?_
      refine J_imul Y dX5_evening_118 ?_
      refine J_bipush (v := (9 : Int32)) Y dX5_evening_119 (by decide) ?_
      refine J_iadd Y dX5_evening_121 ?_
      refine M_ald X (mA_3 G _) dX5_evening_122 (fun x122 => ?_)
      refine J_sub [1] rfl ?_
      exact j_X5_evening_L123 X x122 t62
    · refine J_aload_n Y 1 dX5_evening_90 rfl rfl ?_
      refine M_get 3 X (by decide) rfl wfl_RX5_16 rfl dX5_evening_91 ?_
      refine J_bipush (v := (12 : Int32)) Y dX5_evening_94 (by decide) ?_
      refine J_iload_n Y 3 dX5_evening_96 rfl rfl ?_
      refine J_bipush (v := (10 : Int32)) Y dX5_evening_97 (by decide) ?_
      refine J_isub Y dX5_evening_99 ?_
      refine J_imul Y dX5_evening_100 ?_
      refine J_bipush (v := (8 : Int32)) Y dX5_evening_101 (by decide) ?_
      refine J_iadd Y dX5_evening_103 ?_
      refine M_ald X (mA_3 G _) dX5_evening_104 (fun x104 => ?_)
      refine J_goto (tgt := 123) Y dX5_evening_105 (by decide) ?_
      refine J_sub [1] rfl ?_
      exact j_X5_evening_L123 X x104 t62
  · refine J_aload_n Y 1 dX5_evening_73 rfl rfl ?_
    refine M_get 30 X (by decide) rfl wfl_RX5_61 rfl dX5_evening_74 ?_
    refine J_iload_n Y 3 dX5_evening_77 rfl rfl ?_
    refine M_ald X (mA_30 G _) dX5_evening_78 (fun x78 => ?_)
    refine J_istore [(4, .int x78), (0, .ref (gO G 50)), (1, .int v1), (2, .int v2)] Y dX5_evening_79 (by decide) rfl ?_
    refine J_goto (tgt := 125) Y dX5_evening_81 (by decide) ?_
    refine J_sub [1, 0] rfl ?_
    exact j_X5_evening_L125 X x78 t62
set_option maxRecDepth 100000 in
set_option maxHeartbeats 4000000 in
theorem j_X5_evening {E : JE} {G : JG} (X : JM E 5 cX5_evening RX5 (some .int) 7 280 G) (v1 : Int32) (v2 : Int32) (σ : ST) : Jg E 5 (JF E vI) [(0, .ref (gO G 50)), (1, .int v1), (2, .int v2)] 0 [] σ (f_X5_evening v1 v2 σ) := by
  have Y := X.1
  unfold f_X5_evening
  refine J_aload_n Y 0 dX5_evening_0 rfl rfl ?_
  refine J_iload_n Y 1 dX5_evening_1 rfl rfl ?_
  refine M_cVi (As := [.int v1]) (st := []) rfl X (c_X5_eveningWrong G v1 _) wi_X5_eveningWrong win_X5_eveningWrong wse_X5_eveningWrong wml_RX5_211 ⟨Nat.le_of_ble_eq_true rfl, Nat.le_of_ble_eq_true rfl⟩ rfl (Nat.le_of_ble_eq_true rfl) dX5_evening_2 (fun y2 t2 => ?_)
  refine J_istore_n [(3, .int y2), (0, .ref (gO G 50)), (1, .int v1), (2, .int v2)] Y dX5_evening_5 rfl (by decide) rfl ?_
  refine J_iload_n Y 0 dX5_evening_6 rfl rfl ?_
  refine J_if_eq (tgt := 12) Y dX5_evening_7 (by decide) ?_ ?_
  · refine J_iload_n Y 3 dX5_evening_12 rfl rfl ?_
    refine J_iconst (v := (0 : Int32)) Y dX5_evening_13 (by decide) ?_
    refine J_iconst (v := (3 : Int32)) Y dX5_evening_14 (by decide) ?_
    refine M_cSi (As := [.int v2, .int (0 : Int32), .int (3 : Int32)]) (st := []) rfl X (c_X5_in G v2 (0 : Int32) (3 : Int32) _) wi_X5_in wst_X5_in wml_RX5_78 ⟨Nat.le_of_ble_eq_true rfl, Nat.le_of_ble_eq_true rfl⟩ rfl (Nat.le_of_ble_eq_true rfl) dX5_evening_15 (fun y15 t15 => ?_)
    refine J_if_ne (tgt := 56) Y dX5_evening_18 (by decide) ?_ ?_
    · refine J_sub [1, 2, 3] rfl ?_
      exact j_X5_evening_L56 X v1 v2 t15
    · refine J_iload_n Y 3 dX5_evening_21 rfl rfl ?_
      refine J_bipush (v := (10 : Int32)) Y dX5_evening_22 (by decide) ?_
      refine J_bipush (v := (9 : Int32)) Y dX5_evening_24 (by decide) ?_
      refine J_aload_n Y 1 dX5_evening_26 rfl rfl ?_
      refine M_get 0 X (by decide) rfl wfl_RX5_75 rfl dX5_evening_27 ?_
      refine J_iadd Y dX5_evening_30 ?_
      refine M_cSi (As := [.int v2, .int (10 : Int32), .int ((9 : Int32) + (gs 50 0 t15))]) (st := []) rfl X (c_X5_in G v2 (10 : Int32) ((9 : Int32) + (gs 50 0 t15)) _) wi_X5_in wst_X5_in wml_RX5_78 ⟨Nat.le_of_ble_eq_true rfl, Nat.le_of_ble_eq_true rfl⟩ rfl (Nat.le_of_ble_eq_true rfl) dX5_evening_31 (fun y31 t31 => ?_)
      refine J_if_ne (tgt := 56) Y dX5_evening_34 (by decide) ?_ ?_
      · refine J_sub [1, 2, 3] rfl ?_
        exact j_X5_evening_L56 X v1 v2 t31
      · refine J_iload_n Y 3 dX5_evening_37 rfl rfl ?_
        refine J_bipush (v := (20 : Int32)) Y dX5_evening_38 (by decide) ?_
        refine J_bipush (v := (19 : Int32)) Y dX5_evening_40 (by decide) ?_
        refine J_aload_n Y 1 dX5_evening_42 rfl rfl ?_
        refine M_get 0 X (by decide) rfl wfl_RX5_75 rfl dX5_evening_43 ?_
        refine J_iadd Y dX5_evening_46 ?_
        refine M_cSi (As := [.int v2, .int (20 : Int32), .int ((19 : Int32) + (gs 50 0 t31))]) (st := []) rfl X (c_X5_in G v2 (20 : Int32) ((19 : Int32) + (gs 50 0 t31)) _) wi_X5_in wst_X5_in wml_RX5_78 ⟨Nat.le_of_ble_eq_true rfl, Nat.le_of_ble_eq_true rfl⟩ rfl (Nat.le_of_ble_eq_true rfl) dX5_evening_47 (fun y47 t47 => ?_)
        refine J_if_ne (tgt := 56) Y dX5_evening_50 (by decide) ?_ ?_
        · refine J_sub [1, 2, 3] rfl ?_
          exact j_X5_evening_L56 X v1 v2 t47
        · refine J_bipush (v := (-7 : Int32)) Y dX5_evening_53 (by decide) ?_
          exact J_ireturn Y dX5_evening_55
  · refine J_iload_n Y 0 dX5_evening_10 rfl rfl ?_
    exact J_ireturn Y dX5_evening_11
theorem c_X5_evening (G : JG) (v1 : Int32) (v2 : Int32) (σ : ST) : Con (VM G) vI G.1 yX5_evening cX5_evening 5 (some .int) 7 280 [.ref (gO G 50), .int v1, .int v2] σ (f_X5_evening v1 v2 σ) :=
  Con_of (VM_ok G) (by decide +kernel) (Nat.le_of_ble_eq_true rfl) (fun E e1 e2 _ X => j_X5_evening ⟨X, e1, e2⟩ v1 v2 σ)
set_option maxRecDepth 100000 in
set_option maxHeartbeats 4000000 in
theorem j_X5_spend {E : JE} {G : JG} (X : JM E 3 cX5_spend RX5 (some .int) 7 280 G) (v1 : Int32) (σ : ST) : Jg E 3 (JF E vI) [(0, .ref (gO G 50)), (1, .int v1)] 0 [] σ (f_X5_spend v1 σ) := by
  have Y := X.1
  unfold f_X5_spend
  refine J_aload_n Y 0 dX5_spend_0 rfl rfl ?_
  refine J_iload_n Y 1 dX5_spend_1 rfl rfl ?_
  refine M_cVi (As := [.int v1]) (st := []) rfl X (c_X5_eveningWrong G v1 _) wi_X5_eveningWrong win_X5_eveningWrong wse_X5_eveningWrong wml_RX5_211 ⟨Nat.le_of_ble_eq_true rfl, Nat.le_of_ble_eq_true rfl⟩ rfl (Nat.le_of_ble_eq_true rfl) dX5_spend_2 (fun y2 t2 => ?_)
  refine J_istore_n [(2, .int y2), (0, .ref (gO G 50)), (1, .int v1)] Y dX5_spend_5 rfl (by decide) rfl ?_
  refine J_iload_n Y 0 dX5_spend_6 rfl rfl ?_
  refine J_if_eq (tgt := 12) Y dX5_spend_7 (by decide) ?_ ?_
  · refine J_aload_n Y 1 dX5_spend_12 rfl rfl ?_
    refine M_get 4 X (by decide) rfl wfl_RX5_86 rfl dX5_spend_13 ?_
    refine J_aload_n Y 1 dX5_spend_16 rfl rfl ?_
    refine M_get 15 X (by decide) rfl wfl_RX5_37 rfl dX5_spend_17 ?_
    refine J_iload_n Y 2 dX5_spend_20 rfl rfl ?_
    refine M_ald X (mA_15 G _) dX5_spend_21 (fun x21 => ?_)
    refine J_iadd Y dX5_spend_22 ?_
    refine J_sipush (v := (999 : Int32)) Y dX5_spend_23 (by decide) ?_
    refine J_icmp_le (tgt := 32) Y dX5_spend_26 (by decide) ?_ ?_
    · refine J_aload_n Y 1 dX5_spend_32 rfl rfl ?_
      refine J_iload_n Y 2 dX5_spend_33 rfl rfl ?_
      refine M_cVv (As := [.int v1]) (st := []) rfl X (c_X5_goes G v1 _) wi_X5_goes win_X5_goes wse_X5_goes wml_RX5_217 ⟨Nat.le_of_ble_eq_true rfl, Nat.le_of_ble_eq_true rfl⟩ rfl (Nat.le_of_ble_eq_true rfl) dX5_spend_34 (fun t34 => ?_)
      refine J_aload_n Y 1 dX5_spend_37 rfl rfl ?_
      refine M_get 30 X (by decide) rfl wfl_RX5_61 rfl dX5_spend_38 ?_
      refine J_iconst (v := (0 : Int32)) Y dX5_spend_41 (by decide) ?_
      refine M_ald X (mA_30 G _) dX5_spend_42 (fun x42 => ?_)
      exact J_ireturn Y dX5_spend_43
    · refine J_bipush (v := (-3 : Int32)) Y dX5_spend_29 (by decide) ?_
      exact J_ireturn Y dX5_spend_31
  · refine J_iload_n Y 0 dX5_spend_10 rfl rfl ?_
    exact J_ireturn Y dX5_spend_11
theorem c_X5_spend (G : JG) (v1 : Int32) (σ : ST) : Con (VM G) vI G.1 yX5_spend cX5_spend 3 (some .int) 7 280 [.ref (gO G 50), .int v1] σ (f_X5_spend v1 σ) :=
  Con_of (VM_ok G) (by decide +kernel) (Nat.le_of_ble_eq_true rfl) (fun E e1 e2 _ X => j_X5_spend ⟨X, e1, e2⟩ v1 σ)
set_option maxRecDepth 100000 in
set_option maxHeartbeats 4000000 in
theorem j_X5_addsGrain_L62 {E : JE} {G : JG} (X : JM E 5 cX5_addsGrain RX5 none 0 0 G) {k3 : Int32 → Int32 → Int32 → ST → Option (Unit × ST)} (hk3 : ∀ (v1 : Int32) (v2 : Int32) (v3 : Int32) (σ : ST), Jg E 5 (JF E vV) [(0, .ref (gO G 50)), (1, .int v1), (2, .int v2), (3, .int v3)] 3 [] σ (k3 v1 v2 v3 σ)) (v1 : Int32) (v2 : Int32) (v3 : Int32) (σ : ST) : Jg E 5 (JF E vV) [(0, .ref (gO G 50)), (1, .int v1), (2, .int v2), (3, .int v3)] 62 [] σ (f_X5_addsGrain_L62 k3 v1 v2 v3 σ) := by
  have Y := X.1
  unfold f_X5_addsGrain_L62
  refine J_iinc (v := v3 + (-1 : Int32)) [(3, .int (v3 + (-1 : Int32))), (0, .ref (gO G 50)), (1, .int v1), (2, .int v2)] Y 3 dX5_addsGrain_62 rfl (congrArg (fun z => _ + z) (by decide)) (by decide) rfl ?_
  refine J_goto (tgt := 3) Y dX5_addsGrain_65 (by decide) ?_
  refine J_sub [1, 2, 3, 0] rfl ?_
  exact hk3 v1 v2 (v3 + (-1 : Int32)) σ
set_option maxRecDepth 100000 in
set_option maxHeartbeats 4000000 in
theorem j_X5_addsGrain_L61 {E : JE} {G : JG} (X : JM E 5 cX5_addsGrain RX5 none 0 0 G) {k3 : Int32 → Int32 → Int32 → ST → Option (Unit × ST)} (hk3 : ∀ (v1 : Int32) (v2 : Int32) (v3 : Int32) (σ : ST), Jg E 5 (JF E vV) [(0, .ref (gO G 50)), (1, .int v1), (2, .int v2), (3, .int v3)] 3 [] σ (k3 v1 v2 v3 σ)) (v1 : Int32) (v2 : Int32) (v3 : Int32) (s0 : Int32) (s1 : Int32) (σ : ST) : Jg E 5 (JF E vV) [(0, .ref (gO G 50)), (1, .int v1), (2, .int v2), (3, .int v3)] 61 [.int s0, .int s1, .ref (gA G 50 31)] σ (f_X5_addsGrain_L61 k3 v1 v2 v3 s0 s1 σ) := by
  have Y := X.1
  unfold f_X5_addsGrain_L61
  refine M_ast X (mA_31 G _) (mS_31 G _) dX5_addsGrain_61 (fun t61 => ?_)
  exact j_X5_addsGrain_L62 X hk3 v1 v2 v3 t61
set_option maxRecDepth 100000 in
set_option maxHeartbeats 4000000 in
theorem j_X5_addsGrain_L3 {E : JE} {G : JG} (X : JM E 5 cX5_addsGrain RX5 none 0 0 G) : ∀ (n : Nat) (v1 : Int32) (v2 : Int32) (v3 : Int32) (σ : ST), Jg E 5 (JF E vV) [(0, .ref (gO G 50)), (1, .int v1), (2, .int v2), (3, .int v3)] 3 [] σ (f_X5_addsGrain_L3 n v1 v2 v3 σ) := by
  have Y := X.1
  intro n
  induction n with
  | zero => intro v1 v2 v3 σ; rw [f_X5_addsGrain_L3]; exact J_none
  | succ n ih =>
    intro v1 v2 v3 σ
    rw [f_X5_addsGrain_L3]
    refine J_iload_n Y 3 dX5_addsGrain_3 rfl rfl ?_
    refine J_iload_n Y 1 dX5_addsGrain_4 rfl rfl ?_
    refine J_icmp_lt (tgt := 68) Y dX5_addsGrain_5 (by decide) ?_ ?_
    · exact J_return Y dX5_addsGrain_68
    · refine J_aload_n Y 0 dX5_addsGrain_8 rfl rfl ?_
      refine M_get 31 X (by decide) rfl wfl_RX5_64 rfl dX5_addsGrain_9 ?_
      refine J_iload_n Y 3 dX5_addsGrain_12 rfl rfl ?_
      refine J_iload_n Y 1 dX5_addsGrain_13 rfl rfl ?_
      refine J_isub Y dX5_addsGrain_14 ?_
      refine M_ald X (mA_31 G _) dX5_addsGrain_15 (fun x15 => ?_)
      refine J_sipush (v := (-9999 : Int32)) Y dX5_addsGrain_16 (by decide) ?_
      refine J_icmp_le (tgt := 62) Y dX5_addsGrain_19 (by decide) ?_ ?_
      · exact j_X5_addsGrain_L62 X (fun v1 v2 v3 σ => ih v1 v2 v3 σ) v1 v2 v3 σ
      · refine J_aload_n Y 0 dX5_addsGrain_22 rfl rfl ?_
        refine M_get 31 X (by decide) rfl wfl_RX5_64 rfl dX5_addsGrain_23 ?_
        refine J_iload_n Y 3 dX5_addsGrain_26 rfl rfl ?_
        refine J_iload_n Y 1 dX5_addsGrain_27 rfl rfl ?_
        refine J_isub Y dX5_addsGrain_28 ?_
        refine M_ald X (mA_31 G _) dX5_addsGrain_29 (fun x29 => ?_)
        refine J_iload_n Y 2 dX5_addsGrain_30 rfl rfl ?_
        refine J_iadd Y dX5_addsGrain_31 ?_
        refine J_istore [(4, .int (x29 + v2)), (0, .ref (gO G 50)), (1, .int v1), (2, .int v2), (3, .int v3)] Y dX5_addsGrain_32 (by decide) rfl ?_
        refine J_aload_n Y 1 dX5_addsGrain_34 rfl rfl ?_
        refine M_get 31 X (by decide) rfl wfl_RX5_64 rfl dX5_addsGrain_35 ?_
        refine J_iload_n Y 4 dX5_addsGrain_38 rfl rfl ?_
        refine J_iload Y 0 dX5_addsGrain_39 rfl ?_
        refine J_aload_n Y 1 dX5_addsGrain_41 rfl rfl ?_
        refine M_get 31 X (by decide) rfl wfl_RX5_64 rfl dX5_addsGrain_42 ?_
        refine J_iload_n Y 4 dX5_addsGrain_45 rfl rfl ?_
        refine M_ald X (mA_31 G _) dX5_addsGrain_46 (fun x46 => ?_)
        refine J_icmp_le (tgt := 55) Y dX5_addsGrain_47 (by decide) ?_ ?_
        · refine J_aload_n Y 1 dX5_addsGrain_55 rfl rfl ?_
          refine M_get 31 X (by decide) rfl wfl_RX5_64 rfl dX5_addsGrain_56 ?_
          refine J_iload_n Y 4 dX5_addsGrain_59 rfl rfl ?_
          refine M_ald X (mA_31 G _) dX5_addsGrain_60 (fun x60 => ?_)
          refine J_sub [1, 2, 3, 4] rfl ?_
          exact j_X5_addsGrain_L61 X (fun v1 v2 v3 σ => ih v1 v2 v3 σ) v1 v2 v3 x60 v3 σ
        · refine J_iload Y 0 dX5_addsGrain_50 rfl ?_
          refine J_goto (tgt := 61) Y dX5_addsGrain_52 (by decide) ?_
          refine J_sub [1, 2, 3, 4] rfl ?_
          exact j_X5_addsGrain_L61 X (fun v1 v2 v3 σ => ih v1 v2 v3 σ) v1 v2 v3 (x29 + v2) v3 σ
set_option maxRecDepth 100000 in
set_option maxHeartbeats 4000000 in
theorem j_X5_addsGrain {E : JE} {G : JG} (X : JM E 5 cX5_addsGrain RX5 none 0 0 G) (v1 : Int32) (v2 : Int32) (σ : ST) : Jg E 5 (JF E vV) [(0, .ref (gO G 50)), (1, .int v1), (2, .int v2)] 0 [] σ (f_X5_addsGrain v1 v2 σ) := by
  have Y := X.1
  unfold f_X5_addsGrain
  refine J_bipush (v := (60 : Int32)) Y dX5_addsGrain_0 (by decide) ?_
  refine J_istore_n [(3, .int (60 : Int32)), (0, .ref (gO G 50)), (1, .int v1), (2, .int v2)] Y dX5_addsGrain_2 rfl (by decide) rfl ?_
  refine J_sub [1, 2, 3, 0] rfl ?_
  exact j_X5_addsGrain_L3 X 1000 v1 v2 (60 : Int32) σ
theorem c_X5_addsGrain (G : JG) (v1 : Int32) (v2 : Int32) (σ : ST) : Con (VM G) vV G.1 yX5_addsGrain cX5_addsGrain 5 none 0 0 [.ref (gO G 50), .int v1, .int v2] σ (f_X5_addsGrain v1 v2 σ) :=
  Con_of (VM_ok G) (by decide +kernel) (Nat.le_of_ble_eq_true rfl) (fun E e1 e2 _ X => j_X5_addsGrain ⟨X, e1, e2⟩ v1 v2 σ)
set_option maxRecDepth 100000 in
set_option maxHeartbeats 4000000 in
theorem j_X5_plan_L30 {E : JE} {G : JG} (X : JM E 8 cX5_plan RX5 (some .int) 4 160 G) (σ : ST) : Jg E 8 (JF E vI) [] 30 [] σ (f_X5_plan_L30 σ) := by
  have Y := X.1
  unfold f_X5_plan_L30
  refine J_bipush (v := (-7 : Int32)) Y dX5_plan_30 (by decide) ?_
  exact J_ireturn Y dX5_plan_32
set_option maxRecDepth 100000 in
set_option maxHeartbeats 4000000 in
theorem j_X5_plan_L61 {E : JE} {G : JG} (X : JM E 8 cX5_plan RX5 (some .int) 4 160 G) {k36 : Int32 → Int32 → Int32 → Int32 → ST → Option (Int32 × ST)} (hk36 : ∀ (v1 : Int32) (v2 : Int32) (v3 : Int32) (v4 : Int32) (σ : ST), Jg E 8 (JF E vI) [(0, .ref (gO G 50)), (1, .int v1), (2, .int v2), (3, .int v3), (4, .int v4)] 36 [] σ (k36 v1 v2 v3 v4 σ)) (v1 : Int32) (v2 : Int32) (v3 : Int32) (v4 : Int32) (s0 : Int32) (s1 : Int32) (σ : ST) : Jg E 8 (JF E vI) [(0, .ref (gO G 50)), (1, .int v1), (2, .int v2), (3, .int v3), (4, .int v4)] 61 [.int s0, .int s1, .ref (gA G 50 31)] σ (f_X5_plan_L61 k36 v1 v2 v3 v4 s0 s1 σ) := by
  have Y := X.1
  unfold f_X5_plan_L61
  refine M_ast X (mA_31 G _) (mS_31 G _) dX5_plan_61 (fun t61 => ?_)
  refine J_iinc (v := v4 + (1 : Int32)) [(4, .int (v4 + (1 : Int32))), (0, .ref (gO G 50)), (1, .int v1), (2, .int v2), (3, .int v3)] Y 4 dX5_plan_62 rfl (congrArg (fun z => _ + z) (by decide)) (by decide) rfl ?_
  refine J_goto (tgt := 36) Y dX5_plan_65 (by decide) ?_
  refine J_sub [1, 2, 3, 4, 0] rfl ?_
  exact hk36 v1 v2 v3 (v4 + (1 : Int32)) t61
set_option maxRecDepth 100000 in
set_option maxHeartbeats 4000000 in
theorem j_X5_plan_L130 {E : JE} {G : JG} (X : JM E 8 cX5_plan RX5 (some .int) 4 160 G) {k71 : Int32 → Int32 → Int32 → Int32 → ST → Option (Int32 × ST)} (hk71 : ∀ (v1 : Int32) (v2 : Int32) (v3 : Int32) (v4 : Int32) (σ : ST), Jg E 8 (JF E vI) [(0, .ref (gO G 50)), (1, .int v1), (2, .int v2), (3, .int v3), (4, .int v4)] 71 [] σ (k71 v1 v2 v3 v4 σ)) (v1 : Int32) (v2 : Int32) (v3 : Int32) (v4 : Int32) (σ : ST) : Jg E 8 (JF E vI) [(0, .ref (gO G 50)), (1, .int v1), (2, .int v2), (3, .int v3), (4, .int v4)] 130 [] σ (f_X5_plan_L130 k71 v1 v2 v3 v4 σ) := by
  have Y := X.1
  unfold f_X5_plan_L130
  refine J_iinc (v := v4 + (1 : Int32)) [(4, .int (v4 + (1 : Int32))), (0, .ref (gO G 50)), (1, .int v1), (2, .int v2), (3, .int v3)] Y 4 dX5_plan_130 rfl (congrArg (fun z => _ + z) (by decide)) (by decide) rfl ?_
  refine J_goto (tgt := 71) Y dX5_plan_133 (by decide) ?_
  refine J_sub [1, 2, 3, 4, 0] rfl ?_
  exact hk71 v1 v2 v3 (v4 + (1 : Int32)) σ
set_option maxRecDepth 100000 in
set_option maxHeartbeats 4000000 in
theorem j_X5_plan_L99 {E : JE} {G : JG} (X : JM E 8 cX5_plan RX5 (some .int) 4 160 G) {k71 : Int32 → Int32 → Int32 → Int32 → ST → Option (Int32 × ST)} (hk71 : ∀ (v1 : Int32) (v2 : Int32) (v3 : Int32) (v4 : Int32) (σ : ST), Jg E 8 (JF E vI) [(0, .ref (gO G 50)), (1, .int v1), (2, .int v2), (3, .int v3), (4, .int v4)] 71 [] σ (k71 v1 v2 v3 v4 σ)) : ∀ (n : Nat) (v1 : Int32) (v2 : Int32) (v3 : Int32) (v4 : Int32) (v5 : Int32) (v6 : Int32) (v7 : Int32) (σ : ST), Jg E 8 (JF E vI) [(0, .ref (gO G 50)), (1, .int v1), (2, .int v2), (3, .int v3), (4, .int v4), (5, .int v5), (6, .int v6), (7, .int v7)] 99 [] σ (f_X5_plan_L99 n k71 v1 v2 v3 v4 v5 v6 v7 σ) := by
  have Y := X.1
  intro n
  induction n with
  | zero => intro v1 v2 v3 v4 v5 v6 v7 σ; rw [f_X5_plan_L99]; exact J_none
  | succ n ih =>
    intro v1 v2 v3 v4 v5 v6 v7 σ
    rw [f_X5_plan_L99]
    refine J_iload Y 7 dX5_plan_99 rfl ?_
    refine J_aload_n Y 0 dX5_plan_101 rfl rfl ?_
    refine M_get 3 X (by decide) rfl wfl_RX5_16 rfl dX5_plan_102 ?_
    refine J_bipush (v := (12 : Int32)) Y dX5_plan_105 (by decide) ?_
    refine J_iload_n Y 1 dX5_plan_107 rfl rfl ?_
    refine J_imul Y dX5_plan_108 ?_
    refine J_iload Y 4 dX5_plan_109 rfl ?_
    refine J_iadd Y dX5_plan_111 ?_
    refine M_ald X (mA_3 G _) dX5_plan_112 (fun x112 => ?_)
    refine J_icmp_ge (tgt := 130) Y dX5_plan_113 (by decide) ?_ ?_
    · refine J_sub [0, 1, 2, 3, 4] rfl ?_
      exact j_X5_plan_L130 X hk71 v1 v2 v3 v4 σ
    · refine J_aload_n Y 0 dX5_plan_116 rfl rfl ?_
      refine J_iload Y 5 dX5_plan_117 rfl ?_
      refine J_iload Y 6 dX5_plan_119 rfl ?_
      refine M_cVv (As := [.int v5, .int v6]) (st := []) rfl X (c_X5_addsGrain G v5 v6 _) wi_X5_addsGrain win_X5_addsGrain wse_X5_addsGrain wml_RX5_223 ⟨Nat.le_of_ble_eq_true rfl, Nat.le_of_ble_eq_true rfl⟩ rfl (Nat.le_of_ble_eq_true rfl) dX5_plan_121 (fun t121 => ?_)
      refine J_iinc (v := v7 + (1 : Int32)) [(7, .int (v7 + (1 : Int32))), (0, .ref (gO G 50)), (1, .int v1), (2, .int v2), (3, .int v3), (4, .int v4), (5, .int v5), (6, .int v6)] Y 7 dX5_plan_124 rfl (congrArg (fun z => _ + z) (by decide)) (by decide) rfl ?_
      refine J_goto (tgt := 99) Y dX5_plan_127 (by decide) ?_
      refine J_sub [1, 2, 3, 4, 5, 6, 7, 0] rfl ?_
      exact ih v1 v2 v3 v4 v5 v6 (v7 + (1 : Int32)) t121
set_option maxRecDepth 100000 in
set_option maxHeartbeats 4000000 in
theorem j_X5_plan_L172 {E : JE} {G : JG} (X : JM E 8 cX5_plan RX5 (some .int) 4 160 G) {k142 : Int32 → Int32 → Int32 → Int32 → ST → Option (Int32 × ST)} (hk142 : ∀ (v2 : Int32) (v3 : Int32) (v4 : Int32) (v5 : Int32) (σ : ST), Jg E 8 (JF E vI) [(0, .ref (gO G 50)), (2, .int v2), (3, .int v3), (4, .int v4), (5, .int v5)] 142 [] σ (k142 v2 v3 v4 v5 σ)) (v2 : Int32) (v3 : Int32) (v5 : Int32) (s0 : Int32) (σ : ST) : Jg E 8 (JF E vI) [(0, .ref (gO G 50)), (2, .int v2), (3, .int v3), (5, .int v5)] 172 [.int s0] σ (f_X5_plan_L172 k142 v2 v3 v5 s0 σ) := by
  have Y := X.1
  unfold f_X5_plan_L172
  refine J_istore [(4, .int s0), (0, .ref (gO G 50)), (2, .int v2), (3, .int v3), (5, .int v5)] Y dX5_plan_172 (by decide) rfl ?_
  refine J_iinc (v := v5 + (1 : Int32)) [(5, .int (v5 + (1 : Int32))), (4, .int s0), (0, .ref (gO G 50)), (2, .int v2), (3, .int v3)] Y 4 dX5_plan_174 rfl (congrArg (fun z => _ + z) (by decide)) (by decide) rfl ?_
  refine J_goto (tgt := 142) Y dX5_plan_177 (by decide) ?_
  refine J_sub [2, 3, 4, 1, 0] rfl ?_
  exact hk142 v2 v3 s0 (v5 + (1 : Int32)) σ
set_option maxRecDepth 100000 in
set_option maxHeartbeats 4000000 in
theorem j_X5_plan_L196 {E : JE} {G : JG} (X : JM E 8 cX5_plan RX5 (some .int) 4 160 G) (s0 : Int32) (σ : ST) : Jg E 8 (JF E vI) [] 196 [.int s0] σ (f_X5_plan_L196 s0 σ) := by
  have Y := X.1
  unfold f_X5_plan_L196
  exact J_ireturn Y dX5_plan_196
set_option maxRecDepth 100000 in
set_option maxHeartbeats 4000000 in
theorem j_X5_plan_L180 {E : JE} {G : JG} (X : JM E 8 cX5_plan RX5 (some .int) 4 160 G) (v3 : Int32) (v4 : Int32) (σ : ST) : Jg E 8 (JF E vI) [(0, .ref (gO G 50)), (3, .int v3), (4, .int v4)] 180 [] σ (f_X5_plan_L180 v3 v4 σ) := by
  have Y := X.1
  unfold f_X5_plan_L180
  refine J_iload_n Y 1 dX5_plan_180 rfl rfl ?_
  refine J_if_ne (tgt := 194) Y dX5_plan_181 (by decide) ?_ ?_
  · refine J_iload Y 2 dX5_plan_194 rfl ?_
    refine J_sub [] rfl ?_
    exact j_X5_plan_L196 X v4 σ
  · refine J_aload_n Y 0 dX5_plan_184 rfl rfl ?_
    refine M_get 31 X (by decide) rfl wfl_RX5_64 rfl dX5_plan_185 ?_
    refine J_iload Y 2 dX5_plan_188 rfl ?_
    refine M_ald X (mA_31 G _) dX5_plan_190 (fun x190 => ?_)
    refine J_goto (tgt := 196) Y dX5_plan_191 (by decide) ?_
    refine J_sub [] rfl ?_
    exact j_X5_plan_L196 X x190 σ
set_option maxRecDepth 100000 in
set_option maxHeartbeats 4000000 in
theorem j_X5_plan_L142 {E : JE} {G : JG} (X : JM E 8 cX5_plan RX5 (some .int) 4 160 G) : ∀ (n : Nat) (v2 : Int32) (v3 : Int32) (v4 : Int32) (v5 : Int32) (σ : ST), Jg E 8 (JF E vI) [(0, .ref (gO G 50)), (2, .int v2), (3, .int v3), (4, .int v4), (5, .int v5)] 142 [] σ (f_X5_plan_L142 n v2 v3 v4 v5 σ) := by
  have Y := X.1
  intro n
  induction n with
  | zero => intro v2 v3 v4 v5 σ; rw [f_X5_plan_L142]; exact J_none
  | succ n ih =>
    intro v2 v3 v4 v5 σ
    rw [f_X5_plan_L142]
    refine J_iload Y 4 dX5_plan_142 rfl ?_
    refine J_iload_n Y 1 dX5_plan_144 rfl rfl ?_
    refine J_icmp_gt (tgt := 180) Y dX5_plan_145 (by decide) ?_ ?_
    · refine J_sub [0, 2, 3] rfl ?_
      exact j_X5_plan_L180 X v3 v4 σ
    · refine J_aload_n Y 0 dX5_plan_148 rfl rfl ?_
      refine M_get 31 X (by decide) rfl wfl_RX5_64 rfl dX5_plan_149 ?_
      refine J_iload Y 4 dX5_plan_152 rfl ?_
      refine M_ald X (mA_31 G _) dX5_plan_154 (fun x154 => ?_)
      refine J_aload_n Y 0 dX5_plan_155 rfl rfl ?_
      refine M_get 31 X (by decide) rfl wfl_RX5_64 rfl dX5_plan_156 ?_
      refine J_iload Y 3 dX5_plan_159 rfl ?_
      refine M_ald X (mA_31 G _) dX5_plan_161 (fun x161 => ?_)
      refine J_icmp_le (tgt := 170) Y dX5_plan_162 (by decide) ?_ ?_
      · refine J_iload Y 3 dX5_plan_170 rfl ?_
        refine J_sub [0, 1, 2, 4] rfl ?_
        exact j_X5_plan_L172 X (fun v2 v3 v4 v5 σ => ih v2 v3 v4 v5 σ) v2 v3 v5 v4 σ
      · refine J_iload Y 4 dX5_plan_165 rfl ?_
        refine J_goto (tgt := 172) Y dX5_plan_167 (by decide) ?_
        refine J_sub [0, 1, 2, 4] rfl ?_
        exact j_X5_plan_L172 X (fun v2 v3 v4 v5 σ => ih v2 v3 v4 v5 σ) v2 v3 v5 v5 σ
set_option maxRecDepth 100000 in
set_option maxHeartbeats 4000000 in
theorem j_X5_plan_L136 {E : JE} {G : JG} (X : JM E 8 cX5_plan RX5 (some .int) 4 160 G) (v2 : Int32) (v3 : Int32) (σ : ST) : Jg E 8 (JF E vI) [(0, .ref (gO G 50)), (2, .int v2), (3, .int v3)] 136 [] σ (f_X5_plan_L136 v2 v3 σ) := by
  have Y := X.1
  unfold f_X5_plan_L136
  refine J_iconst (v := (0 : Int32)) Y dX5_plan_136 (by decide) ?_
  refine J_istore [(4, .int (0 : Int32)), (0, .ref (gO G 50)), (2, .int v2), (3, .int v3)] Y dX5_plan_137 (by decide) rfl ?_
  refine J_iconst (v := (1 : Int32)) Y dX5_plan_139 (by decide) ?_
  refine J_istore [(5, .int (1 : Int32)), (4, .int (0 : Int32)), (0, .ref (gO G 50)), (2, .int v2), (3, .int v3)] Y dX5_plan_140 (by decide) rfl ?_
  refine J_sub [2, 3, 4, 1, 0] rfl ?_
  exact j_X5_plan_L142 X 1000 v2 v3 (0 : Int32) (1 : Int32) σ
set_option maxRecDepth 100000 in
set_option maxHeartbeats 4000000 in
theorem j_X5_plan_L71 {E : JE} {G : JG} (X : JM E 8 cX5_plan RX5 (some .int) 4 160 G) : ∀ (n : Nat) (v1 : Int32) (v2 : Int32) (v3 : Int32) (v4 : Int32) (σ : ST), Jg E 8 (JF E vI) [(0, .ref (gO G 50)), (1, .int v1), (2, .int v2), (3, .int v3), (4, .int v4)] 71 [] σ (f_X5_plan_L71 n v1 v2 v3 v4 σ) := by
  have Y := X.1
  intro n
  induction n with
  | zero => intro v1 v2 v3 v4 σ; rw [f_X5_plan_L71]; exact J_none
  | succ n ih =>
    intro v1 v2 v3 v4 σ
    rw [f_X5_plan_L71]
    refine J_iload Y 4 dX5_plan_71 rfl ?_
    refine J_bipush (v := (8 : Int32)) Y dX5_plan_73 (by decide) ?_
    refine J_icmp_ge (tgt := 136) Y dX5_plan_75 (by decide) ?_ ?_
    · refine J_sub [0, 2, 3] rfl ?_
      exact j_X5_plan_L136 X v2 v3 σ
    · refine J_aload_n Y 0 dX5_plan_78 rfl rfl ?_
      refine J_iload_n Y 1 dX5_plan_79 rfl rfl ?_
      refine J_iload Y 4 dX5_plan_80 rfl ?_
      refine M_cVi (As := [.int v1, .int v4]) (st := []) rfl X (c_X5_goneOf G v1 v4 _) wi_X5_goneOf win_X5_goneOf wse_X5_goneOf wml_RX5_183 ⟨Nat.le_of_ble_eq_true rfl, Nat.le_of_ble_eq_true rfl⟩ rfl (Nat.le_of_ble_eq_true rfl) dX5_plan_82 (fun y82 t82 => ?_)
      refine J_istore [(5, .int y82), (0, .ref (gO G 50)), (1, .int v1), (2, .int v2), (3, .int v3), (4, .int v4)] Y dX5_plan_85 (by decide) rfl ?_
      refine J_aload_n Y 1 dX5_plan_87 rfl rfl ?_
      refine J_iload_n Y 2 dX5_plan_88 rfl rfl ?_
      refine J_iload Y 5 dX5_plan_89 rfl ?_
      refine M_cVi (As := [.int v1, .int v4]) (st := []) rfl X (c_X5_gainsOf G v1 v4 _) wi_X5_gainsOf win_X5_gainsOf wse_X5_gainsOf wml_RX5_186 ⟨Nat.le_of_ble_eq_true rfl, Nat.le_of_ble_eq_true rfl⟩ rfl (Nat.le_of_ble_eq_true rfl) dX5_plan_91 (fun y91 t91 => ?_)
      refine J_istore [(6, .int y91), (5, .int y82), (0, .ref (gO G 50)), (1, .int v1), (2, .int v2), (3, .int v3), (4, .int v4)] Y dX5_plan_94 (by decide) rfl ?_
      refine J_iconst (v := (0 : Int32)) Y dX5_plan_96 (by decide) ?_
      refine J_istore [(7, .int (0 : Int32)), (6, .int y91), (5, .int y82), (0, .ref (gO G 50)), (1, .int v1), (2, .int v2), (3, .int v3), (4, .int v4)] Y dX5_plan_97 (by decide) rfl ?_
      refine J_sub [3, 4, 5, 6, 7, 2, 1, 0] rfl ?_
      exact j_X5_plan_L99 X (fun v1 v2 v3 v4 σ => ih v1 v2 v3 v4 σ) 1000 v1 v2 v3 v4 y82 y91 (0 : Int32) t91
set_option maxRecDepth 100000 in
set_option maxHeartbeats 4000000 in
theorem j_X5_plan_L68 {E : JE} {G : JG} (X : JM E 8 cX5_plan RX5 (some .int) 4 160 G) (v1 : Int32) (v2 : Int32) (v3 : Int32) (σ : ST) : Jg E 8 (JF E vI) [(0, .ref (gO G 50)), (1, .int v1), (2, .int v2), (3, .int v3)] 68 [] σ (f_X5_plan_L68 v1 v2 v3 σ) := by
  have Y := X.1
  unfold f_X5_plan_L68
  refine J_iconst (v := (0 : Int32)) Y dX5_plan_68 (by decide) ?_
  refine J_istore [(4, .int (0 : Int32)), (0, .ref (gO G 50)), (1, .int v1), (2, .int v2), (3, .int v3)] Y dX5_plan_69 (by decide) rfl ?_
  refine J_sub [1, 2, 3, 4, 0] rfl ?_
  exact j_X5_plan_L71 X 1000 v1 v2 v3 (0 : Int32) σ
set_option maxRecDepth 100000 in
set_option maxHeartbeats 4000000 in
theorem j_X5_plan_L36 {E : JE} {G : JG} (X : JM E 8 cX5_plan RX5 (some .int) 4 160 G) : ∀ (n : Nat) (v1 : Int32) (v2 : Int32) (v3 : Int32) (v4 : Int32) (σ : ST), Jg E 8 (JF E vI) [(0, .ref (gO G 50)), (1, .int v1), (2, .int v2), (3, .int v3), (4, .int v4)] 36 [] σ (f_X5_plan_L36 n v1 v2 v3 v4 σ) := by
  have Y := X.1
  intro n
  induction n with
  | zero => intro v1 v2 v3 v4 σ; rw [f_X5_plan_L36]; exact J_none
  | succ n ih =>
    intro v1 v2 v3 v4 σ
    rw [f_X5_plan_L36]
    refine J_iload Y 4 dX5_plan_36 rfl ?_
    refine J_bipush (v := (60 : Int32)) Y dX5_plan_38 (by decide) ?_
    refine J_icmp_gt (tgt := 68) Y dX5_plan_40 (by decide) ?_ ?_
    · refine J_sub [0, 1, 2, 3] rfl ?_
      exact j_X5_plan_L68 X v1 v2 v3 σ
    · refine J_aload_n Y 0 dX5_plan_43 rfl rfl ?_
      refine M_get 31 X (by decide) rfl wfl_RX5_64 rfl dX5_plan_44 ?_
      refine J_iload Y 4 dX5_plan_47 rfl ?_
      refine J_iload Y 4 dX5_plan_49 rfl ?_
      refine J_if_ne (tgt := 58) Y dX5_plan_51 (by decide) ?_ ?_
      · refine J_sipush (v := (-9999 : Int32)) Y dX5_plan_58 (by decide) ?_
        exact j_X5_plan_L61 X (fun v1 v2 v3 v4 σ => ih v1 v2 v3 v4 σ) v1 v2 v3 v4 (-9999 : Int32) v4 σ
      · refine J_iconst (v := (0 : Int32)) Y dX5_plan_54 (by decide) ?_
        refine J_goto (tgt := 61) Y dX5_plan_55 (by decide) ?_
        exact j_X5_plan_L61 X (fun v1 v2 v3 v4 σ => ih v1 v2 v3 v4 σ) v1 v2 v3 v4 (0 : Int32) v4 σ
set_option maxRecDepth 100000 in
set_option maxHeartbeats 4000000 in
theorem j_X5_plan {E : JE} {G : JG} (X : JM E 8 cX5_plan RX5 (some .int) 4 160 G) (v1 : Int32) (v2 : Int32) (v3 : Int32) (σ : ST) : Jg E 8 (JF E vI) [(0, .ref (gO G 50)), (1, .int v1), (2, .int v2), (3, .int v3)] 0 [] σ (f_X5_plan v1 v2 v3 σ) := by
  have Y := X.1
  unfold f_X5_plan
  refine J_aload_n Y 0 dX5_plan_0 rfl rfl ?_
  refine J_iload_n Y 1 dX5_plan_1 rfl rfl ?_
  refine M_cVi (As := [.int v1]) (st := []) rfl X (c_X5_isOne G v1 _) wi_X5_isOne win_X5_isOne wse_X5_isOne wml_RX5_170 ⟨Nat.le_of_ble_eq_true rfl, Nat.le_of_ble_eq_true rfl⟩ rfl (Nat.le_of_ble_eq_true rfl) dX5_plan_2 (fun y2 t2 => ?_)
  refine J_if_ne (tgt := 11) Y dX5_plan_5 (by decide) ?_ ?_
  · refine J_iload_n Y 2 dX5_plan_11 rfl rfl ?_
    refine J_iconst (v := (0 : Int32)) Y dX5_plan_12 (by decide) ?_
    refine J_bipush (v := (60 : Int32)) Y dX5_plan_13 (by decide) ?_
    refine M_cSi (As := [.int v2, .int (0 : Int32), .int (60 : Int32)]) (st := []) rfl X (c_X5_in G v2 (0 : Int32) (60 : Int32) _) wi_X5_in wst_X5_in wml_RX5_78 ⟨Nat.le_of_ble_eq_true rfl, Nat.le_of_ble_eq_true rfl⟩ rfl (Nat.le_of_ble_eq_true rfl) dX5_plan_15 (fun y15 t15 => ?_)
    refine J_if_eq (tgt := 30) Y dX5_plan_18 (by decide) ?_ ?_
    · refine J_sub [] rfl ?_
      exact j_X5_plan_L30 X  t15
    · refine J_iload_n Y 3 dX5_plan_21 rfl rfl ?_
      refine J_iconst (v := (0 : Int32)) Y dX5_plan_22 (by decide) ?_
      refine J_iconst (v := (1 : Int32)) Y dX5_plan_23 (by decide) ?_
      refine M_cSi (As := [.int v3, .int (0 : Int32), .int (1 : Int32)]) (st := []) rfl X (c_X5_in G v3 (0 : Int32) (1 : Int32) _) wi_X5_in wst_X5_in wml_RX5_78 ⟨Nat.le_of_ble_eq_true rfl, Nat.le_of_ble_eq_true rfl⟩ rfl (Nat.le_of_ble_eq_true rfl) dX5_plan_24 (fun y24 t24 => ?_)
      refine J_if_ne (tgt := 33) Y dX5_plan_27 (by decide) ?_ ?_
      · refine J_iconst (v := (0 : Int32)) Y dX5_plan_33 (by decide) ?_
        refine J_istore [(4, .int (0 : Int32)), (0, .ref (gO G 50)), (1, .int v1), (2, .int v2), (3, .int v3)] Y dX5_plan_34 (by decide) rfl ?_
        refine J_sub [1, 2, 3, 4, 0] rfl ?_
        exact j_X5_plan_L36 X 1000 v1 v2 v3 (0 : Int32) t24
      · refine J_sub [] rfl ?_
        exact j_X5_plan_L30 X  t24
  · refine J_bipush (v := (-5 : Int32)) Y dX5_plan_8 (by decide) ?_
    exact J_ireturn Y dX5_plan_10
theorem c_X5_plan (G : JG) (v1 : Int32) (v2 : Int32) (v3 : Int32) (σ : ST) : Con (VM G) vI G.1 yX5_plan cX5_plan 8 (some .int) 4 160 [.ref (gO G 50), .int v1, .int v2, .int v3] σ (f_X5_plan v1 v2 v3 σ) :=
  Con_of (VM_ok G) (by decide +kernel) (Nat.le_of_ble_eq_true rfl) (fun E e1 e2 _ X => j_X5_plan ⟨X, e1, e2⟩ v1 v2 v3 σ)
set_option maxRecDepth 100000 in
set_option maxHeartbeats 4000000 in
theorem j_X5_which_L132 {E : JE} {G : JG} (X : JM E 8 cX5_which RX5 (some .int) 4 160 G) {k42 : Int32 → Int32 → Int32 → Int32 → Int32 → ST → Option (Int32 × ST)} (hk42 : ∀ (v1 : Int32) (v2 : Int32) (v3 : Int32) (v4 : Int32) (v5 : Int32) (σ : ST), Jg E 8 (JF E vI) [(0, .ref (gO G 50)), (1, .int v1), (2, .int v2), (3, .int v3), (4, .int v4), (5, .int v5)] 42 [] σ (k42 v1 v2 v3 v4 v5 σ)) (v1 : Int32) (v2 : Int32) (v3 : Int32) (v4 : Int32) (v5 : Int32) (σ : ST) : Jg E 8 (JF E vI) [(0, .ref (gO G 50)), (1, .int v1), (2, .int v2), (3, .int v3), (4, .int v4), (5, .int v5)] 132 [] σ (f_X5_which_L132 k42 v1 v2 v3 v4 v5 σ) := by
  have Y := X.1
  unfold f_X5_which_L132
  refine J_iinc (v := v5 + (1 : Int32)) [(5, .int (v5 + (1 : Int32))), (0, .ref (gO G 50)), (1, .int v1), (2, .int v2), (3, .int v3), (4, .int v4)] Y 5 dX5_which_132 rfl (congrArg (fun z => _ + z) (by decide)) (by decide) rfl ?_
  refine J_goto (tgt := 42) Y dX5_which_135 (by decide) ?_
  refine J_sub [1, 2, 3, 4, 5, 0] rfl ?_
  exact hk42 v1 v2 v3 v4 (v5 + (1 : Int32)) σ
set_option maxRecDepth 100000 in
set_option maxHeartbeats 4000000 in
theorem j_X5_which_L130 {E : JE} {G : JG} (X : JM E 8 cX5_which RX5 (some .int) 4 160 G) {k42 : Int32 → Int32 → Int32 → Int32 → Int32 → ST → Option (Int32 × ST)} (hk42 : ∀ (v1 : Int32) (v2 : Int32) (v3 : Int32) (v4 : Int32) (v5 : Int32) (σ : ST), Jg E 8 (JF E vI) [(0, .ref (gO G 50)), (1, .int v1), (2, .int v2), (3, .int v3), (4, .int v4), (5, .int v5)] 42 [] σ (k42 v1 v2 v3 v4 v5 σ)) (v1 : Int32) (v2 : Int32) (v3 : Int32) (v5 : Int32) (s0 : Int32) (σ : ST) : Jg E 8 (JF E vI) [(0, .ref (gO G 50)), (1, .int v1), (2, .int v2), (3, .int v3), (5, .int v5)] 130 [.int s0] σ (f_X5_which_L130 k42 v1 v2 v3 v5 s0 σ) := by
  have Y := X.1
  unfold f_X5_which_L130
  refine J_istore [(4, .int s0), (0, .ref (gO G 50)), (1, .int v1), (2, .int v2), (3, .int v3), (5, .int v5)] Y dX5_which_130 (by decide) rfl ?_
  refine J_sub [1, 2, 3, 4, 0, 5] rfl ?_
  exact j_X5_which_L132 X hk42 v1 v2 v3 s0 v5 σ
set_option maxRecDepth 100000 in
set_option maxHeartbeats 4000000 in
theorem j_X5_which_L117 {E : JE} {G : JG} (X : JM E 8 cX5_which RX5 (some .int) 4 160 G) {k42 : Int32 → Int32 → Int32 → Int32 → Int32 → ST → Option (Int32 × ST)} (hk42 : ∀ (v1 : Int32) (v2 : Int32) (v3 : Int32) (v4 : Int32) (v5 : Int32) (σ : ST), Jg E 8 (JF E vI) [(0, .ref (gO G 50)), (1, .int v1), (2, .int v2), (3, .int v3), (4, .int v4), (5, .int v5)] 42 [] σ (k42 v1 v2 v3 v4 v5 σ)) (v1 : Int32) (v2 : Int32) (v4 : Int32) (v5 : Int32) (v6 : Int32) (v7 : Int32) (s0 : Int32) (σ : ST) : Jg E 8 (JF E vI) [(0, .ref (gO G 50)), (1, .int v1), (2, .int v2), (4, .int v4), (5, .int v5), (6, .int v6), (7, .int v7)] 117 [.int s0] σ (f_X5_which_L117 k42 v1 v2 v4 v5 v6 v7 s0 σ) := by
  have Y := X.1
  unfold f_X5_which_L117
  refine J_istore_n [(3, .int s0), (0, .ref (gO G 50)), (1, .int v1), (2, .int v2), (4, .int v4), (5, .int v5), (6, .int v6), (7, .int v7)] Y dX5_which_117 rfl (by decide) rfl ?_
  refine J_iload Y 7 dX5_which_118 rfl ?_
  refine J_if_eq (tgt := 128) Y dX5_which_120 (by decide) ?_ ?_
  · refine J_iload Y 4 dX5_which_128 rfl ?_
    refine J_sub [1, 2, 3, 0, 5] rfl ?_
    exact j_X5_which_L130 X hk42 v1 v2 s0 v5 v4 σ
  · refine J_iload Y 6 dX5_which_123 rfl ?_
    refine J_goto (tgt := 130) Y dX5_which_125 (by decide) ?_
    refine J_sub [1, 2, 3, 0, 5] rfl ?_
    exact j_X5_which_L130 X hk42 v1 v2 s0 v5 v6 σ
set_option maxRecDepth 100000 in
set_option maxHeartbeats 4000000 in
theorem j_X5_which_L104 {E : JE} {G : JG} (X : JM E 8 cX5_which RX5 (some .int) 4 160 G) {k42 : Int32 → Int32 → Int32 → Int32 → Int32 → ST → Option (Int32 × ST)} (hk42 : ∀ (v1 : Int32) (v2 : Int32) (v3 : Int32) (v4 : Int32) (v5 : Int32) (σ : ST), Jg E 8 (JF E vI) [(0, .ref (gO G 50)), (1, .int v1), (2, .int v2), (3, .int v3), (4, .int v4), (5, .int v5)] 42 [] σ (k42 v1 v2 v3 v4 v5 σ)) (v1 : Int32) (v2 : Int32) (v3 : Int32) (v4 : Int32) (v5 : Int32) (v6 : Int32) (s0 : Int32) (σ : ST) : Jg E 8 (JF E vI) [(0, .ref (gO G 50)), (1, .int v1), (2, .int v2), (3, .int v3), (4, .int v4), (5, .int v5), (6, .int v6)] 104 [.int s0] σ (f_X5_which_L104 k42 v1 v2 v3 v4 v5 v6 s0 σ) := by
  have Y := X.1
  unfold f_X5_which_L104
  refine J_istore [(7, .int s0), (0, .ref (gO G 50)), (1, .int v1), (2, .int v2), (3, .int v3), (4, .int v4), (5, .int v5), (6, .int v6)] Y dX5_which_104 (by decide) rfl ?_
  refine J_iload Y 0 dX5_which_106 rfl ?_
  refine J_if_eq (tgt := 116) Y dX5_which_108 (by decide) ?_ ?_
  · refine J_iload_n Y 4 dX5_which_116 rfl rfl ?_
    refine J_sub [1, 2, 3, 5, 6, 7, 0] rfl ?_
    exact j_X5_which_L117 X hk42 v1 v2 v4 v5 v6 s0 v3 σ
  · refine J_iload Y 6 dX5_which_111 rfl ?_
    refine J_goto (tgt := 117) Y dX5_which_113 (by decide) ?_
    refine J_sub [1, 2, 3, 5, 6, 7, 0] rfl ?_
    exact j_X5_which_L117 X hk42 v1 v2 v4 v5 v6 s0 v5 σ
set_option maxRecDepth 100000 in
set_option maxHeartbeats 4000000 in
theorem j_X5_which_L99 {E : JE} {G : JG} (X : JM E 8 cX5_which RX5 (some .int) 4 160 G) {k42 : Int32 → Int32 → Int32 → Int32 → Int32 → ST → Option (Int32 × ST)} (hk42 : ∀ (v1 : Int32) (v2 : Int32) (v3 : Int32) (v4 : Int32) (v5 : Int32) (σ : ST), Jg E 8 (JF E vI) [(0, .ref (gO G 50)), (1, .int v1), (2, .int v2), (3, .int v3), (4, .int v4), (5, .int v5)] 42 [] σ (k42 v1 v2 v3 v4 v5 σ)) (v1 : Int32) (v2 : Int32) (v3 : Int32) (v4 : Int32) (v5 : Int32) (v6 : Int32) (σ : ST) : Jg E 8 (JF E vI) [(0, .ref (gO G 50)), (1, .int v1), (2, .int v2), (3, .int v3), (4, .int v4), (5, .int v5), (6, .int v6)] 99 [] σ (f_X5_which_L99 k42 v1 v2 v3 v4 v5 v6 σ) := by
  have Y := X.1
  unfold f_X5_which_L99
  refine J_iconst (v := (1 : Int32)) Y dX5_which_99 (by decide) ?_
  refine J_goto (tgt := 104) Y dX5_which_100 (by decide) ?_
  exact j_X5_which_L104 X hk42 v1 v2 v3 v4 v5 v6 (1 : Int32) σ
set_option maxRecDepth 100000 in
set_option maxHeartbeats 4000000 in
theorem j_X5_which_L148 {E : JE} {G : JG} (X : JM E 8 cX5_which RX5 (some .int) 4 160 G) (s0 : Int32) (σ : ST) : Jg E 8 (JF E vI) [] 148 [.int s0] σ (f_X5_which_L148 s0 σ) := by
  have Y := X.1
  unfold f_X5_which_L148
  exact J_ireturn Y dX5_which_148
set_option maxRecDepth 100000 in
set_option maxHeartbeats 4000000 in
theorem j_X5_which_L138 {E : JE} {G : JG} (X : JM E 8 cX5_which RX5 (some .int) 4 160 G) (v2 : Int32) (v3 : Int32) (v4 : Int32) (σ : ST) : Jg E 8 (JF E vI) [(2, .int v2), (3, .int v3), (4, .int v4)] 138 [] σ (f_X5_which_L138 v2 v3 v4 σ) := by
  have Y := X.1
  unfold f_X5_which_L138
  refine J_iload_n Y 0 dX5_which_138 rfl rfl ?_
  refine J_if_ne (tgt := 146) Y dX5_which_139 (by decide) ?_ ?_
  · refine J_iload Y 2 dX5_which_146 rfl ?_
    refine J_sub [] rfl ?_
    exact j_X5_which_L148 X v4 σ
  · refine J_iload_n Y 1 dX5_which_142 rfl rfl ?_
    refine J_goto (tgt := 148) Y dX5_which_143 (by decide) ?_
    refine J_sub [] rfl ?_
    exact j_X5_which_L148 X v3 σ
set_option maxRecDepth 100000 in
set_option maxHeartbeats 4000000 in
theorem j_X5_which_L42 {E : JE} {G : JG} (X : JM E 8 cX5_which RX5 (some .int) 4 160 G) : ∀ (n : Nat) (v1 : Int32) (v2 : Int32) (v3 : Int32) (v4 : Int32) (v5 : Int32) (σ : ST), Jg E 8 (JF E vI) [(0, .ref (gO G 50)), (1, .int v1), (2, .int v2), (3, .int v3), (4, .int v4), (5, .int v5)] 42 [] σ (f_X5_which_L42 n v1 v2 v3 v4 v5 σ) := by
  have Y := X.1
  intro n
  induction n with
  | zero => intro v1 v2 v3 v4 v5 σ; rw [f_X5_which_L42]; exact J_none
  | succ n ih =>
    intro v1 v2 v3 v4 v5 σ
    rw [f_X5_which_L42]
    refine J_iload Y 5 dX5_which_42 rfl ?_
    refine J_bipush (v := (8 : Int32)) Y dX5_which_44 (by decide) ?_
    refine J_icmp_ge (tgt := 138) Y dX5_which_46 (by decide) ?_ ?_
    · refine J_sub [2, 3, 4] rfl ?_
      exact j_X5_which_L138 X v2 v3 v4 σ
    · refine J_aload_n Y 0 dX5_which_49 rfl rfl ?_
      refine J_iload_n Y 1 dX5_which_50 rfl rfl ?_
      refine J_iload Y 5 dX5_which_51 rfl ?_
      refine M_cVi (As := [.int v1, .int v5]) (st := []) rfl X (c_X5_can G v1 v5 _) wi_X5_can win_X5_can wse_X5_can wml_RX5_192 ⟨Nat.le_of_ble_eq_true rfl, Nat.le_of_ble_eq_true rfl⟩ rfl (Nat.le_of_ble_eq_true rfl) dX5_which_53 (fun y53 t53 => ?_)
      refine J_if_eq (tgt := 132) Y dX5_which_56 (by decide) ?_ ?_
      · exact j_X5_which_L132 X (fun v1 v2 v3 v4 v5 σ => ih v1 v2 v3 v4 v5 σ) v1 v2 v3 v4 v5 t53
      · refine J_aload_n Y 0 dX5_which_59 rfl rfl ?_
        refine M_get 3 X (by decide) rfl wfl_RX5_16 rfl dX5_which_60 ?_
        refine J_bipush (v := (12 : Int32)) Y dX5_which_63 (by decide) ?_
        refine J_iload_n Y 1 dX5_which_65 rfl rfl ?_
        refine J_imul Y dX5_which_66 ?_
        refine J_bipush (v := (8 : Int32)) Y dX5_which_67 (by decide) ?_
        refine J_iadd Y dX5_which_69 ?_
        refine M_ald X (mA_3 G _) dX5_which_70 (fun x70 => ?_)
        refine J_aload_n Y 0 dX5_which_71 rfl rfl ?_
        refine J_iload_n Y 1 dX5_which_72 rfl rfl ?_
        refine J_iload Y 5 dX5_which_73 rfl ?_
        refine M_cVi (As := [.int v1, .int v5]) (st := [.int x70]) rfl X (c_X5_gainsOf G v1 v5 _) wi_X5_gainsOf win_X5_gainsOf wse_X5_gainsOf wml_RX5_186 ⟨Nat.le_of_ble_eq_true rfl, Nat.le_of_ble_eq_true rfl⟩ rfl (Nat.le_of_ble_eq_true rfl) dX5_which_75 (fun y75 t75 => ?_)
        refine J_iadd Y dX5_which_78 ?_
        refine J_iconst (v := (0 : Int32)) Y dX5_which_79 (by decide) ?_
        refine J_bipush (v := (99 : Int32)) Y dX5_which_80 (by decide) ?_
        refine M_cSi (As := [.int (x70 + y75), .int (0 : Int32), .int (99 : Int32)]) (st := []) rfl X (c_X5_within G (x70 + y75) (0 : Int32) (99 : Int32) _) wi_X5_within wst_X5_within wml_RX5_167 ⟨Nat.le_of_ble_eq_true rfl, Nat.le_of_ble_eq_true rfl⟩ rfl (Nat.le_of_ble_eq_true rfl) dX5_which_82 (fun y82 t82 => ?_)
        refine J_istore [(6, .int y82), (0, .ref (gO G 50)), (1, .int v1), (2, .int v2), (3, .int v3), (4, .int v4), (5, .int v5)] Y dX5_which_85 (by decide) rfl ?_
        refine J_iload_n Y 4 dX5_which_87 rfl rfl ?_
        refine J_iconst (v := (-1 : Int32)) Y dX5_which_88 (by decide) ?_
        refine J_icmp_eq (tgt := 99) Y dX5_which_89 (by decide) ?_ ?_
        · refine J_sub [1, 2, 3, 4, 5, 6, 0] rfl ?_
          exact j_X5_which_L99 X (fun v1 v2 v3 v4 v5 σ => ih v1 v2 v3 v4 v5 σ) v1 v2 v3 v4 v5 y82 t82
        · refine J_iload Y 0 dX5_which_92 rfl ?_
          refine J_iload Y 5 dX5_which_94 rfl ?_
          refine J_icmp_le (tgt := 103) Y dX5_which_96 (by decide) ?_ ?_
          · refine J_iconst (v := (0 : Int32)) Y dX5_which_103 (by decide) ?_
            refine J_sub [1, 2, 3, 4, 5, 6, 0] rfl ?_
            exact j_X5_which_L104 X (fun v1 v2 v3 v4 v5 σ => ih v1 v2 v3 v4 v5 σ) v1 v2 v3 v4 v5 y82 (0 : Int32) t82
          · refine J_sub [1, 2, 3, 4, 5, 6, 0] rfl ?_
            exact j_X5_which_L99 X (fun v1 v2 v3 v4 v5 σ => ih v1 v2 v3 v4 v5 σ) v1 v2 v3 v4 v5 y82 t82
set_option maxRecDepth 100000 in
set_option maxHeartbeats 4000000 in
theorem j_X5_which {E : JE} {G : JG} (X : JM E 8 cX5_which RX5 (some .int) 4 160 G) (v1 : Int32) (v2 : Int32) (σ : ST) : Jg E 8 (JF E vI) [(0, .ref (gO G 50)), (1, .int v1), (2, .int v2)] 0 [] σ (f_X5_which v1 v2 σ) := by
  have Y := X.1
  unfold f_X5_which
  refine J_aload_n Y 0 dX5_which_0 rfl rfl ?_
  refine J_iload_n Y 1 dX5_which_1 rfl rfl ?_
  refine M_cVi (As := [.int v1]) (st := []) rfl X (c_X5_isOne G v1 _) wi_X5_isOne win_X5_isOne wse_X5_isOne wml_RX5_170 ⟨Nat.le_of_ble_eq_true rfl, Nat.le_of_ble_eq_true rfl⟩ rfl (Nat.le_of_ble_eq_true rfl) dX5_which_2 (fun y2 t2 => ?_)
  refine J_if_ne (tgt := 11) Y dX5_which_5 (by decide) ?_ ?_
  · refine J_iload_n Y 2 dX5_which_11 rfl rfl ?_
    refine J_iconst (v := (0 : Int32)) Y dX5_which_12 (by decide) ?_
    refine J_iconst (v := (1 : Int32)) Y dX5_which_13 (by decide) ?_
    refine M_cSi (As := [.int v2, .int (0 : Int32), .int (1 : Int32)]) (st := []) rfl X (c_X5_in G v2 (0 : Int32) (1 : Int32) _) wi_X5_in wst_X5_in wml_RX5_78 ⟨Nat.le_of_ble_eq_true rfl, Nat.le_of_ble_eq_true rfl⟩ rfl (Nat.le_of_ble_eq_true rfl) dX5_which_14 (fun y14 t14 => ?_)
    refine J_if_ne (tgt := 23) Y dX5_which_17 (by decide) ?_ ?_
    · refine J_iconst (v := (-1 : Int32)) Y dX5_which_23 (by decide) ?_
      refine J_istore_n [(3, .int (-1 : Int32)), (0, .ref (gO G 50)), (1, .int v1), (2, .int v2)] Y dX5_which_24 rfl (by decide) rfl ?_
      refine J_aload_n Y 1 dX5_which_25 rfl rfl ?_
      refine M_get 3 X (by decide) rfl wfl_RX5_16 rfl dX5_which_26 ?_
      refine J_bipush (v := (12 : Int32)) Y dX5_which_29 (by decide) ?_
      refine J_iload_n Y 2 dX5_which_31 rfl rfl ?_
      refine J_imul Y dX5_which_32 ?_
      refine J_bipush (v := (8 : Int32)) Y dX5_which_33 (by decide) ?_
      refine J_iadd Y dX5_which_35 ?_
      refine M_ald X (mA_3 G _) dX5_which_36 (fun x36 => ?_)
      refine J_istore [(4, .int x36), (3, .int (-1 : Int32)), (0, .ref (gO G 50)), (1, .int v1), (2, .int v2)] Y dX5_which_37 (by decide) rfl ?_
      refine J_iconst (v := (0 : Int32)) Y dX5_which_39 (by decide) ?_
      refine J_istore [(5, .int (0 : Int32)), (4, .int x36), (3, .int (-1 : Int32)), (0, .ref (gO G 50)), (1, .int v1), (2, .int v2)] Y dX5_which_40 (by decide) rfl ?_
      refine J_sub [3, 4, 5, 2, 1, 0] rfl ?_
      exact j_X5_which_L42 X 1000 v1 v2 (-1 : Int32) x36 (0 : Int32) t14
    · refine J_bipush (v := (-7 : Int32)) Y dX5_which_20 (by decide) ?_
      exact J_ireturn Y dX5_which_22
  · refine J_bipush (v := (-5 : Int32)) Y dX5_which_8 (by decide) ?_
    exact J_ireturn Y dX5_which_10
theorem c_X5_which (G : JG) (v1 : Int32) (v2 : Int32) (σ : ST) : Con (VM G) vI G.1 yX5_which cX5_which 8 (some .int) 4 160 [.ref (gO G 50), .int v1, .int v2] σ (f_X5_which v1 v2 σ) :=
  Con_of (VM_ok G) (by decide +kernel) (Nat.le_of_ble_eq_true rfl) (fun E e1 e2 _ X => j_X5_which ⟨X, e1, e2⟩ v1 v2 σ)
set_option maxRecDepth 100000 in
set_option maxHeartbeats 4000000 in
theorem j_X5_firstUnseen_L2 {E : JE} {G : JG} (X : JM E 3 cX5_firstUnseen RX5 (some .int) 1 40 G) : ∀ (n : Nat) (v1 : Int32) (v2 : Int32) (σ : ST), Jg E 3 (JF E vI) [(0, .ref (gO G 50)), (1, .int v1), (2, .int v2)] 2 [] σ (f_X5_firstUnseen_L2 n v1 v2 σ) := by
  have Y := X.1
  intro n
  induction n with
  | zero => intro v1 v2 σ; rw [f_X5_firstUnseen_L2]; exact J_none
  | succ n ih =>
    intro v1 v2 σ
    rw [f_X5_firstUnseen_L2]
    refine J_iload_n Y 2 dX5_firstUnseen_2 rfl rfl ?_
    refine J_bipush (v := (8 : Int32)) Y dX5_firstUnseen_3 (by decide) ?_
    refine J_icmp_ge (tgt := 25) Y dX5_firstUnseen_5 (by decide) ?_ ?_
    · refine J_iconst (v := (-1 : Int32)) Y dX5_firstUnseen_25 (by decide) ?_
      exact J_ireturn Y dX5_firstUnseen_26
    · refine J_aload_n Y 0 dX5_firstUnseen_8 rfl rfl ?_
      refine J_iload_n Y 1 dX5_firstUnseen_9 rfl rfl ?_
      refine J_iload_n Y 2 dX5_firstUnseen_10 rfl rfl ?_
      refine M_cVi (As := [.int v1, .int v2]) (st := []) rfl X (c_X5_hasSand G v1 v2 _) wi_X5_hasSand win_X5_hasSand wse_X5_hasSand wml_RX5_179 ⟨Nat.le_of_ble_eq_true rfl, Nat.le_of_ble_eq_true rfl⟩ rfl (Nat.le_of_ble_eq_true rfl) dX5_firstUnseen_11 (fun y11 t11 => ?_)
      refine J_if_ne (tgt := 19) Y dX5_firstUnseen_14 (by decide) ?_ ?_
      · refine J_iinc (v := v2 + (1 : Int32)) [(2, .int (v2 + (1 : Int32))), (0, .ref (gO G 50)), (1, .int v1)] Y 2 dX5_firstUnseen_19 rfl (congrArg (fun z => _ + z) (by decide)) (by decide) rfl ?_
        refine J_goto (tgt := 2) Y dX5_firstUnseen_22 (by decide) ?_
        refine J_sub [1, 2, 0] rfl ?_
        exact ih v1 (v2 + (1 : Int32)) t11
      · refine J_iload_n Y 2 dX5_firstUnseen_17 rfl rfl ?_
        exact J_ireturn Y dX5_firstUnseen_18
set_option maxRecDepth 100000 in
set_option maxHeartbeats 4000000 in
theorem j_X5_firstUnseen {E : JE} {G : JG} (X : JM E 3 cX5_firstUnseen RX5 (some .int) 1 40 G) (v1 : Int32) (σ : ST) : Jg E 3 (JF E vI) [(0, .ref (gO G 50)), (1, .int v1)] 0 [] σ (f_X5_firstUnseen v1 σ) := by
  have Y := X.1
  unfold f_X5_firstUnseen
  refine J_iconst (v := (0 : Int32)) Y dX5_firstUnseen_0 (by decide) ?_
  refine J_istore_n [(2, .int (0 : Int32)), (0, .ref (gO G 50)), (1, .int v1)] Y dX5_firstUnseen_1 rfl (by decide) rfl ?_
  refine J_sub [1, 2, 0] rfl ?_
  exact j_X5_firstUnseen_L2 X 1000 v1 (0 : Int32) σ
theorem c_X5_firstUnseen (G : JG) (v1 : Int32) (σ : ST) : Con (VM G) vI G.1 yX5_firstUnseen cX5_firstUnseen 3 (some .int) 1 40 [.ref (gO G 50), .int v1] σ (f_X5_firstUnseen v1 σ) :=
  Con_of (VM_ok G) (by decide +kernel) (Nat.le_of_ble_eq_true rfl) (fun E e1 e2 _ X => j_X5_firstUnseen ⟨X, e1, e2⟩ v1 σ)
set_option maxRecDepth 100000 in
set_option maxHeartbeats 4000000 in
theorem j_X5_unseen_L33 {E : JE} {G : JG} (X : JM E 3 cX5_unseen RX5 (some .int) 1 40 G) {k2 : Int32 → Int32 → ST → Option (Int32 × ST)} (hk2 : ∀ (v1 : Int32) (v2 : Int32) (σ : ST), Jg E 3 (JF E vI) [(0, .ref (gO G 50)), (1, .int v1), (2, .int v2)] 2 [] σ (k2 v1 v2 σ)) (v1 : Int32) (v2 : Int32) (σ : ST) : Jg E 3 (JF E vI) [(0, .ref (gO G 50)), (1, .int v1), (2, .int v2)] 33 [] σ (f_X5_unseen_L33 k2 v1 v2 σ) := by
  have Y := X.1
  unfold f_X5_unseen_L33
  refine J_iinc (v := v2 + (1 : Int32)) [(2, .int (v2 + (1 : Int32))), (0, .ref (gO G 50)), (1, .int v1)] Y 2 dX5_unseen_33 rfl (congrArg (fun z => _ + z) (by decide)) (by decide) rfl ?_
  refine J_goto (tgt := 2) Y dX5_unseen_36 (by decide) ?_
  refine J_sub [1, 2, 0] rfl ?_
  exact hk2 v1 (v2 + (1 : Int32)) σ
set_option maxRecDepth 100000 in
set_option maxHeartbeats 4000000 in
theorem j_X5_unseen_L39 {E : JE} {G : JG} (X : JM E 3 cX5_unseen RX5 (some .int) 1 40 G) (v1 : Int32) (σ : ST) : Jg E 3 (JF E vI) [(0, .ref (gO G 50)), (1, .int v1)] 39 [] σ (f_X5_unseen_L39 v1 σ) := by
  have Y := X.1
  unfold f_X5_unseen_L39
  refine J_bipush (v := (8 : Int32)) Y dX5_unseen_39 (by decide) ?_
  refine J_aload_n Y 0 dX5_unseen_41 rfl rfl ?_
  refine M_get 3 X (by decide) rfl wfl_RX5_16 rfl dX5_unseen_42 ?_
  refine J_bipush (v := (12 : Int32)) Y dX5_unseen_45 (by decide) ?_
  refine J_iload_n Y 1 dX5_unseen_47 rfl rfl ?_
  refine J_imul Y dX5_unseen_48 ?_
  refine J_bipush (v := (9 : Int32)) Y dX5_unseen_49 (by decide) ?_
  refine J_iadd Y dX5_unseen_51 ?_
  refine M_ald X (mA_3 G _) dX5_unseen_52 (fun x52 => ?_)
  refine M_cSi (As := [.int x52]) (st := [.int (8 : Int32)]) rfl X (c_X5_onesOf G x52 _) wi_X5_onesOf wst_X5_onesOf wml_RX5_92 ⟨Nat.le_of_ble_eq_true rfl, Nat.le_of_ble_eq_true rfl⟩ rfl (Nat.le_of_ble_eq_true rfl) dX5_unseen_53 (fun y53 t53 => ?_)
  refine J_isub Y dX5_unseen_56 ?_
  exact J_ireturn Y dX5_unseen_57
set_option maxRecDepth 100000 in
set_option maxHeartbeats 4000000 in
theorem j_X5_unseen_L2 {E : JE} {G : JG} (X : JM E 3 cX5_unseen RX5 (some .int) 1 40 G) : ∀ (n : Nat) (v1 : Int32) (v2 : Int32) (σ : ST), Jg E 3 (JF E vI) [(0, .ref (gO G 50)), (1, .int v1), (2, .int v2)] 2 [] σ (f_X5_unseen_L2 n v1 v2 σ) := by
  have Y := X.1
  intro n
  induction n with
  | zero => intro v1 v2 σ; rw [f_X5_unseen_L2]; exact J_none
  | succ n ih =>
    intro v1 v2 σ
    rw [f_X5_unseen_L2]
    refine J_iload_n Y 2 dX5_unseen_2 rfl rfl ?_
    refine J_bipush (v := (8 : Int32)) Y dX5_unseen_3 (by decide) ?_
    refine J_icmp_ge (tgt := 39) Y dX5_unseen_5 (by decide) ?_ ?_
    · refine J_sub [0, 1] rfl ?_
      exact j_X5_unseen_L39 X v1 σ
    · refine J_aload_n Y 0 dX5_unseen_8 rfl rfl ?_
      refine J_iload_n Y 1 dX5_unseen_9 rfl rfl ?_
      refine J_iload_n Y 2 dX5_unseen_10 rfl rfl ?_
      refine M_cVi (As := [.int v1, .int v2]) (st := []) rfl X (c_X5_hasSand G v1 v2 _) wi_X5_hasSand win_X5_hasSand wse_X5_hasSand wml_RX5_179 ⟨Nat.le_of_ble_eq_true rfl, Nat.le_of_ble_eq_true rfl⟩ rfl (Nat.le_of_ble_eq_true rfl) dX5_unseen_11 (fun y11 t11 => ?_)
      refine J_if_ne (tgt := 33) Y dX5_unseen_14 (by decide) ?_ ?_
      · exact j_X5_unseen_L33 X (fun v1 v2 σ => ih v1 v2 σ) v1 v2 t11
      · refine J_aload_n Y 0 dX5_unseen_17 rfl rfl ?_
        refine M_get 3 X (by decide) rfl wfl_RX5_16 rfl dX5_unseen_18 ?_
        refine J_bipush (v := (12 : Int32)) Y dX5_unseen_21 (by decide) ?_
        refine J_iload_n Y 1 dX5_unseen_23 rfl rfl ?_
        refine J_imul Y dX5_unseen_24 ?_
        refine J_iload_n Y 2 dX5_unseen_25 rfl rfl ?_
        refine J_iadd Y dX5_unseen_26 ?_
        refine M_ald X (mA_3 G _) dX5_unseen_27 (fun x27 => ?_)
        refine J_if_ne (tgt := 33) Y dX5_unseen_28 (by decide) ?_ ?_
        · exact j_X5_unseen_L33 X (fun v1 v2 σ => ih v1 v2 σ) v1 v2 t11
        · refine J_iconst (v := (-1 : Int32)) Y dX5_unseen_31 (by decide) ?_
          exact J_ireturn Y dX5_unseen_32
set_option maxRecDepth 100000 in
set_option maxHeartbeats 4000000 in
theorem j_X5_unseen {E : JE} {G : JG} (X : JM E 3 cX5_unseen RX5 (some .int) 1 40 G) (v1 : Int32) (σ : ST) : Jg E 3 (JF E vI) [(0, .ref (gO G 50)), (1, .int v1)] 0 [] σ (f_X5_unseen v1 σ) := by
  have Y := X.1
  unfold f_X5_unseen
  refine J_iconst (v := (0 : Int32)) Y dX5_unseen_0 (by decide) ?_
  refine J_istore_n [(2, .int (0 : Int32)), (0, .ref (gO G 50)), (1, .int v1)] Y dX5_unseen_1 rfl (by decide) rfl ?_
  refine J_sub [1, 2, 0] rfl ?_
  exact j_X5_unseen_L2 X 1000 v1 (0 : Int32) σ
theorem c_X5_unseen (G : JG) (v1 : Int32) (σ : ST) : Con (VM G) vI G.1 yX5_unseen cX5_unseen 3 (some .int) 1 40 [.ref (gO G 50), .int v1] σ (f_X5_unseen v1 σ) :=
  Con_of (VM_ok G) (by decide +kernel) (Nat.le_of_ble_eq_true rfl) (fun E e1 e2 _ X => j_X5_unseen ⟨X, e1, e2⟩ v1 σ)
set_option maxRecDepth 100000 in
set_option maxHeartbeats 4000000 in
theorem j_X5_tourOf_L47 {E : JE} {G : JG} (X : JM E 4 cX5_tourOf RX5 (some .int) 5 200 G) {k2 : Int32 → Int32 → ST → Option (Int32 × ST)} (hk2 : ∀ (v1 : Int32) (v2 : Int32) (σ : ST), Jg E 4 (JF E vI) [(0, .ref (gO G 50)), (1, .int v1), (2, .int v2)] 2 [] σ (k2 v1 v2 σ)) (v1 : Int32) (v2 : Int32) (σ : ST) : Jg E 4 (JF E vI) [(0, .ref (gO G 50)), (1, .int v1), (2, .int v2)] 47 [] σ (f_X5_tourOf_L47 k2 v1 v2 σ) := by
  have Y := X.1
  unfold f_X5_tourOf_L47
  refine J_aload_n Y 0 dX5_tourOf_47 rfl rfl ?_
  refine M_cVi (As := []) (st := []) rfl X (c_X5_minuteOf G _) wi_X5_minuteOf win_X5_minuteOf wse_X5_minuteOf wml_RX5_199 ⟨Nat.le_of_ble_eq_true rfl, Nat.le_of_ble_eq_true rfl⟩ rfl (Nat.le_of_ble_eq_true rfl) dX5_tourOf_48 (fun y48 t48 => ?_)
  refine J_pop Y dX5_tourOf_51 rfl ?_
  refine J_iinc (v := v2 + (1 : Int32)) [(2, .int (v2 + (1 : Int32))), (0, .ref (gO G 50)), (1, .int v1)] Y 2 dX5_tourOf_52 rfl (congrArg (fun z => _ + z) (by decide)) (by decide) rfl ?_
  refine J_goto (tgt := 2) Y dX5_tourOf_55 (by decide) ?_
  refine J_sub [1, 2, 0] rfl ?_
  exact hk2 v1 (v2 + (1 : Int32)) t48
set_option maxRecDepth 100000 in
set_option maxHeartbeats 4000000 in
theorem j_X5_tourOf_L2 {E : JE} {G : JG} (X : JM E 4 cX5_tourOf RX5 (some .int) 5 200 G) : ∀ (n : Nat) (v1 : Int32) (v2 : Int32) (σ : ST), Jg E 4 (JF E vI) [(0, .ref (gO G 50)), (1, .int v1), (2, .int v2)] 2 [] σ (f_X5_tourOf_L2 n v1 v2 σ) := by
  have Y := X.1
  intro n
  induction n with
  | zero => intro v1 v2 σ; rw [f_X5_tourOf_L2]; exact J_none
  | succ n ih =>
    intro v1 v2 σ
    rw [f_X5_tourOf_L2]
    refine J_iload_n Y 2 dX5_tourOf_2 rfl rfl ?_
    refine J_sipush (v := (200 : Int32)) Y dX5_tourOf_3 (by decide) ?_
    refine J_icmp_gt (tgt := 58) Y dX5_tourOf_6 (by decide) ?_ ?_
    · refine J_iconst (v := (-1 : Int32)) Y dX5_tourOf_58 (by decide) ?_
      exact J_ireturn Y dX5_tourOf_59
    · refine J_aload_n Y 0 dX5_tourOf_9 rfl rfl ?_
      refine J_iload_n Y 1 dX5_tourOf_10 rfl rfl ?_
      refine M_cVi (As := [.int v1]) (st := []) rfl X (c_X5_isHere G v1 _) wi_X5_isHere win_X5_isHere wse_X5_isHere wml_RX5_82 ⟨Nat.le_of_ble_eq_true rfl, Nat.le_of_ble_eq_true rfl⟩ rfl (Nat.le_of_ble_eq_true rfl) dX5_tourOf_11 (fun y11 t11 => ?_)
      refine J_if_eq (tgt := 47) Y dX5_tourOf_14 (by decide) ?_ ?_
      · exact j_X5_tourOf_L47 X (fun v1 v2 σ => ih v1 v2 σ) v1 v2 t11
      · refine J_aload_n Y 0 dX5_tourOf_17 rfl rfl ?_
        refine J_iload_n Y 1 dX5_tourOf_18 rfl rfl ?_
        refine M_cVi (As := [.int v1]) (st := []) rfl X (c_X5_firstUnseen G v1 _) wi_X5_firstUnseen win_X5_firstUnseen wse_X5_firstUnseen wml_RX5_226 ⟨Nat.le_of_ble_eq_true rfl, Nat.le_of_ble_eq_true rfl⟩ rfl (Nat.le_of_ble_eq_true rfl) dX5_tourOf_19 (fun y19 t19 => ?_)
        refine J_istore_n [(3, .int y19), (0, .ref (gO G 50)), (1, .int v1), (2, .int v2)] Y dX5_tourOf_22 rfl (by decide) rfl ?_
        refine J_iload_n Y 0 dX5_tourOf_23 rfl rfl ?_
        refine J_iconst (v := (-1 : Int32)) Y dX5_tourOf_24 (by decide) ?_
        refine J_icmp_ne (tgt := 30) Y dX5_tourOf_25 (by decide) ?_ ?_
        · refine J_aload_n Y 1 dX5_tourOf_30 rfl rfl ?_
          refine J_iload_n Y 2 dX5_tourOf_31 rfl rfl ?_
          refine J_iload_n Y 0 dX5_tourOf_32 rfl rfl ?_
          refine M_cVi (As := [.int v1, .int y19]) (st := []) rfl X (c_X5_can G v1 y19 _) wi_X5_can win_X5_can wse_X5_can wml_RX5_192 ⟨Nat.le_of_ble_eq_true rfl, Nat.le_of_ble_eq_true rfl⟩ rfl (Nat.le_of_ble_eq_true rfl) dX5_tourOf_33 (fun y33 t33 => ?_)
          refine J_if_ne (tgt := 41) Y dX5_tourOf_36 (by decide) ?_ ?_
          · refine J_aload_n Y 1 dX5_tourOf_41 rfl rfl ?_
            refine J_iload_n Y 2 dX5_tourOf_42 rfl rfl ?_
            refine J_iload_n Y 0 dX5_tourOf_43 rfl rfl ?_
            refine M_cVv (As := [.int v1, .int y19]) (st := []) rfl X (c_X5_pinchOf G v1 y19 _) wi_X5_pinchOf win_X5_pinchOf wse_X5_pinchOf wml_RX5_195 ⟨Nat.le_of_ble_eq_true rfl, Nat.le_of_ble_eq_true rfl⟩ rfl (Nat.le_of_ble_eq_true rfl) dX5_tourOf_44 (fun t44 => ?_)
            refine J_sub [1, 2, 3] rfl ?_
            exact j_X5_tourOf_L47 X (fun v1 v2 σ => ih v1 v2 σ) v1 v2 t44
          · refine J_iconst (v := (-1 : Int32)) Y dX5_tourOf_39 (by decide) ?_
            exact J_ireturn Y dX5_tourOf_40
        · refine J_iload_n Y 3 dX5_tourOf_28 rfl rfl ?_
          exact J_ireturn Y dX5_tourOf_29
set_option maxRecDepth 100000 in
set_option maxHeartbeats 4000000 in
theorem j_X5_tourOf {E : JE} {G : JG} (X : JM E 4 cX5_tourOf RX5 (some .int) 5 200 G) (v1 : Int32) (σ : ST) : Jg E 4 (JF E vI) [(0, .ref (gO G 50)), (1, .int v1)] 0 [] σ (f_X5_tourOf v1 σ) := by
  have Y := X.1
  unfold f_X5_tourOf
  refine J_iconst (v := (0 : Int32)) Y dX5_tourOf_0 (by decide) ?_
  refine J_istore_n [(2, .int (0 : Int32)), (0, .ref (gO G 50)), (1, .int v1)] Y dX5_tourOf_1 rfl (by decide) rfl ?_
  refine J_sub [1, 2, 0] rfl ?_
  exact j_X5_tourOf_L2 X 1000 v1 (0 : Int32) σ
theorem c_X5_tourOf (G : JG) (v1 : Int32) (σ : ST) : Con (VM G) vI G.1 yX5_tourOf cX5_tourOf 4 (some .int) 5 200 [.ref (gO G 50), .int v1] σ (f_X5_tourOf v1 σ) :=
  Con_of (VM_ok G) (by decide +kernel) (Nat.le_of_ble_eq_true rfl) (fun E e1 e2 _ X => j_X5_tourOf ⟨X, e1, e2⟩ v1 σ)
set_option maxRecDepth 100000 in
set_option maxHeartbeats 4000000 in
theorem j_X5_tour_L38 {E : JE} {G : JG} (X : JM E 5 cX5_tour RX5 (some .int) 6 240 G) (v3 : Int32) (σ : ST) : Jg E 5 (JF E vI) [(3, .int v3)] 38 [] σ (f_X5_tour_L38 v3 σ) := by
  have Y := X.1
  unfold f_X5_tour_L38
  refine J_iload_n Y 0 dX5_tour_38 rfl rfl ?_
  exact J_ireturn Y dX5_tour_39
set_option maxRecDepth 100000 in
set_option maxHeartbeats 4000000 in
theorem j_X5_tour {E : JE} {G : JG} (X : JM E 5 cX5_tour RX5 (some .int) 6 240 G) (v1 : Int32) (v2 : Int32) (σ : ST) : Jg E 5 (JF E vI) [(0, .ref (gO G 50)), (1, .int v1), (2, .int v2)] 0 [] σ (f_X5_tour v1 v2 σ) := by
  have Y := X.1
  unfold f_X5_tour
  refine J_aload_n Y 0 dX5_tour_0 rfl rfl ?_
  refine J_iload_n Y 1 dX5_tour_1 rfl rfl ?_
  refine M_cVi (As := [.int v1]) (st := []) rfl X (c_X5_isOne G v1 _) wi_X5_isOne win_X5_isOne wse_X5_isOne wml_RX5_170 ⟨Nat.le_of_ble_eq_true rfl, Nat.le_of_ble_eq_true rfl⟩ rfl (Nat.le_of_ble_eq_true rfl) dX5_tour_2 (fun y2 t2 => ?_)
  refine J_if_ne (tgt := 11) Y dX5_tour_5 (by decide) ?_ ?_
  · refine J_iload_n Y 2 dX5_tour_11 rfl rfl ?_
    refine J_iconst (v := (0 : Int32)) Y dX5_tour_12 (by decide) ?_
    refine J_iconst (v := (1 : Int32)) Y dX5_tour_13 (by decide) ?_
    refine M_cSi (As := [.int v2, .int (0 : Int32), .int (1 : Int32)]) (st := []) rfl X (c_X5_in G v2 (0 : Int32) (1 : Int32) _) wi_X5_in wst_X5_in wml_RX5_78 ⟨Nat.le_of_ble_eq_true rfl, Nat.le_of_ble_eq_true rfl⟩ rfl (Nat.le_of_ble_eq_true rfl) dX5_tour_14 (fun y14 t14 => ?_)
    refine J_if_ne (tgt := 23) Y dX5_tour_17 (by decide) ?_ ?_
    · refine J_aload_n Y 0 dX5_tour_23 rfl rfl ?_
      refine J_iload_n Y 1 dX5_tour_24 rfl rfl ?_
      refine M_cVi (As := [.int v1]) (st := []) rfl X (c_X5_unseen G v1 _) wi_X5_unseen win_X5_unseen wse_X5_unseen wml_RX5_229 ⟨Nat.le_of_ble_eq_true rfl, Nat.le_of_ble_eq_true rfl⟩ rfl (Nat.le_of_ble_eq_true rfl) dX5_tour_25 (fun y25 t25 => ?_)
      refine J_istore_n [(3, .int y25), (0, .ref (gO G 50)), (1, .int v1), (2, .int v2)] Y dX5_tour_28 rfl (by decide) rfl ?_
      refine J_iload_n Y 3 dX5_tour_29 rfl rfl ?_
      refine J_if_eq (tgt := 38) Y dX5_tour_30 (by decide) ?_ ?_
      · refine J_sub [0] rfl ?_
        exact j_X5_tour_L38 X y25 t25
      · refine J_iload_n Y 0 dX5_tour_33 rfl rfl ?_
        refine J_iconst (v := (-1 : Int32)) Y dX5_tour_34 (by decide) ?_
        refine J_icmp_ne (tgt := 40) Y dX5_tour_35 (by decide) ?_ ?_
        · refine J_aload_n Y 1 dX5_tour_40 rfl rfl ?_
          refine M_cVv (As := []) (st := []) rfl X (c_X5_keeps G _) wi_X5_keeps win_X5_keeps wse_X5_keeps wml_RX5_214 ⟨Nat.le_of_ble_eq_true rfl, Nat.le_of_ble_eq_true rfl⟩ rfl (Nat.le_of_ble_eq_true rfl) dX5_tour_41 (fun t41 => ?_)
          refine J_aload_n Y 1 dX5_tour_44 rfl rfl ?_
          refine J_iload_n Y 2 dX5_tour_45 rfl rfl ?_
          refine M_cVi (As := [.int v1]) (st := []) rfl X (c_X5_tourOf G v1 _) wi_X5_tourOf win_X5_tourOf wse_X5_tourOf wml_RX5_232 ⟨Nat.le_of_ble_eq_true rfl, Nat.le_of_ble_eq_true rfl⟩ rfl (Nat.le_of_ble_eq_true rfl) dX5_tour_46 (fun y46 t46 => ?_)
          refine J_istore [(4, .int y46), (3, .int y25), (0, .ref (gO G 50)), (1, .int v1), (2, .int v2)] Y dX5_tour_49 (by decide) rfl ?_
          refine J_aload_n Y 2 dX5_tour_51 rfl rfl ?_
          refine M_cVv (As := []) (st := []) rfl X (c_X5_lays G _) wi_X5_lays win_X5_lays wse_X5_lays wml_RX5_220 ⟨Nat.le_of_ble_eq_true rfl, Nat.le_of_ble_eq_true rfl⟩ rfl (Nat.le_of_ble_eq_true rfl) dX5_tour_52 (fun t52 => ?_)
          refine J_iload Y 0 dX5_tour_55 rfl ?_
          exact J_ireturn Y dX5_tour_57
        · refine J_sub [0] rfl ?_
          exact j_X5_tour_L38 X y25 t25
    · refine J_bipush (v := (-7 : Int32)) Y dX5_tour_20 (by decide) ?_
      exact J_ireturn Y dX5_tour_22
  · refine J_bipush (v := (-5 : Int32)) Y dX5_tour_8 (by decide) ?_
    exact J_ireturn Y dX5_tour_10
theorem c_X5_tour (G : JG) (v1 : Int32) (v2 : Int32) (σ : ST) : Con (VM G) vI G.1 yX5_tour cX5_tour 5 (some .int) 6 240 [.ref (gO G 50), .int v1, .int v2] σ (f_X5_tour v1 v2 σ) :=
  Con_of (VM_ok G) (by decide +kernel) (Nat.le_of_ble_eq_true rfl) (fun E e1 e2 _ X => j_X5_tour ⟨X, e1, e2⟩ v1 v2 σ)
set_option maxRecDepth 100000 in
set_option maxHeartbeats 4000000 in
theorem j_X5_witSharing_L25 {E : JE} {G : JG} (X : JM E 3 cX5_witSharing RX5 (some .int) 5 200 G) {k2 : Int32 → Int32 → ST → Option (Int32 × ST)} (hk2 : ∀ (v1 : Int32) (v2 : Int32) (σ : ST), Jg E 3 (JF E vI) [(0, .ref (gO G 50)), (1, .int v1), (2, .int v2)] 2 [] σ (k2 v1 v2 σ)) (v1 : Int32) (v2 : Int32) (σ : ST) : Jg E 3 (JF E vI) [(0, .ref (gO G 50)), (1, .int v1), (2, .int v2)] 25 [] σ (f_X5_witSharing_L25 k2 v1 v2 σ) := by
  have Y := X.1
  unfold f_X5_witSharing_L25
  refine J_iinc (v := v2 + (1 : Int32)) [(2, .int (v2 + (1 : Int32))), (0, .ref (gO G 50)), (1, .int v1)] Y 2 dX5_witSharing_25 rfl (congrArg (fun z => _ + z) (by decide)) (by decide) rfl ?_
  refine J_goto (tgt := 2) Y dX5_witSharing_28 (by decide) ?_
  refine J_sub [1, 2, 0] rfl ?_
  exact hk2 v1 (v2 + (1 : Int32)) σ
set_option maxRecDepth 100000 in
set_option maxHeartbeats 4000000 in
theorem j_X5_witSharing_L31 {E : JE} {G : JG} (X : JM E 3 cX5_witSharing RX5 (some .int) 5 200 G) (σ : ST) : Jg E 3 (JF E vI) [(0, .ref (gO G 50))] 31 [] σ (f_X5_witSharing_L31 σ) := by
  have Y := X.1
  unfold f_X5_witSharing_L31
  refine J_aload_n Y 0 dX5_witSharing_31 rfl rfl ?_
  refine M_cVi (As := []) (st := []) rfl X (c_X5_witAll G _) wi_X5_witAll win_X5_witAll wse_X5_witAll wml_RX5_235 ⟨Nat.le_of_ble_eq_true rfl, Nat.le_of_ble_eq_true rfl⟩ rfl (Nat.le_of_ble_eq_true rfl) dX5_witSharing_32 (fun y32 t32 => ?_)
  exact J_ireturn Y dX5_witSharing_35
set_option maxRecDepth 100000 in
set_option maxHeartbeats 4000000 in
theorem j_X5_witSharing_L2 {E : JE} {G : JG} (X : JM E 3 cX5_witSharing RX5 (some .int) 5 200 G) : ∀ (n : Nat) (v1 : Int32) (v2 : Int32) (σ : ST), Jg E 3 (JF E vI) [(0, .ref (gO G 50)), (1, .int v1), (2, .int v2)] 2 [] σ (f_X5_witSharing_L2 n v1 v2 σ) := by
  have Y := X.1
  intro n
  induction n with
  | zero => intro v1 v2 σ; rw [f_X5_witSharing_L2]; exact J_none
  | succ n ih =>
    intro v1 v2 σ
    rw [f_X5_witSharing_L2]
    refine J_iload_n Y 2 dX5_witSharing_2 rfl rfl ?_
    refine J_aload_n Y 0 dX5_witSharing_3 rfl rfl ?_
    refine M_get 0 X (by decide) rfl wfl_RX5_75 rfl dX5_witSharing_4 ?_
    refine J_icmp_ge (tgt := 31) Y dX5_witSharing_7 (by decide) ?_ ?_
    · refine J_sub [0] rfl ?_
      exact j_X5_witSharing_L31 X  σ
    · refine J_aload_n Y 0 dX5_witSharing_10 rfl rfl ?_
      refine J_iload_n Y 2 dX5_witSharing_11 rfl rfl ?_
      refine J_iload_n Y 1 dX5_witSharing_12 rfl rfl ?_
      refine M_cVi (As := [.int v2, .int v1]) (st := []) rfl X (c_X5_can G v2 v1 _) wi_X5_can win_X5_can wse_X5_can wml_RX5_192 ⟨Nat.le_of_ble_eq_true rfl, Nat.le_of_ble_eq_true rfl⟩ rfl (Nat.le_of_ble_eq_true rfl) dX5_witSharing_13 (fun y13 t13 => ?_)
      refine J_if_eq (tgt := 25) Y dX5_witSharing_16 (by decide) ?_ ?_
      · exact j_X5_witSharing_L25 X (fun v1 v2 σ => ih v1 v2 σ) v1 v2 t13
      · refine J_aload_n Y 0 dX5_witSharing_19 rfl rfl ?_
        refine J_iload_n Y 2 dX5_witSharing_20 rfl rfl ?_
        refine J_iload_n Y 1 dX5_witSharing_21 rfl rfl ?_
        refine M_cVv (As := [.int v2, .int v1]) (st := []) rfl X (c_X5_pinchOf G v2 v1 _) wi_X5_pinchOf win_X5_pinchOf wse_X5_pinchOf wml_RX5_195 ⟨Nat.le_of_ble_eq_true rfl, Nat.le_of_ble_eq_true rfl⟩ rfl (Nat.le_of_ble_eq_true rfl) dX5_witSharing_22 (fun t22 => ?_)
        exact j_X5_witSharing_L25 X (fun v1 v2 σ => ih v1 v2 σ) v1 v2 t22
set_option maxRecDepth 100000 in
set_option maxHeartbeats 4000000 in
theorem j_X5_witSharing {E : JE} {G : JG} (X : JM E 3 cX5_witSharing RX5 (some .int) 5 200 G) (v1 : Int32) (σ : ST) : Jg E 3 (JF E vI) [(0, .ref (gO G 50)), (1, .int v1)] 0 [] σ (f_X5_witSharing v1 σ) := by
  have Y := X.1
  unfold f_X5_witSharing
  refine J_iconst (v := (0 : Int32)) Y dX5_witSharing_0 (by decide) ?_
  refine J_istore_n [(2, .int (0 : Int32)), (0, .ref (gO G 50)), (1, .int v1)] Y dX5_witSharing_1 rfl (by decide) rfl ?_
  refine J_sub [1, 2, 0] rfl ?_
  exact j_X5_witSharing_L2 X 1000 v1 (0 : Int32) σ
theorem c_X5_witSharing (G : JG) (v1 : Int32) (σ : ST) : Con (VM G) vI G.1 yX5_witSharing cX5_witSharing 3 (some .int) 5 200 [.ref (gO G 50), .int v1] σ (f_X5_witSharing v1 σ) :=
  Con_of (VM_ok G) (by decide +kernel) (Nat.le_of_ble_eq_true rfl) (fun E e1 e2 _ X => j_X5_witSharing ⟨X, e1, e2⟩ v1 σ)
set_option maxRecDepth 100000 in
set_option maxHeartbeats 4000000 in
theorem j_X5_share_L16 {E : JE} {G : JG} (X : JM E 8 cX5_share RX5 (some .int) 6 240 G) (σ : ST) : Jg E 8 (JF E vI) [] 16 [] σ (f_X5_share_L16 σ) := by
  have Y := X.1
  unfold f_X5_share_L16
  refine J_bipush (v := (-2 : Int32)) Y dX5_share_16 (by decide) ?_
  exact J_ireturn Y dX5_share_18
set_option maxRecDepth 100000 in
set_option maxHeartbeats 4000000 in
theorem j_X5_share_L132 {E : JE} {G : JG} (X : JM E 8 cX5_share RX5 (some .int) 6 240 G) {k34 : Int32 → Int32 → Int32 → Int32 → Int32 → ST → Option (Int32 × ST)} (hk34 : ∀ (v1 : Int32) (v2 : Int32) (v3 : Int32) (v4 : Int32) (v5 : Int32) (σ : ST), Jg E 8 (JF E vI) [(0, .ref (gO G 50)), (1, .int v1), (2, .int v2), (3, .int v3), (4, .int v4), (5, .int v5)] 34 [] σ (k34 v1 v2 v3 v4 v5 σ)) (v1 : Int32) (v2 : Int32) (v3 : Int32) (v4 : Int32) (v5 : Int32) (σ : ST) : Jg E 8 (JF E vI) [(0, .ref (gO G 50)), (1, .int v1), (2, .int v2), (3, .int v3), (4, .int v4), (5, .int v5)] 132 [] σ (f_X5_share_L132 k34 v1 v2 v3 v4 v5 σ) := by
  have Y := X.1
  unfold f_X5_share_L132
  refine J_iinc (v := v5 + (1 : Int32)) [(5, .int (v5 + (1 : Int32))), (0, .ref (gO G 50)), (1, .int v1), (2, .int v2), (3, .int v3), (4, .int v4)] Y 5 dX5_share_132 rfl (congrArg (fun z => _ + z) (by decide)) (by decide) rfl ?_
  refine J_goto (tgt := 34) Y dX5_share_135 (by decide) ?_
  refine J_sub [1, 2, 3, 4, 5, 0] rfl ?_
  exact hk34 v1 v2 v3 v4 (v5 + (1 : Int32)) σ
set_option maxRecDepth 100000 in
set_option maxHeartbeats 4000000 in
theorem j_X5_share_L130 {E : JE} {G : JG} (X : JM E 8 cX5_share RX5 (some .int) 6 240 G) {k34 : Int32 → Int32 → Int32 → Int32 → Int32 → ST → Option (Int32 × ST)} (hk34 : ∀ (v1 : Int32) (v2 : Int32) (v3 : Int32) (v4 : Int32) (v5 : Int32) (σ : ST), Jg E 8 (JF E vI) [(0, .ref (gO G 50)), (1, .int v1), (2, .int v2), (3, .int v3), (4, .int v4), (5, .int v5)] 34 [] σ (k34 v1 v2 v3 v4 v5 σ)) (v1 : Int32) (v2 : Int32) (v3 : Int32) (v5 : Int32) (s0 : Int32) (σ : ST) : Jg E 8 (JF E vI) [(0, .ref (gO G 50)), (1, .int v1), (2, .int v2), (3, .int v3), (5, .int v5)] 130 [.int s0] σ (f_X5_share_L130 k34 v1 v2 v3 v5 s0 σ) := by
  have Y := X.1
  unfold f_X5_share_L130
  refine J_istore [(4, .int s0), (0, .ref (gO G 50)), (1, .int v1), (2, .int v2), (3, .int v3), (5, .int v5)] Y dX5_share_130 (by decide) rfl ?_
  refine J_sub [1, 2, 3, 4, 0, 5] rfl ?_
  exact j_X5_share_L132 X hk34 v1 v2 v3 s0 v5 σ
set_option maxRecDepth 100000 in
set_option maxHeartbeats 4000000 in
theorem j_X5_share_L117 {E : JE} {G : JG} (X : JM E 8 cX5_share RX5 (some .int) 6 240 G) {k34 : Int32 → Int32 → Int32 → Int32 → Int32 → ST → Option (Int32 × ST)} (hk34 : ∀ (v1 : Int32) (v2 : Int32) (v3 : Int32) (v4 : Int32) (v5 : Int32) (σ : ST), Jg E 8 (JF E vI) [(0, .ref (gO G 50)), (1, .int v1), (2, .int v2), (3, .int v3), (4, .int v4), (5, .int v5)] 34 [] σ (k34 v1 v2 v3 v4 v5 σ)) (v1 : Int32) (v2 : Int32) (v4 : Int32) (v5 : Int32) (v6 : Int32) (v7 : Int32) (s0 : Int32) (σ : ST) : Jg E 8 (JF E vI) [(0, .ref (gO G 50)), (1, .int v1), (2, .int v2), (4, .int v4), (5, .int v5), (6, .int v6), (7, .int v7)] 117 [.int s0] σ (f_X5_share_L117 k34 v1 v2 v4 v5 v6 v7 s0 σ) := by
  have Y := X.1
  unfold f_X5_share_L117
  refine J_istore_n [(3, .int s0), (0, .ref (gO G 50)), (1, .int v1), (2, .int v2), (4, .int v4), (5, .int v5), (6, .int v6), (7, .int v7)] Y dX5_share_117 rfl (by decide) rfl ?_
  refine J_iload Y 7 dX5_share_118 rfl ?_
  refine J_if_eq (tgt := 128) Y dX5_share_120 (by decide) ?_ ?_
  · refine J_iload Y 4 dX5_share_128 rfl ?_
    refine J_sub [1, 2, 3, 0, 5] rfl ?_
    exact j_X5_share_L130 X hk34 v1 v2 s0 v5 v4 σ
  · refine J_iload Y 6 dX5_share_123 rfl ?_
    refine J_goto (tgt := 130) Y dX5_share_125 (by decide) ?_
    refine J_sub [1, 2, 3, 0, 5] rfl ?_
    exact j_X5_share_L130 X hk34 v1 v2 s0 v5 v6 σ
set_option maxRecDepth 100000 in
set_option maxHeartbeats 4000000 in
theorem j_X5_share_L104 {E : JE} {G : JG} (X : JM E 8 cX5_share RX5 (some .int) 6 240 G) {k34 : Int32 → Int32 → Int32 → Int32 → Int32 → ST → Option (Int32 × ST)} (hk34 : ∀ (v1 : Int32) (v2 : Int32) (v3 : Int32) (v4 : Int32) (v5 : Int32) (σ : ST), Jg E 8 (JF E vI) [(0, .ref (gO G 50)), (1, .int v1), (2, .int v2), (3, .int v3), (4, .int v4), (5, .int v5)] 34 [] σ (k34 v1 v2 v3 v4 v5 σ)) (v1 : Int32) (v2 : Int32) (v3 : Int32) (v4 : Int32) (v5 : Int32) (v6 : Int32) (s0 : Int32) (σ : ST) : Jg E 8 (JF E vI) [(0, .ref (gO G 50)), (1, .int v1), (2, .int v2), (3, .int v3), (4, .int v4), (5, .int v5), (6, .int v6)] 104 [.int s0] σ (f_X5_share_L104 k34 v1 v2 v3 v4 v5 v6 s0 σ) := by
  have Y := X.1
  unfold f_X5_share_L104
  refine J_istore [(7, .int s0), (0, .ref (gO G 50)), (1, .int v1), (2, .int v2), (3, .int v3), (4, .int v4), (5, .int v5), (6, .int v6)] Y dX5_share_104 (by decide) rfl ?_
  refine J_iload Y 0 dX5_share_106 rfl ?_
  refine J_if_eq (tgt := 116) Y dX5_share_108 (by decide) ?_ ?_
  · refine J_iload_n Y 4 dX5_share_116 rfl rfl ?_
    refine J_sub [1, 2, 3, 5, 6, 7, 0] rfl ?_
    exact j_X5_share_L117 X hk34 v1 v2 v4 v5 v6 s0 v3 σ
  · refine J_iload Y 6 dX5_share_111 rfl ?_
    refine J_goto (tgt := 117) Y dX5_share_113 (by decide) ?_
    refine J_sub [1, 2, 3, 5, 6, 7, 0] rfl ?_
    exact j_X5_share_L117 X hk34 v1 v2 v4 v5 v6 s0 v5 σ
set_option maxRecDepth 100000 in
set_option maxHeartbeats 4000000 in
theorem j_X5_share_L99 {E : JE} {G : JG} (X : JM E 8 cX5_share RX5 (some .int) 6 240 G) {k34 : Int32 → Int32 → Int32 → Int32 → Int32 → ST → Option (Int32 × ST)} (hk34 : ∀ (v1 : Int32) (v2 : Int32) (v3 : Int32) (v4 : Int32) (v5 : Int32) (σ : ST), Jg E 8 (JF E vI) [(0, .ref (gO G 50)), (1, .int v1), (2, .int v2), (3, .int v3), (4, .int v4), (5, .int v5)] 34 [] σ (k34 v1 v2 v3 v4 v5 σ)) (v1 : Int32) (v2 : Int32) (v3 : Int32) (v4 : Int32) (v5 : Int32) (v6 : Int32) (σ : ST) : Jg E 8 (JF E vI) [(0, .ref (gO G 50)), (1, .int v1), (2, .int v2), (3, .int v3), (4, .int v4), (5, .int v5), (6, .int v6)] 99 [] σ (f_X5_share_L99 k34 v1 v2 v3 v4 v5 v6 σ) := by
  have Y := X.1
  unfold f_X5_share_L99
  refine J_iconst (v := (1 : Int32)) Y dX5_share_99 (by decide) ?_
  refine J_goto (tgt := 104) Y dX5_share_100 (by decide) ?_
  exact j_X5_share_L104 X hk34 v1 v2 v3 v4 v5 v6 (1 : Int32) σ
set_option maxRecDepth 100000 in
set_option maxHeartbeats 4000000 in
theorem j_X5_share_L148 {E : JE} {G : JG} (X : JM E 8 cX5_share RX5 (some .int) 6 240 G) (s0 : Int32) (σ : ST) : Jg E 8 (JF E vI) [] 148 [.int s0] σ (f_X5_share_L148 s0 σ) := by
  have Y := X.1
  unfold f_X5_share_L148
  exact J_ireturn Y dX5_share_148
set_option maxRecDepth 100000 in
set_option maxHeartbeats 4000000 in
theorem j_X5_share_L138 {E : JE} {G : JG} (X : JM E 8 cX5_share RX5 (some .int) 6 240 G) (v2 : Int32) (v3 : Int32) (v4 : Int32) (σ : ST) : Jg E 8 (JF E vI) [(2, .int v2), (3, .int v3), (4, .int v4)] 138 [] σ (f_X5_share_L138 v2 v3 v4 σ) := by
  have Y := X.1
  unfold f_X5_share_L138
  refine J_iload_n Y 0 dX5_share_138 rfl rfl ?_
  refine J_if_ne (tgt := 146) Y dX5_share_139 (by decide) ?_ ?_
  · refine J_iload Y 2 dX5_share_146 rfl ?_
    refine J_sub [] rfl ?_
    exact j_X5_share_L148 X v4 σ
  · refine J_iload_n Y 1 dX5_share_142 rfl rfl ?_
    refine J_goto (tgt := 148) Y dX5_share_143 (by decide) ?_
    refine J_sub [] rfl ?_
    exact j_X5_share_L148 X v3 σ
set_option maxRecDepth 100000 in
set_option maxHeartbeats 4000000 in
theorem j_X5_share_L34 {E : JE} {G : JG} (X : JM E 8 cX5_share RX5 (some .int) 6 240 G) : ∀ (n : Nat) (v1 : Int32) (v2 : Int32) (v3 : Int32) (v4 : Int32) (v5 : Int32) (σ : ST), Jg E 8 (JF E vI) [(0, .ref (gO G 50)), (1, .int v1), (2, .int v2), (3, .int v3), (4, .int v4), (5, .int v5)] 34 [] σ (f_X5_share_L34 n v1 v2 v3 v4 v5 σ) := by
  have Y := X.1
  intro n
  induction n with
  | zero => intro v1 v2 v3 v4 v5 σ; rw [f_X5_share_L34]; exact J_none
  | succ n ih =>
    intro v1 v2 v3 v4 v5 σ
    rw [f_X5_share_L34]
    refine J_iload Y 5 dX5_share_34 rfl ?_
    refine J_aload_n Y 0 dX5_share_36 rfl rfl ?_
    refine M_get 0 X (by decide) rfl wfl_RX5_75 rfl dX5_share_37 ?_
    refine J_icmp_ge (tgt := 138) Y dX5_share_40 (by decide) ?_ ?_
    · refine J_sub [2, 3, 4] rfl ?_
      exact j_X5_share_L138 X v2 v3 v4 σ
    · refine J_aload_n Y 0 dX5_share_43 rfl rfl ?_
      refine M_get 3 X (by decide) rfl wfl_RX5_16 rfl dX5_share_44 ?_
      refine J_bipush (v := (12 : Int32)) Y dX5_share_47 (by decide) ?_
      refine J_iload Y 5 dX5_share_49 rfl ?_
      refine J_imul Y dX5_share_51 ?_
      refine J_iload_n Y 1 dX5_share_52 rfl rfl ?_
      refine J_iadd Y dX5_share_53 ?_
      refine M_ald X (mA_3 G _) dX5_share_54 (fun x54 => ?_)
      refine J_bipush (v := (9 : Int32)) Y dX5_share_55 (by decide) ?_
      refine J_icmp_ge (tgt := 132) Y dX5_share_57 (by decide) ?_ ?_
      · exact j_X5_share_L132 X (fun v1 v2 v3 v4 v5 σ => ih v1 v2 v3 v4 v5 σ) v1 v2 v3 v4 v5 σ
      · refine J_aload_n Y 0 dX5_share_60 rfl rfl ?_
        refine M_get 3 X (by decide) rfl wfl_RX5_16 rfl dX5_share_61 ?_
        refine J_bipush (v := (12 : Int32)) Y dX5_share_64 (by decide) ?_
        refine J_iload Y 5 dX5_share_66 rfl ?_
        refine J_imul Y dX5_share_68 ?_
        refine J_iload_n Y 1 dX5_share_69 rfl rfl ?_
        refine J_iadd Y dX5_share_70 ?_
        refine J_dup2 Y dX5_share_71 rfl rfl ?_
        refine M_ald X (mA_3 G _) dX5_share_72 (fun x72 => ?_)
        refine J_iconst (v := (1 : Int32)) Y dX5_share_73 (by decide) ?_
        refine J_iadd Y dX5_share_74 ?_
        refine M_ast X (mA_3 G _) (mS_3 G _) dX5_share_75 (fun t75 => ?_)
        refine J_aload_n Y 0 dX5_share_76 rfl rfl ?_
        refine J_iload_n Y 1 dX5_share_77 rfl rfl ?_
        refine M_cVi (As := [.int v1]) (st := []) rfl X (c_X5_witSharing G v1 _) wi_X5_witSharing win_X5_witSharing wse_X5_witSharing wml_RX5_238 ⟨Nat.le_of_ble_eq_true rfl, Nat.le_of_ble_eq_true rfl⟩ rfl (Nat.le_of_ble_eq_true rfl) dX5_share_78 (fun y78 t78 => ?_)
        refine J_istore [(6, .int y78), (0, .ref (gO G 50)), (1, .int v1), (2, .int v2), (3, .int v3), (4, .int v4), (5, .int v5)] Y dX5_share_81 (by decide) rfl ?_
        refine J_aload_n Y 1 dX5_share_83 rfl rfl ?_
        refine M_cVv (As := []) (st := []) rfl X (c_X5_lays G _) wi_X5_lays win_X5_lays wse_X5_lays wml_RX5_220 ⟨Nat.le_of_ble_eq_true rfl, Nat.le_of_ble_eq_true rfl⟩ rfl (Nat.le_of_ble_eq_true rfl) dX5_share_84 (fun t84 => ?_)
        refine J_iload_n Y 4 dX5_share_87 rfl rfl ?_
        refine J_iconst (v := (-1 : Int32)) Y dX5_share_88 (by decide) ?_
        refine J_icmp_eq (tgt := 99) Y dX5_share_89 (by decide) ?_ ?_
        · refine J_sub [1, 2, 3, 4, 5, 6, 0] rfl ?_
          exact j_X5_share_L99 X (fun v1 v2 v3 v4 v5 σ => ih v1 v2 v3 v4 v5 σ) v1 v2 v3 v4 v5 y78 t84
        · refine J_iload Y 0 dX5_share_92 rfl ?_
          refine J_iload Y 5 dX5_share_94 rfl ?_
          refine J_icmp_le (tgt := 103) Y dX5_share_96 (by decide) ?_ ?_
          · refine J_iconst (v := (0 : Int32)) Y dX5_share_103 (by decide) ?_
            refine J_sub [1, 2, 3, 4, 5, 6, 0] rfl ?_
            exact j_X5_share_L104 X (fun v1 v2 v3 v4 v5 σ => ih v1 v2 v3 v4 v5 σ) v1 v2 v3 v4 v5 y78 (0 : Int32) t84
          · refine J_sub [1, 2, 3, 4, 5, 6, 0] rfl ?_
            exact j_X5_share_L99 X (fun v1 v2 v3 v4 v5 σ => ih v1 v2 v3 v4 v5 σ) v1 v2 v3 v4 v5 y78 t84
set_option maxRecDepth 100000 in
set_option maxHeartbeats 4000000 in
theorem j_X5_share {E : JE} {G : JG} (X : JM E 8 cX5_share RX5 (some .int) 6 240 G) (v1 : Int32) (v2 : Int32) (σ : ST) : Jg E 8 (JF E vI) [(0, .ref (gO G 50)), (1, .int v1), (2, .int v2)] 0 [] σ (f_X5_share v1 v2 σ) := by
  have Y := X.1
  unfold f_X5_share
  refine J_iload_n Y 1 dX5_share_0 rfl rfl ?_
  refine M_cSi (As := [.int v1]) (st := []) rfl X (c_X5_isPlace G v1 _) wi_X5_isPlace wst_X5_isPlace wml_RX5_173 ⟨Nat.le_of_ble_eq_true rfl, Nat.le_of_ble_eq_true rfl⟩ rfl (Nat.le_of_ble_eq_true rfl) dX5_share_1 (fun y1 t1 => ?_)
  refine J_if_eq (tgt := 16) Y dX5_share_4 (by decide) ?_ ?_
  · refine J_sub [] rfl ?_
    exact j_X5_share_L16 X  t1
  · refine J_iload_n Y 2 dX5_share_7 rfl rfl ?_
    refine J_iconst (v := (0 : Int32)) Y dX5_share_8 (by decide) ?_
    refine J_iconst (v := (1 : Int32)) Y dX5_share_9 (by decide) ?_
    refine M_cSi (As := [.int v2, .int (0 : Int32), .int (1 : Int32)]) (st := []) rfl X (c_X5_in G v2 (0 : Int32) (1 : Int32) _) wi_X5_in wst_X5_in wml_RX5_78 ⟨Nat.le_of_ble_eq_true rfl, Nat.le_of_ble_eq_true rfl⟩ rfl (Nat.le_of_ble_eq_true rfl) dX5_share_10 (fun y10 t10 => ?_)
    refine J_if_ne (tgt := 19) Y dX5_share_13 (by decide) ?_ ?_
    · refine J_iconst (v := (-1 : Int32)) Y dX5_share_19 (by decide) ?_
      refine J_istore_n [(3, .int (-1 : Int32)), (0, .ref (gO G 50)), (1, .int v1), (2, .int v2)] Y dX5_share_20 rfl (by decide) rfl ?_
      refine J_aload_n Y 1 dX5_share_21 rfl rfl ?_
      refine M_cVi (As := []) (st := []) rfl X (c_X5_witAll G _) wi_X5_witAll win_X5_witAll wse_X5_witAll wml_RX5_235 ⟨Nat.le_of_ble_eq_true rfl, Nat.le_of_ble_eq_true rfl⟩ rfl (Nat.le_of_ble_eq_true rfl) dX5_share_22 (fun y22 t22 => ?_)
      refine J_istore [(4, .int y22), (3, .int (-1 : Int32)), (0, .ref (gO G 50)), (1, .int v1), (2, .int v2)] Y dX5_share_25 (by decide) rfl ?_
      refine J_aload_n Y 2 dX5_share_27 rfl rfl ?_
      refine M_cVv (As := []) (st := []) rfl X (c_X5_keeps G _) wi_X5_keeps win_X5_keeps wse_X5_keeps wml_RX5_214 ⟨Nat.le_of_ble_eq_true rfl, Nat.le_of_ble_eq_true rfl⟩ rfl (Nat.le_of_ble_eq_true rfl) dX5_share_28 (fun t28 => ?_)
      refine J_iconst (v := (0 : Int32)) Y dX5_share_31 (by decide) ?_
      refine J_istore [(5, .int (0 : Int32)), (4, .int y22), (3, .int (-1 : Int32)), (0, .ref (gO G 50)), (1, .int v1), (2, .int v2)] Y dX5_share_32 (by decide) rfl ?_
      refine J_sub [3, 4, 5, 2, 1, 0] rfl ?_
      exact j_X5_share_L34 X 1000 v1 v2 (-1 : Int32) y22 (0 : Int32) t28
    · refine J_sub [] rfl ?_
      exact j_X5_share_L16 X  t10
theorem c_X5_share (G : JG) (v1 : Int32) (v2 : Int32) (σ : ST) : Con (VM G) vI G.1 yX5_share cX5_share 8 (some .int) 6 240 [.ref (gO G 50), .int v1, .int v2] σ (f_X5_share v1 v2 σ) :=
  Con_of (VM_ok G) (by decide +kernel) (Nat.le_of_ble_eq_true rfl) (fun E e1 e2 _ X => j_X5_share ⟨X, e1, e2⟩ v1 v2 σ)
set_option maxRecDepth 100000 in
set_option maxHeartbeats 4000000 in
theorem j_X5_lowest_L51 {E : JE} {G : JG} (X : JM E 11 cX5_lowest RX5 (some .long) 0 0 G) (w5 : Int64) (z0 : Int64) (σ : ST) : Jg E 11 (JF E vL) [(5, .long w5)] 51 [.long z0] σ (f_X5_lowest_L51 w5 z0 σ) := by
  have Y := X.1
  unfold f_X5_lowest_L51
  refine J_lload Y 0 dX5_lowest_51 rfl ?_
  refine J_ldv (fun h53 => ?_)
  refine J_ldiv Y dX5_lowest_53 h53 ?_
  exact J_lreturn Y dX5_lowest_54
set_option maxRecDepth 100000 in
set_option maxHeartbeats 4000000 in
theorem j_X5_lowest_L41 {E : JE} {G : JG} (X : JM E 11 cX5_lowest RX5 (some .long) 0 0 G) (w0 : Int64) (w2 : Int64) (v4 : Int32) (w5 : Int64) (σ : ST) : Jg E 11 (JF E vL) [(0, .long w0), (2, .long w2), (4, .int v4), (5, .long w5)] 41 [] σ (f_X5_lowest_L41 w0 w2 v4 w5 σ) := by
  have Y := X.1
  unfold f_X5_lowest_L41
  refine J_iload Y 2 dX5_lowest_41 rfl ?_
  refine J_if_ne (tgt := 50) Y dX5_lowest_43 (by decide) ?_ ?_
  · refine J_lload_n Y 1 dX5_lowest_50 rfl rfl ?_
    refine J_sub [3] rfl ?_
    exact j_X5_lowest_L51 X w5 w2 σ
  · refine J_lload_n Y 0 dX5_lowest_46 rfl rfl ?_
    refine J_goto (tgt := 51) Y dX5_lowest_47 (by decide) ?_
    refine J_sub [3] rfl ?_
    exact j_X5_lowest_L51 X w5 w0 σ
set_option maxRecDepth 100000 in
set_option maxHeartbeats 4000000 in
theorem j_X5_lowest_L16 {E : JE} {G : JG} (X : JM E 11 cX5_lowest RX5 (some .long) 0 0 G) : ∀ (n : Nat) (w0 : Int64) (w2 : Int64) (v4 : Int32) (w5 : Int64) (w7 : Int64) (σ : ST), Jg E 11 (JF E vL) [(0, .long w0), (2, .long w2), (4, .int v4), (5, .long w5), (7, .long w7)] 16 [] σ (f_X5_lowest_L16 n w0 w2 v4 w5 w7 σ) := by
  have Y := X.1
  intro n
  induction n with
  | zero => intro w0 w2 v4 w5 w7 σ; rw [f_X5_lowest_L16]; exact J_none
  | succ n ih =>
    intro w0 w2 v4 w5 w7 σ
    rw [f_X5_lowest_L16]
    refine J_lload Y 4 dX5_lowest_16 rfl ?_
    refine J_lconst (v := (0 : Int64)) Y dX5_lowest_18 (by decide) ?_
    refine J_lcmp Y dX5_lowest_19 ?_
    refine J_if_eq (tgt := 41) Y dX5_lowest_20 (by decide) ?_ ?_
    · refine J_sub [0, 1, 2, 3] rfl ?_
      exact j_X5_lowest_L41 X w0 w2 v4 w5 σ
    · refine J_lload Y 3 dX5_lowest_23 rfl ?_
      refine J_lload Y 4 dX5_lowest_25 rfl ?_
      refine J_ldv (fun h27 => ?_)
      refine J_lrem Y dX5_lowest_27 h27 ?_
      refine J_lstore [(9, .long (w5 - w5 / w7 * w7)), (0, .long w0), (2, .long w2), (4, .int v4), (5, .long w5), (7, .long w7)] Y dX5_lowest_28 (by decide) rfl ?_
      refine J_lload Y 5 dX5_lowest_30 rfl ?_
      refine J_lstore [(5, .long w7), (9, .long (w5 - w5 / w7 * w7)), (0, .long w0), (2, .long w2), (4, .int v4), (7, .long w7)] Y dX5_lowest_32 (by decide) rfl ?_
      refine J_lload Y 1 dX5_lowest_34 rfl ?_
      refine J_lstore [(7, .long (w5 - w5 / w7 * w7)), (5, .long w7), (9, .long (w5 - w5 / w7 * w7)), (0, .long w0), (2, .long w2), (4, .int v4)] Y dX5_lowest_36 (by decide) rfl ?_
      refine J_goto (tgt := 16) Y dX5_lowest_38 (by decide) ?_
      refine J_sub [3, 4, 5, 1, 0] rfl ?_
      exact ih w0 w2 v4 w7 (w5 - w5 / w7 * w7) σ
set_option maxRecDepth 100000 in
set_option maxHeartbeats 4000000 in
theorem j_X5_lowest {E : JE} {G : JG} (X : JM E 11 cX5_lowest RX5 (some .long) 0 0 G) (w0 : Int64) (w2 : Int64) (v4 : Int32) (σ : ST) : Jg E 11 (JF E vL) [(0, .long w0), (2, .long w2), (4, .int v4)] 0 [] σ (f_X5_lowest w0 w2 v4 σ) := by
  have Y := X.1
  unfold f_X5_lowest
  refine J_lload_n Y 0 dX5_lowest_0 rfl rfl ?_
  refine J_lconst (v := (0 : Int64)) Y dX5_lowest_1 (by decide) ?_
  refine J_lcmp Y dX5_lowest_2 ?_
  refine J_if_ne (tgt := 10) Y dX5_lowest_3 (by decide) ?_ ?_
  · refine J_lload_n Y 0 dX5_lowest_10 rfl rfl ?_
    refine J_lstore [(5, .long w0), (0, .long w0), (2, .long w2), (4, .int v4)] Y dX5_lowest_11 (by decide) rfl ?_
    refine J_lload_n Y 2 dX5_lowest_13 rfl rfl ?_
    refine J_lstore [(7, .long w2), (5, .long w0), (0, .long w0), (2, .long w2), (4, .int v4)] Y dX5_lowest_14 (by decide) rfl ?_
    refine J_sub [2, 3, 4, 1, 0] rfl ?_
    exact j_X5_lowest_L16 X 1000 w0 w2 v4 w0 w2 σ
  · refine J_iload Y 2 dX5_lowest_6 rfl ?_
    refine J_i2l Y dX5_lowest_8 ?_
    exact J_lreturn Y dX5_lowest_9
theorem c_X5_lowest (G : JG) (w0 : Int64) (w2 : Int64) (v4 : Int32) (σ : ST) : Con (VM G) vL G.1 yX5_lowest cX5_lowest 11 (some .long) 0 0 [.long w0, .long w2, .int v4] σ (f_X5_lowest w0 w2 v4 σ) :=
  Con_of (VM_ok G) (by decide +kernel) (Nat.le_of_ble_eq_true rfl) (fun E e1 e2 _ X => j_X5_lowest ⟨X, e1, e2⟩ w0 w2 v4 σ)
set_option maxRecDepth 100000 in
set_option maxHeartbeats 4000000 in
theorem j_X5_grainsOf_L4 {E : JE} {G : JG} (X : JM E 4 cX5_grainsOf RX5 (some .int) 0 0 G) : ∀ (n : Nat) (v1 : Int32) (v2 : Int32) (v3 : Int32) (σ : ST), Jg E 4 (JF E vI) [(0, .ref (gO G 50)), (1, .int v1), (2, .int v2), (3, .int v3)] 4 [] σ (f_X5_grainsOf_L4 n v1 v2 v3 σ) := by
  have Y := X.1
  intro n
  induction n with
  | zero => intro v1 v2 v3 σ; rw [f_X5_grainsOf_L4]; exact J_none
  | succ n ih =>
    intro v1 v2 v3 σ
    rw [f_X5_grainsOf_L4]
    refine J_iload_n Y 3 dX5_grainsOf_4 rfl rfl ?_
    refine J_bipush (v := (8 : Int32)) Y dX5_grainsOf_5 (by decide) ?_
    refine J_icmp_ge (tgt := 30) Y dX5_grainsOf_7 (by decide) ?_ ?_
    · refine J_iload_n Y 2 dX5_grainsOf_30 rfl rfl ?_
      exact J_ireturn Y dX5_grainsOf_31
    · refine J_iload_n Y 2 dX5_grainsOf_10 rfl rfl ?_
      refine J_aload_n Y 0 dX5_grainsOf_11 rfl rfl ?_
      refine M_get 3 X (by decide) rfl wfl_RX5_16 rfl dX5_grainsOf_12 ?_
      refine J_bipush (v := (12 : Int32)) Y dX5_grainsOf_15 (by decide) ?_
      refine J_iload_n Y 1 dX5_grainsOf_17 rfl rfl ?_
      refine J_imul Y dX5_grainsOf_18 ?_
      refine J_iload_n Y 3 dX5_grainsOf_19 rfl rfl ?_
      refine J_iadd Y dX5_grainsOf_20 ?_
      refine M_ald X (mA_3 G _) dX5_grainsOf_21 (fun x21 => ?_)
      refine J_iadd Y dX5_grainsOf_22 ?_
      refine J_istore_n [(2, .int (v2 + x21)), (0, .ref (gO G 50)), (1, .int v1), (3, .int v3)] Y dX5_grainsOf_23 rfl (by decide) rfl ?_
      refine J_iinc (v := v3 + (1 : Int32)) [(3, .int (v3 + (1 : Int32))), (2, .int (v2 + x21)), (0, .ref (gO G 50)), (1, .int v1)] Y 3 dX5_grainsOf_24 rfl (congrArg (fun z => _ + z) (by decide)) (by decide) rfl ?_
      refine J_goto (tgt := 4) Y dX5_grainsOf_27 (by decide) ?_
      refine J_sub [2, 3, 1, 0] rfl ?_
      exact ih v1 (v2 + x21) (v3 + (1 : Int32)) σ
set_option maxRecDepth 100000 in
set_option maxHeartbeats 4000000 in
theorem j_X5_grainsOf {E : JE} {G : JG} (X : JM E 4 cX5_grainsOf RX5 (some .int) 0 0 G) (v1 : Int32) (σ : ST) : Jg E 4 (JF E vI) [(0, .ref (gO G 50)), (1, .int v1)] 0 [] σ (f_X5_grainsOf v1 σ) := by
  have Y := X.1
  unfold f_X5_grainsOf
  refine J_iconst (v := (0 : Int32)) Y dX5_grainsOf_0 (by decide) ?_
  refine J_istore_n [(2, .int (0 : Int32)), (0, .ref (gO G 50)), (1, .int v1)] Y dX5_grainsOf_1 rfl (by decide) rfl ?_
  refine J_iconst (v := (0 : Int32)) Y dX5_grainsOf_2 (by decide) ?_
  refine J_istore_n [(3, .int (0 : Int32)), (2, .int (0 : Int32)), (0, .ref (gO G 50)), (1, .int v1)] Y dX5_grainsOf_3 rfl (by decide) rfl ?_
  refine J_sub [2, 3, 1, 0] rfl ?_
  exact j_X5_grainsOf_L4 X 1000 v1 (0 : Int32) (0 : Int32) σ
theorem c_X5_grainsOf (G : JG) (v1 : Int32) (σ : ST) : Con (VM G) vI G.1 yX5_grainsOf cX5_grainsOf 4 (some .int) 0 0 [.ref (gO G 50), .int v1] σ (f_X5_grainsOf v1 σ) :=
  Con_of (VM_ok G) (by decide +kernel) (Nat.le_of_ble_eq_true rfl) (fun E e1 e2 _ X => j_X5_grainsOf ⟨X, e1, e2⟩ v1 σ)
set_option maxRecDepth 100000 in
set_option maxHeartbeats 4000000 in
theorem j_X5_box_L68 {E : JE} {G : JG} (X : JM E 5 cX5_box RX5 (some .long) 2 80 G) (z0 : Int64) (σ : ST) : Jg E 5 (JF E vL) [] 68 [.long z0] σ (f_X5_box_L68 z0 σ) := by
  have Y := X.1
  unfold f_X5_box_L68
  exact J_lreturn Y dX5_box_68
set_option maxRecDepth 100000 in
set_option maxHeartbeats 4000000 in
theorem j_X5_box_L65 {E : JE} {G : JG} (X : JM E 5 cX5_box RX5 (some .long) 2 80 G) (σ : ST) : Jg E 5 (JF E vL) [] 65 [] σ (f_X5_box_L65 σ) := by
  have Y := X.1
  unfold f_X5_box_L65
  refine J_ldc2 (v := (-4611686018427387904 : Int64)) Y wcl_RX5_248 dX5_box_65 ?_
  exact j_X5_box_L68 X (-4611686018427387904 : Int64) σ
set_option maxRecDepth 100000 in
set_option maxHeartbeats 4000000 in
theorem j_X5_box_L29 {E : JE} {G : JG} (X : JM E 5 cX5_box RX5 (some .long) 2 80 G) (v1 : Int32) (v2 : Int32) (v3 : Int32) (σ : ST) : Jg E 5 (JF E vL) [(0, .ref (gO G 50)), (1, .int v1), (2, .int v2), (3, .int v3)] 29 [] σ (f_X5_box_L29 v1 v2 v3 σ) := by
  have Y := X.1
  unfold f_X5_box_L29
  refine J_aload_n Y 0 dX5_box_29 rfl rfl ?_
  refine J_iload_n Y 1 dX5_box_30 rfl rfl ?_
  refine M_cVi (As := [.int v1]) (st := []) rfl X (c_X5_isOne G v1 _) wi_X5_isOne win_X5_isOne wse_X5_isOne wml_RX5_170 ⟨Nat.le_of_ble_eq_true rfl, Nat.le_of_ble_eq_true rfl⟩ rfl (Nat.le_of_ble_eq_true rfl) dX5_box_31 (fun y31 t31 => ?_)
  refine J_if_eq (tgt := 65) Y dX5_box_34 (by decide) ?_ ?_
  · refine J_sub [] rfl ?_
    exact j_X5_box_L65 X  t31
  · refine J_iload_n Y 2 dX5_box_37 rfl rfl ?_
    refine J_iconst (v := (0 : Int32)) Y dX5_box_38 (by decide) ?_
    refine J_iconst (v := (1 : Int32)) Y dX5_box_39 (by decide) ?_
    refine M_cSi (As := [.int v2, .int (0 : Int32), .int (1 : Int32)]) (st := []) rfl X (c_X5_in G v2 (0 : Int32) (1 : Int32) _) wi_X5_in wst_X5_in wml_RX5_78 ⟨Nat.le_of_ble_eq_true rfl, Nat.le_of_ble_eq_true rfl⟩ rfl (Nat.le_of_ble_eq_true rfl) dX5_box_40 (fun y40 t40 => ?_)
    refine J_if_eq (tgt := 65) Y dX5_box_43 (by decide) ?_ ?_
    · refine J_sub [] rfl ?_
      exact j_X5_box_L65 X  t40
    · refine J_iload_n Y 3 dX5_box_46 rfl rfl ?_
      refine J_if_le (tgt := 65) Y dX5_box_47 (by decide) ?_ ?_
      · refine J_sub [] rfl ?_
        exact j_X5_box_L65 X  t40
      · refine J_aload_n Y 0 dX5_box_50 rfl rfl ?_
        refine J_iload_n Y 1 dX5_box_51 rfl rfl ?_
        refine M_cVi (As := [.int v1]) (st := []) rfl X (c_X5_grainsOf G v1 _) wi_X5_grainsOf win_X5_grainsOf wse_X5_grainsOf wml_RX5_241 ⟨Nat.le_of_ble_eq_true rfl, Nat.le_of_ble_eq_true rfl⟩ rfl (Nat.le_of_ble_eq_true rfl) dX5_box_52 (fun y52 t52 => ?_)
        refine J_i2l Y dX5_box_55 ?_
        refine J_iload_n Y 3 dX5_box_56 rfl rfl ?_
        refine J_i2l Y dX5_box_57 ?_
        refine J_iload_n Y 2 dX5_box_58 rfl rfl ?_
        refine M_cSl (As := [.long (y52.toInt64), .long (v3.toInt64), .int v2]) (st := []) rfl X (c_X5_lowest G (y52.toInt64) (v3.toInt64) v2 _) wi_X5_lowest wst_X5_lowest wml_RX5_244 ⟨Nat.le_of_ble_eq_true rfl, Nat.le_of_ble_eq_true rfl⟩ rfl (Nat.le_of_ble_eq_true rfl) dX5_box_59 (fun y59 t59 => ?_)
        refine J_goto (tgt := 68) Y dX5_box_62 (by decide) ?_
        refine J_sub [] rfl ?_
        exact j_X5_box_L68 X y59 t59
set_option maxRecDepth 100000 in
set_option maxHeartbeats 4000000 in
theorem j_X5_box_L5 {E : JE} {G : JG} (X : JM E 5 cX5_box RX5 (some .long) 2 80 G) : ∀ (n : Nat) (v1 : Int32) (v2 : Int32) (v3 : Int32) (v4 : Int32) (σ : ST), Jg E 5 (JF E vL) [(0, .ref (gO G 50)), (1, .int v1), (2, .int v2), (3, .int v3), (4, .int v4)] 5 [] σ (f_X5_box_L5 n v1 v2 v3 v4 σ) := by
  have Y := X.1
  intro n
  induction n with
  | zero => intro v1 v2 v3 v4 σ; rw [f_X5_box_L5]; exact J_none
  | succ n ih =>
    intro v1 v2 v3 v4 σ
    rw [f_X5_box_L5]
    refine J_iload Y 4 dX5_box_5 rfl ?_
    refine J_aload_n Y 0 dX5_box_7 rfl rfl ?_
    refine M_get 0 X (by decide) rfl wfl_RX5_75 rfl dX5_box_8 ?_
    refine J_icmp_ge (tgt := 29) Y dX5_box_11 (by decide) ?_ ?_
    · refine J_sub [0, 1, 2, 3] rfl ?_
      exact j_X5_box_L29 X v1 v2 v3 σ
    · refine J_iload_n Y 3 dX5_box_14 rfl rfl ?_
      refine J_aload_n Y 0 dX5_box_15 rfl rfl ?_
      refine J_iload Y 4 dX5_box_16 rfl ?_
      refine M_cVi (As := [.int v4]) (st := [.int v3]) rfl X (c_X5_grainsOf G v4 _) wi_X5_grainsOf win_X5_grainsOf wse_X5_grainsOf wml_RX5_241 ⟨Nat.le_of_ble_eq_true rfl, Nat.le_of_ble_eq_true rfl⟩ rfl (Nat.le_of_ble_eq_true rfl) dX5_box_18 (fun y18 t18 => ?_)
      refine J_iadd Y dX5_box_21 ?_
      refine J_istore_n [(3, .int (v3 + y18)), (0, .ref (gO G 50)), (1, .int v1), (2, .int v2), (4, .int v4)] Y dX5_box_22 rfl (by decide) rfl ?_
      refine J_iinc (v := v4 + (1 : Int32)) [(4, .int (v4 + (1 : Int32))), (3, .int (v3 + y18)), (0, .ref (gO G 50)), (1, .int v1), (2, .int v2)] Y 4 dX5_box_23 rfl (congrArg (fun z => _ + z) (by decide)) (by decide) rfl ?_
      refine J_goto (tgt := 5) Y dX5_box_26 (by decide) ?_
      refine J_sub [2, 3, 4, 1, 0] rfl ?_
      exact ih v1 v2 (v3 + y18) (v4 + (1 : Int32)) t18
set_option maxRecDepth 100000 in
set_option maxHeartbeats 4000000 in
theorem j_X5_box {E : JE} {G : JG} (X : JM E 5 cX5_box RX5 (some .long) 2 80 G) (v1 : Int32) (v2 : Int32) (σ : ST) : Jg E 5 (JF E vL) [(0, .ref (gO G 50)), (1, .int v1), (2, .int v2)] 0 [] σ (f_X5_box v1 v2 σ) := by
  have Y := X.1
  unfold f_X5_box
  refine J_iconst (v := (0 : Int32)) Y dX5_box_0 (by decide) ?_
  refine J_istore_n [(3, .int (0 : Int32)), (0, .ref (gO G 50)), (1, .int v1), (2, .int v2)] Y dX5_box_1 rfl (by decide) rfl ?_
  refine J_iconst (v := (0 : Int32)) Y dX5_box_2 (by decide) ?_
  refine J_istore [(4, .int (0 : Int32)), (3, .int (0 : Int32)), (0, .ref (gO G 50)), (1, .int v1), (2, .int v2)] Y dX5_box_3 (by decide) rfl ?_
  refine J_sub [2, 3, 4, 1, 0] rfl ?_
  exact j_X5_box_L5 X 1000 v1 v2 (0 : Int32) (0 : Int32) σ
theorem c_X5_box (G : JG) (v1 : Int32) (v2 : Int32) (σ : ST) : Con (VM G) vL G.1 yX5_box cX5_box 5 (some .long) 2 80 [.ref (gO G 50), .int v1, .int v2] σ (f_X5_box v1 v2 σ) :=
  Con_of (VM_ok G) (by decide +kernel) (Nat.le_of_ble_eq_true rfl) (fun E e1 e2 _ X => j_X5_box ⟨X, e1, e2⟩ v1 v2 σ)
