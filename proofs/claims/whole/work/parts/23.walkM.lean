set_option maxRecDepth 100000 in
set_option maxHeartbeats 4000000 in
theorem j_X5_twoWrong_L58 {E : JE} {G : JG} (X : JM E 4 cX5_twoWrong RX5 (some .int) 3 120 G) (s0 : Int32) (σ : ST) : Jg E 4 (JF E vI) [] 58 [.int s0] σ (f_X5_twoWrong_L58 s0 σ) := by
  have Y := X.1
  unfold f_X5_twoWrong_L58
  exact J_ireturn Y dX5_twoWrong_58
set_option maxRecDepth 100000 in
set_option maxHeartbeats 4000000 in
theorem j_X5_twoWrong {E : JE} {G : JG} (X : JM E 4 cX5_twoWrong RX5 (some .int) 3 120 G) (v1 : Int32) (v2 : Int32) (σ : ST) : Jg E 4 (JF E vI) [(0, .ref (gO G 50)), (1, .int v1), (2, .int v2)] 0 [] σ (f_X5_twoWrong v1 v2 σ) := by
  have Y := X.1
  unfold f_X5_twoWrong
  refine J_iload_n Y 2 dX5_twoWrong_0 rfl rfl ?_
  refine J_iconst (v := (0 : Int32)) Y dX5_twoWrong_1 (by decide) ?_
  refine J_iconst (v := (3 : Int32)) Y dX5_twoWrong_2 (by decide) ?_
  refine M_cSi (As := [.int v2, .int (0 : Int32), .int (3 : Int32)]) (st := []) rfl X (c_X5_in G v2 (0 : Int32) (3 : Int32) _) wi_X5_in wst_X5_in wml_RX5_78 ⟨Nat.le_of_ble_eq_true rfl, Nat.le_of_ble_eq_true rfl⟩ rfl (Nat.le_of_ble_eq_true rfl) dX5_twoWrong_3 (fun y3 t3 => ?_)
  refine J_if_ne (tgt := 12) Y dX5_twoWrong_6 (by decide) ?_ ?_
  · refine J_aload_n Y 0 dX5_twoWrong_12 rfl rfl ?_
    refine J_iload_n Y 1 dX5_twoWrong_13 rfl rfl ?_
    refine M_cVi (As := [.int v1]) (st := []) rfl X (c_X5_eveningWrong G v1 _) wi_X5_eveningWrong win_X5_eveningWrong wse_X5_eveningWrong wml_RX5_211 ⟨Nat.le_of_ble_eq_true rfl, Nat.le_of_ble_eq_true rfl⟩ rfl (Nat.le_of_ble_eq_true rfl) dX5_twoWrong_14 (fun y14 t14 => ?_)
    refine J_istore_n [(3, .int y14), (0, .ref (gO G 50)), (1, .int v1), (2, .int v2)] Y dX5_twoWrong_17 rfl (by decide) rfl ?_
    refine J_iload_n Y 0 dX5_twoWrong_18 rfl rfl ?_
    refine J_if_eq (tgt := 24) Y dX5_twoWrong_19 (by decide) ?_ ?_
    · refine J_aload_n Y 1 dX5_twoWrong_24 rfl rfl ?_
      refine M_get 14 X (by decide) rfl wfl_RX5_34 rfl dX5_twoWrong_25 ?_
      refine J_iload_n Y 3 dX5_twoWrong_28 rfl rfl ?_
      refine M_ald X (mA_14 G _) dX5_twoWrong_29 (fun x29 => ?_)
      refine J_iconst (v := (-1 : Int32)) Y dX5_twoWrong_30 (by decide) ?_
      refine J_icmp_ne (tgt := 37) Y dX5_twoWrong_31 (by decide) ?_ ?_
      · refine J_aload_n Y 1 dX5_twoWrong_37 rfl rfl ?_
        refine M_get 15 X (by decide) rfl wfl_RX5_37 rfl dX5_twoWrong_38 ?_
        refine J_iload_n Y 3 dX5_twoWrong_41 rfl rfl ?_
        refine M_ald X (mA_15 G _) dX5_twoWrong_42 (fun x42 => ?_)
        refine J_aload_n Y 1 dX5_twoWrong_43 rfl rfl ?_
        refine M_get 15 X (by decide) rfl wfl_RX5_37 rfl dX5_twoWrong_44 ?_
        refine J_iload_n Y 2 dX5_twoWrong_47 rfl rfl ?_
        refine M_ald X (mA_15 G _) dX5_twoWrong_48 (fun x48 => ?_)
        refine J_icmp_le (tgt := 57) Y dX5_twoWrong_49 (by decide) ?_ ?_
        · refine J_iconst (v := (0 : Int32)) Y dX5_twoWrong_57 (by decide) ?_
          refine J_sub [] rfl ?_
          exact j_X5_twoWrong_L58 X (0 : Int32) t14
        · refine J_bipush (v := (-2 : Int32)) Y dX5_twoWrong_52 (by decide) ?_
          refine J_goto (tgt := 58) Y dX5_twoWrong_54 (by decide) ?_
          refine J_sub [] rfl ?_
          exact j_X5_twoWrong_L58 X (-2 : Int32) t14
      · refine J_bipush (v := (-11 : Int32)) Y dX5_twoWrong_34 (by decide) ?_
        exact J_ireturn Y dX5_twoWrong_36
    · refine J_iload_n Y 0 dX5_twoWrong_22 rfl rfl ?_
      exact J_ireturn Y dX5_twoWrong_23
  · refine J_bipush (v := (-2 : Int32)) Y dX5_twoWrong_9 (by decide) ?_
    exact J_ireturn Y dX5_twoWrong_11
theorem c_X5_twoWrong (G : JG) (v1 : Int32) (v2 : Int32) (σ : ST) : Con (VM G) vI G.1 yX5_twoWrong cX5_twoWrong 4 (some .int) 3 120 [.ref (gO G 50), .int v1, .int v2] σ (f_X5_twoWrong v1 v2 σ) :=
  Con_of (VM_ok G) (by decide +kernel) (Nat.le_of_ble_eq_true rfl) (fun E e1 e2 _ X => j_X5_twoWrong ⟨X, e1, e2⟩ v1 v2 σ)
set_option maxRecDepth 100000 in
set_option maxHeartbeats 4000000 in
theorem j_X5_toldWrong_L32 {E : JE} {G : JG} (X : JM E 5 cX5_toldWrong RX5 (some .int) 4 160 G) (s0 : Int32) (σ : ST) : Jg E 5 (JF E vI) [] 32 [.int s0] σ (f_X5_toldWrong_L32 s0 σ) := by
  have Y := X.1
  unfold f_X5_toldWrong_L32
  exact J_ireturn Y dX5_toldWrong_32
set_option maxRecDepth 100000 in
set_option maxHeartbeats 4000000 in
theorem j_X5_toldWrong {E : JE} {G : JG} (X : JM E 5 cX5_toldWrong RX5 (some .int) 4 160 G) (v1 : Int32) (v2 : Int32) (v3 : Int32) (σ : ST) : Jg E 5 (JF E vI) [(0, .ref (gO G 50)), (1, .int v1), (2, .int v2), (3, .int v3)] 0 [] σ (f_X5_toldWrong v1 v2 v3 σ) := by
  have Y := X.1
  unfold f_X5_toldWrong
  refine J_aload_n Y 0 dX5_toldWrong_0 rfl rfl ?_
  refine J_iload_n Y 1 dX5_toldWrong_1 rfl rfl ?_
  refine J_iload_n Y 2 dX5_toldWrong_2 rfl rfl ?_
  refine M_cVi (As := [.int v1, .int v2]) (st := []) rfl X (c_X5_twoWrong G v1 v2 _) wi_X5_twoWrong win_X5_twoWrong wse_X5_twoWrong wml_RX5_250 ⟨Nat.le_of_ble_eq_true rfl, Nat.le_of_ble_eq_true rfl⟩ rfl (Nat.le_of_ble_eq_true rfl) dX5_toldWrong_3 (fun y3 t3 => ?_)
  refine J_istore [(4, .int y3), (0, .ref (gO G 50)), (1, .int v1), (2, .int v2), (3, .int v3)] Y dX5_toldWrong_6 (by decide) rfl ?_
  refine J_iload Y 0 dX5_toldWrong_8 rfl ?_
  refine J_if_eq (tgt := 18) Y dX5_toldWrong_10 (by decide) ?_ ?_
  · refine J_aload_n Y 1 dX5_toldWrong_18 rfl rfl ?_
    refine J_iload_n Y 4 dX5_toldWrong_19 rfl rfl ?_
    refine M_cVi (As := [.int v3]) (st := []) rfl X (c_X5_isOne G v3 _) wi_X5_isOne win_X5_isOne wse_X5_isOne wml_RX5_170 ⟨Nat.le_of_ble_eq_true rfl, Nat.le_of_ble_eq_true rfl⟩ rfl (Nat.le_of_ble_eq_true rfl) dX5_toldWrong_20 (fun y20 t20 => ?_)
    refine J_if_eq (tgt := 30) Y dX5_toldWrong_23 (by decide) ?_ ?_
    · refine J_bipush (v := (-5 : Int32)) Y dX5_toldWrong_30 (by decide) ?_
      refine J_sub [] rfl ?_
      exact j_X5_toldWrong_L32 X (-5 : Int32) t20
    · refine J_iconst (v := (0 : Int32)) Y dX5_toldWrong_26 (by decide) ?_
      refine J_goto (tgt := 32) Y dX5_toldWrong_27 (by decide) ?_
      refine J_sub [] rfl ?_
      exact j_X5_toldWrong_L32 X (0 : Int32) t20
  · refine J_iload Y 0 dX5_toldWrong_13 rfl ?_
    refine J_goto (tgt := 32) Y dX5_toldWrong_15 (by decide) ?_
    refine J_sub [] rfl ?_
    exact j_X5_toldWrong_L32 X y3 t3
theorem c_X5_toldWrong (G : JG) (v1 : Int32) (v2 : Int32) (v3 : Int32) (σ : ST) : Con (VM G) vI G.1 yX5_toldWrong cX5_toldWrong 5 (some .int) 4 160 [.ref (gO G 50), .int v1, .int v2, .int v3] σ (f_X5_toldWrong v1 v2 v3 σ) :=
  Con_of (VM_ok G) (by decide +kernel) (Nat.le_of_ble_eq_true rfl) (fun E e1 e2 _ X => j_X5_toldWrong ⟨X, e1, e2⟩ v1 v2 v3 σ)
set_option maxRecDepth 100000 in
set_option maxHeartbeats 4000000 in
theorem j_X5_unlike_L82 {E : JE} {G : JG} (X : JM E 6 cX5_unlike RX5 (some .int) 6 240 G) {k10 : Int32 → Int32 → Int32 → Int32 → Int32 → ST → Option (Int32 × ST)} (hk10 : ∀ (v1 : Int32) (v2 : Int32) (v3 : Int32) (v4 : Int32) (v5 : Int32) (σ : ST), Jg E 6 (JF E vI) [(0, .ref (gO G 50)), (1, .int v1), (2, .int v2), (3, .int v3), (4, .int v4), (5, .int v5)] 10 [] σ (k10 v1 v2 v3 v4 v5 σ)) (v1 : Int32) (v2 : Int32) (v3 : Int32) (v5 : Int32) (s0 : Int32) (σ : ST) : Jg E 6 (JF E vI) [(0, .ref (gO G 50)), (1, .int v1), (2, .int v2), (3, .int v3), (5, .int v5)] 82 [.int s0] σ (f_X5_unlike_L82 k10 v1 v2 v3 v5 s0 σ) := by
  have Y := X.1
  unfold f_X5_unlike_L82
  refine J_istore [(4, .int s0), (0, .ref (gO G 50)), (1, .int v1), (2, .int v2), (3, .int v3), (5, .int v5)] Y dX5_unlike_82 (by decide) rfl ?_
  refine J_iinc (v := v5 + (1 : Int32)) [(5, .int (v5 + (1 : Int32))), (4, .int s0), (0, .ref (gO G 50)), (1, .int v1), (2, .int v2), (3, .int v3)] Y 5 dX5_unlike_84 rfl (congrArg (fun z => _ + z) (by decide)) (by decide) rfl ?_
  refine J_goto (tgt := 10) Y dX5_unlike_87 (by decide) ?_
  refine J_sub [2, 3, 4, 5, 1, 0] rfl ?_
  exact hk10 v1 v2 v3 s0 (v5 + (1 : Int32)) σ
set_option maxRecDepth 100000 in
set_option maxHeartbeats 4000000 in
theorem j_X5_unlike_L90 {E : JE} {G : JG} (X : JM E 6 cX5_unlike RX5 (some .int) 6 240 G) (v4 : Int32) (σ : ST) : Jg E 6 (JF E vI) [(0, .ref (gO G 50)), (4, .int v4)] 90 [] σ (f_X5_unlike_L90 v4 σ) := by
  have Y := X.1
  unfold f_X5_unlike_L90
  refine J_aload_n Y 0 dX5_unlike_90 rfl rfl ?_
  refine M_cVv (As := []) (st := []) rfl X (c_X5_lays G _) wi_X5_lays win_X5_lays wse_X5_lays wml_RX5_220 ⟨Nat.le_of_ble_eq_true rfl, Nat.le_of_ble_eq_true rfl⟩ rfl (Nat.le_of_ble_eq_true rfl) dX5_unlike_91 (fun t91 => ?_)
  refine J_iload Y 1 dX5_unlike_94 rfl ?_
  exact J_ireturn Y dX5_unlike_96
set_option maxRecDepth 100000 in
set_option maxHeartbeats 4000000 in
theorem j_X5_unlike_L10 {E : JE} {G : JG} (X : JM E 6 cX5_unlike RX5 (some .int) 6 240 G) : ∀ (n : Nat) (v1 : Int32) (v2 : Int32) (v3 : Int32) (v4 : Int32) (v5 : Int32) (σ : ST), Jg E 6 (JF E vI) [(0, .ref (gO G 50)), (1, .int v1), (2, .int v2), (3, .int v3), (4, .int v4), (5, .int v5)] 10 [] σ (f_X5_unlike_L10 n v1 v2 v3 v4 v5 σ) := by
  have Y := X.1
  intro n
  induction n with
  | zero => intro v1 v2 v3 v4 v5 σ; rw [f_X5_unlike_L10]; exact J_none
  | succ n ih =>
    intro v1 v2 v3 v4 v5 σ
    rw [f_X5_unlike_L10]
    refine J_iload Y 5 dX5_unlike_10 rfl ?_
    refine J_aload_n Y 0 dX5_unlike_12 rfl rfl ?_
    refine M_get 15 X (by decide) rfl wfl_RX5_37 rfl dX5_unlike_13 ?_
    refine J_iload_n Y 2 dX5_unlike_16 rfl rfl ?_
    refine M_ald X (mA_15 G _) dX5_unlike_17 (fun x17 => ?_)
    refine J_icmp_ge (tgt := 90) Y dX5_unlike_18 (by decide) ?_ ?_
    · refine J_sub [0, 4] rfl ?_
      exact j_X5_unlike_L90 X v4 σ
    · refine J_iload Y 4 dX5_unlike_21 rfl ?_
      refine J_iconst (v := (-1 : Int32)) Y dX5_unlike_23 (by decide) ?_
      refine J_icmp_ne (tgt := 90) Y dX5_unlike_24 (by decide) ?_ ?_
      · refine J_sub [0, 4] rfl ?_
        exact j_X5_unlike_L90 X v4 σ
      · refine J_aload_n Y 0 dX5_unlike_27 rfl rfl ?_
        refine J_aload_n Y 0 dX5_unlike_28 rfl rfl ?_
        refine M_get 16 X (by decide) rfl wfl_RX5_40 rfl dX5_unlike_29 ?_
        refine J_bipush (v := (40 : Int32)) Y dX5_unlike_32 (by decide) ?_
        refine J_iload_n Y 1 dX5_unlike_34 rfl rfl ?_
        refine J_imul Y dX5_unlike_35 ?_
        refine J_iload Y 5 dX5_unlike_36 rfl ?_
        refine J_iadd Y dX5_unlike_38 ?_
        refine M_ald X (mA_16 G _) dX5_unlike_39 (fun x39 => ?_)
        refine M_cVi (As := [.int x39]) (st := []) rfl X (c_X5_takesOne G x39 _) wi_X5_takesOne win_X5_takesOne wse_X5_takesOne wml_RX5_208 ⟨Nat.le_of_ble_eq_true rfl, Nat.le_of_ble_eq_true rfl⟩ rfl (Nat.le_of_ble_eq_true rfl) dX5_unlike_40 (fun y40 t40 => ?_)
        refine J_pop Y dX5_unlike_43 rfl ?_
        refine J_aload_n Y 0 dX5_unlike_44 rfl rfl ?_
        refine M_cVi (As := []) (st := []) rfl X (c_X5_minuteOf G _) wi_X5_minuteOf win_X5_minuteOf wse_X5_minuteOf wml_RX5_199 ⟨Nat.le_of_ble_eq_true rfl, Nat.le_of_ble_eq_true rfl⟩ rfl (Nat.le_of_ble_eq_true rfl) dX5_unlike_45 (fun y45 t45 => ?_)
        refine J_pop Y dX5_unlike_48 rfl ?_
        refine J_aload_n Y 0 dX5_unlike_49 rfl rfl ?_
        refine M_get 16 X (by decide) rfl wfl_RX5_40 rfl dX5_unlike_50 ?_
        refine J_bipush (v := (40 : Int32)) Y dX5_unlike_53 (by decide) ?_
        refine J_iload_n Y 2 dX5_unlike_55 rfl rfl ?_
        refine J_imul Y dX5_unlike_56 ?_
        refine J_iload Y 5 dX5_unlike_57 rfl ?_
        refine J_iadd Y dX5_unlike_59 ?_
        refine M_ald X (mA_16 G _) dX5_unlike_60 (fun x60 => ?_)
        refine J_aload_n Y 0 dX5_unlike_61 rfl rfl ?_
        refine M_get 3 X (by decide) rfl wfl_RX5_16 rfl dX5_unlike_62 ?_
        refine J_bipush (v := (12 : Int32)) Y dX5_unlike_65 (by decide) ?_
        refine J_iload_n Y 3 dX5_unlike_67 rfl rfl ?_
        refine J_imul Y dX5_unlike_68 ?_
        refine J_bipush (v := (8 : Int32)) Y dX5_unlike_69 (by decide) ?_
        refine J_iadd Y dX5_unlike_71 ?_
        refine M_ald X (mA_3 G _) dX5_unlike_72 (fun x72 => ?_)
        refine J_icmp_ne (tgt := 80) Y dX5_unlike_73 (by decide) ?_ ?_
        · refine J_iload Y 5 dX5_unlike_80 rfl ?_
          refine J_sub [0, 1, 2, 3, 5] rfl ?_
          exact j_X5_unlike_L82 X (fun v1 v2 v3 v4 v5 σ => ih v1 v2 v3 v4 v5 σ) v1 v2 v3 v5 v5 t45
        · refine J_iconst (v := (-1 : Int32)) Y dX5_unlike_76 (by decide) ?_
          refine J_goto (tgt := 82) Y dX5_unlike_77 (by decide) ?_
          refine J_sub [0, 1, 2, 3, 5] rfl ?_
          exact j_X5_unlike_L82 X (fun v1 v2 v3 v4 v5 σ => ih v1 v2 v3 v4 v5 σ) v1 v2 v3 v5 (-1 : Int32) t45
set_option maxRecDepth 100000 in
set_option maxHeartbeats 4000000 in
theorem j_X5_unlike {E : JE} {G : JG} (X : JM E 6 cX5_unlike RX5 (some .int) 6 240 G) (v1 : Int32) (v2 : Int32) (v3 : Int32) (σ : ST) : Jg E 6 (JF E vI) [(0, .ref (gO G 50)), (1, .int v1), (2, .int v2), (3, .int v3)] 0 [] σ (f_X5_unlike v1 v2 v3 σ) := by
  have Y := X.1
  unfold f_X5_unlike
  refine J_iconst (v := (-1 : Int32)) Y dX5_unlike_0 (by decide) ?_
  refine J_istore [(4, .int (-1 : Int32)), (0, .ref (gO G 50)), (1, .int v1), (2, .int v2), (3, .int v3)] Y dX5_unlike_1 (by decide) rfl ?_
  refine J_aload_n Y 1 dX5_unlike_3 rfl rfl ?_
  refine M_cVv (As := []) (st := []) rfl X (c_X5_keeps G _) wi_X5_keeps win_X5_keeps wse_X5_keeps wml_RX5_214 ⟨Nat.le_of_ble_eq_true rfl, Nat.le_of_ble_eq_true rfl⟩ rfl (Nat.le_of_ble_eq_true rfl) dX5_unlike_4 (fun t4 => ?_)
  refine J_iconst (v := (0 : Int32)) Y dX5_unlike_7 (by decide) ?_
  refine J_istore [(5, .int (0 : Int32)), (4, .int (-1 : Int32)), (0, .ref (gO G 50)), (1, .int v1), (2, .int v2), (3, .int v3)] Y dX5_unlike_8 (by decide) rfl ?_
  refine J_sub [2, 3, 4, 5, 1, 0] rfl ?_
  exact j_X5_unlike_L10 X 1000 v1 v2 v3 (-1 : Int32) (0 : Int32) t4
theorem c_X5_unlike (G : JG) (v1 : Int32) (v2 : Int32) (v3 : Int32) (σ : ST) : Con (VM G) vI G.1 yX5_unlike cX5_unlike 6 (some .int) 6 240 [.ref (gO G 50), .int v1, .int v2, .int v3] σ (f_X5_unlike v1 v2 v3 σ) :=
  Con_of (VM_ok G) (by decide +kernel) (Nat.le_of_ble_eq_true rfl) (fun E e1 e2 _ X => j_X5_unlike ⟨X, e1, e2⟩ v1 v2 v3 σ)
set_option maxRecDepth 100000 in
set_option maxHeartbeats 4000000 in
theorem j_X5_judge_L26 {E : JE} {G : JG} (X : JM E 5 cX5_judge RX5 (some .int) 7 280 G) (s0 : Int32) (σ : ST) : Jg E 5 (JF E vI) [] 26 [.int s0] σ (f_X5_judge_L26 s0 σ) := by
  have Y := X.1
  unfold f_X5_judge_L26
  exact J_ireturn Y dX5_judge_26
set_option maxRecDepth 100000 in
set_option maxHeartbeats 4000000 in
theorem j_X5_judge {E : JE} {G : JG} (X : JM E 5 cX5_judge RX5 (some .int) 7 280 G) (v1 : Int32) (v2 : Int32) (v3 : Int32) (σ : ST) : Jg E 5 (JF E vI) [(0, .ref (gO G 50)), (1, .int v1), (2, .int v2), (3, .int v3)] 0 [] σ (f_X5_judge v1 v2 v3 σ) := by
  have Y := X.1
  unfold f_X5_judge
  refine J_aload_n Y 0 dX5_judge_0 rfl rfl ?_
  refine J_iload_n Y 1 dX5_judge_1 rfl rfl ?_
  refine J_iload_n Y 2 dX5_judge_2 rfl rfl ?_
  refine J_iload_n Y 3 dX5_judge_3 rfl rfl ?_
  refine M_cVi (As := [.int v1, .int v2, .int v3]) (st := []) rfl X (c_X5_toldWrong G v1 v2 v3 _) wi_X5_toldWrong win_X5_toldWrong wse_X5_toldWrong wml_RX5_253 ⟨Nat.le_of_ble_eq_true rfl, Nat.le_of_ble_eq_true rfl⟩ rfl (Nat.le_of_ble_eq_true rfl) dX5_judge_4 (fun y4 t4 => ?_)
  refine J_istore [(4, .int y4), (0, .ref (gO G 50)), (1, .int v1), (2, .int v2), (3, .int v3)] Y dX5_judge_7 (by decide) rfl ?_
  refine J_iload Y 0 dX5_judge_9 rfl ?_
  refine J_if_ne (tgt := 24) Y dX5_judge_11 (by decide) ?_ ?_
  · refine J_iload Y 0 dX5_judge_24 rfl ?_
    refine J_sub [] rfl ?_
    exact j_X5_judge_L26 X y4 t4
  · refine J_aload_n Y 1 dX5_judge_14 rfl rfl ?_
    refine J_iload_n Y 2 dX5_judge_15 rfl rfl ?_
    refine J_iload_n Y 3 dX5_judge_16 rfl rfl ?_
    refine J_iload_n Y 4 dX5_judge_17 rfl rfl ?_
    refine M_cVi (As := [.int v1, .int v2, .int v3]) (st := []) rfl X (c_X5_unlike G v1 v2 v3 _) wi_X5_unlike win_X5_unlike wse_X5_unlike wml_RX5_256 ⟨Nat.le_of_ble_eq_true rfl, Nat.le_of_ble_eq_true rfl⟩ rfl (Nat.le_of_ble_eq_true rfl) dX5_judge_18 (fun y18 t18 => ?_)
    refine J_goto (tgt := 26) Y dX5_judge_21 (by decide) ?_
    refine J_sub [] rfl ?_
    exact j_X5_judge_L26 X y18 t18
theorem c_X5_judge (G : JG) (v1 : Int32) (v2 : Int32) (v3 : Int32) (σ : ST) : Con (VM G) vI G.1 yX5_judge cX5_judge 5 (some .int) 7 280 [.ref (gO G 50), .int v1, .int v2, .int v3] σ (f_X5_judge v1 v2 v3 σ) :=
  Con_of (VM_ok G) (by decide +kernel) (Nat.le_of_ble_eq_true rfl) (fun E e1 e2 _ X => j_X5_judge ⟨X, e1, e2⟩ v1 v2 v3 σ)
set_option maxRecDepth 100000 in
set_option maxHeartbeats 4000000 in
theorem j_X5_kinds_L127 {E : JE} {G : JG} (X : JM E 10 cX5_kinds RX5 (some .int) 7 280 G) {k52 : Int32 → Int32 → Int32 → Int32 → Int32 → Int32 → Int32 → Int32 → ST → Option (Int32 × ST)} (hk52 : ∀ (v1 : Int32) (v2 : Int32) (v3 : Int32) (v4 : Int32) (v6 : Int32) (v7 : Int32) (v8 : Int32) (v9 : Int32) (σ : ST), Jg E 10 (JF E vI) [(0, .ref (gO G 50)), (1, .int v1), (2, .int v2), (3, .int v3), (4, .int v4), (6, .int v6), (7, .int v7), (8, .int v8), (9, .int v9)] 52 [] σ (k52 v1 v2 v3 v4 v6 v7 v8 v9 σ)) (v1 : Int32) (v2 : Int32) (v3 : Int32) (v4 : Int32) (v6 : Int32) (v7 : Int32) (v9 : Int32) (s0 : Int32) (s1 : Int32) (σ : ST) : Jg E 10 (JF E vI) [(0, .ref (gO G 50)), (1, .int v1), (2, .int v2), (3, .int v3), (4, .int v4), (6, .int v6), (7, .int v7), (9, .int v9)] 127 [.int s0, .int s1] σ (f_X5_kinds_L127 k52 v1 v2 v3 v4 v6 v7 v9 s0 s1 σ) := by
  have Y := X.1
  unfold f_X5_kinds_L127
  refine J_ior Y dX5_kinds_127 ?_
  refine J_istore [(8, .int (s1 ||| s0)), (0, .ref (gO G 50)), (1, .int v1), (2, .int v2), (3, .int v3), (4, .int v4), (6, .int v6), (7, .int v7), (9, .int v9)] Y dX5_kinds_128 (by decide) rfl ?_
  refine J_iinc (v := v9 + (1 : Int32)) [(9, .int (v9 + (1 : Int32))), (8, .int (s1 ||| s0)), (0, .ref (gO G 50)), (1, .int v1), (2, .int v2), (3, .int v3), (4, .int v4), (6, .int v6), (7, .int v7)] Y 8 dX5_kinds_130 rfl (congrArg (fun z => _ + z) (by decide)) (by decide) rfl ?_
  refine J_goto (tgt := 52) Y dX5_kinds_133 (by decide) ?_
  refine J_sub [2, 3, 4, 5, 6, 7, 8, 1, 0] rfl ?_
  exact hk52 v1 v2 v3 v4 v6 v7 (s1 ||| s0) (v9 + (1 : Int32)) σ
set_option maxRecDepth 100000 in
set_option maxHeartbeats 4000000 in
theorem j_X5_kinds_L105 {E : JE} {G : JG} (X : JM E 10 cX5_kinds RX5 (some .int) 7 280 G) {k52 : Int32 → Int32 → Int32 → Int32 → Int32 → Int32 → Int32 → Int32 → ST → Option (Int32 × ST)} (hk52 : ∀ (v1 : Int32) (v2 : Int32) (v3 : Int32) (v4 : Int32) (v6 : Int32) (v7 : Int32) (v8 : Int32) (v9 : Int32) (σ : ST), Jg E 10 (JF E vI) [(0, .ref (gO G 50)), (1, .int v1), (2, .int v2), (3, .int v3), (4, .int v4), (6, .int v6), (7, .int v7), (8, .int v8), (9, .int v9)] 52 [] σ (k52 v1 v2 v3 v4 v6 v7 v8 v9 σ)) (v1 : Int32) (v2 : Int32) (v3 : Int32) (v4 : Int32) (v6 : Int32) (v7 : Int32) (v8 : Int32) (v9 : Int32) (s0 : Int32) (s1 : Int32) (σ : ST) : Jg E 10 (JF E vI) [(0, .ref (gO G 50)), (1, .int v1), (2, .int v2), (3, .int v3), (4, .int v4), (6, .int v6), (7, .int v7), (8, .int v8), (9, .int v9)] 105 [.int s0, .int s1, .ref (gA G 50 2)] σ (f_X5_kinds_L105 k52 v1 v2 v3 v4 v6 v7 v8 v9 s0 s1 σ) := by
  have Y := X.1
  unfold f_X5_kinds_L105
  refine M_ast X (mA_2 G _) (mS_2 G _) dX5_kinds_105 (fun t105 => ?_)
  refine J_iload Y 7 dX5_kinds_106 rfl ?_
  refine J_aload_n Y 0 dX5_kinds_108 rfl rfl ?_
  refine J_iload_n Y 1 dX5_kinds_109 rfl rfl ?_
  refine J_iload_n Y 2 dX5_kinds_110 rfl rfl ?_
  refine J_iload_n Y 3 dX5_kinds_111 rfl rfl ?_
  refine M_cVi (As := [.int v1, .int v2, .int v3]) (st := [.int v8]) rfl X (c_X5_unlike G v1 v2 v3 _) wi_X5_unlike win_X5_unlike wse_X5_unlike wml_RX5_256 ⟨Nat.le_of_ble_eq_true rfl, Nat.le_of_ble_eq_true rfl⟩ rfl (Nat.le_of_ble_eq_true rfl) dX5_kinds_112 (fun y112 t112 => ?_)
  refine J_iconst (v := (-1 : Int32)) Y dX5_kinds_115 (by decide) ?_
  refine J_icmp_ne (tgt := 126) Y dX5_kinds_116 (by decide) ?_ ?_
  · refine J_iconst (v := (0 : Int32)) Y dX5_kinds_126 (by decide) ?_
    refine J_sub [0, 1, 2, 3, 4, 5, 6, 8] rfl ?_
    exact j_X5_kinds_L127 X hk52 v1 v2 v3 v4 v6 v7 v9 (0 : Int32) v8 t112
  · refine J_iconst (v := (1 : Int32)) Y dX5_kinds_119 (by decide) ?_
    refine J_iload Y 8 dX5_kinds_120 rfl ?_
    refine J_ishl Y dX5_kinds_122 ?_
    refine J_goto (tgt := 127) Y dX5_kinds_123 (by decide) ?_
    refine J_sub [0, 1, 2, 3, 4, 5, 6, 8] rfl ?_
    exact j_X5_kinds_L127 X hk52 v1 v2 v3 v4 v6 v7 v9 ((1 : Int32) <<< (v9 &&& 31)) v8 t112
set_option maxRecDepth 100000 in
set_option maxHeartbeats 4000000 in
theorem j_X5_kinds_L86 {E : JE} {G : JG} (X : JM E 10 cX5_kinds RX5 (some .int) 7 280 G) {k52 : Int32 → Int32 → Int32 → Int32 → Int32 → Int32 → Int32 → Int32 → ST → Option (Int32 × ST)} (hk52 : ∀ (v1 : Int32) (v2 : Int32) (v3 : Int32) (v4 : Int32) (v6 : Int32) (v7 : Int32) (v8 : Int32) (v9 : Int32) (σ : ST), Jg E 10 (JF E vI) [(0, .ref (gO G 50)), (1, .int v1), (2, .int v2), (3, .int v3), (4, .int v4), (6, .int v6), (7, .int v7), (8, .int v8), (9, .int v9)] 52 [] σ (k52 v1 v2 v3 v4 v6 v7 v8 v9 σ)) (v1 : Int32) (v2 : Int32) (v3 : Int32) (v4 : Int32) (v6 : Int32) (v7 : Int32) (v8 : Int32) (v9 : Int32) (s0 : Int32) (s1 : Int32) (σ : ST) : Jg E 10 (JF E vI) [(0, .ref (gO G 50)), (1, .int v1), (2, .int v2), (3, .int v3), (4, .int v4), (6, .int v6), (7, .int v7), (8, .int v8), (9, .int v9)] 86 [.int s0, .int s1, .ref (gA G 50 1)] σ (f_X5_kinds_L86 k52 v1 v2 v3 v4 v6 v7 v8 v9 s0 s1 σ) := by
  have Y := X.1
  unfold f_X5_kinds_L86
  refine M_ast X (mA_1 G _) (mS_1 G _) dX5_kinds_86 (fun t86 => ?_)
  refine J_aload_n Y 0 dX5_kinds_87 rfl rfl ?_
  refine M_get 2 X (by decide) rfl wfl_RX5_13 rfl dX5_kinds_88 ?_
  refine J_iload_n Y 3 dX5_kinds_91 rfl rfl ?_
  refine J_iload Y 4 dX5_kinds_92 rfl ?_
  refine J_iconst (v := (1 : Int32)) Y dX5_kinds_94 (by decide) ?_
  refine J_icmp_ne (tgt := 103) Y dX5_kinds_95 (by decide) ?_ ?_
  · refine J_iload Y 6 dX5_kinds_103 rfl ?_
    exact j_X5_kinds_L105 X hk52 v1 v2 v3 v4 v6 v7 v8 v9 v7 v3 t86
  · refine J_iload Y 8 dX5_kinds_98 rfl ?_
    refine J_goto (tgt := 105) Y dX5_kinds_100 (by decide) ?_
    exact j_X5_kinds_L105 X hk52 v1 v2 v3 v4 v6 v7 v8 v9 v9 v3 t86
set_option maxRecDepth 100000 in
set_option maxHeartbeats 4000000 in
theorem j_X5_kinds_L136 {E : JE} {G : JG} (X : JM E 10 cX5_kinds RX5 (some .int) 7 280 G) (v3 : Int32) (v6 : Int32) (v7 : Int32) (v8 : Int32) (σ : ST) : Jg E 10 (JF E vI) [(0, .ref (gO G 50)), (3, .int v3), (6, .int v6), (7, .int v7), (8, .int v8)] 136 [] σ (f_X5_kinds_L136 v3 v6 v7 v8 σ) := by
  have Y := X.1
  unfold f_X5_kinds_L136
  refine J_aload_n Y 0 dX5_kinds_136 rfl rfl ?_
  refine M_get 1 X (by decide) rfl wfl_RX5_7 rfl dX5_kinds_137 ?_
  refine J_iload_n Y 1 dX5_kinds_140 rfl rfl ?_
  refine J_iload Y 2 dX5_kinds_141 rfl ?_
  refine M_ast X (mA_1 G _) (mS_1 G _) dX5_kinds_143 (fun t143 => ?_)
  refine J_aload_n Y 0 dX5_kinds_144 rfl rfl ?_
  refine M_get 2 X (by decide) rfl wfl_RX5_13 rfl dX5_kinds_145 ?_
  refine J_iload_n Y 1 dX5_kinds_148 rfl rfl ?_
  refine J_iload Y 3 dX5_kinds_149 rfl ?_
  refine M_ast X (mA_2 G _) (mS_2 G _) dX5_kinds_151 (fun t151 => ?_)
  refine J_iload Y 4 dX5_kinds_152 rfl ?_
  exact J_ireturn Y dX5_kinds_154
set_option maxRecDepth 100000 in
set_option maxHeartbeats 4000000 in
theorem j_X5_kinds_L66 {E : JE} {G : JG} (X : JM E 10 cX5_kinds RX5 (some .int) 7 280 G) {k52 : Int32 → Int32 → Int32 → Int32 → Int32 → Int32 → Int32 → Int32 → ST → Option (Int32 × ST)} (hk52 : ∀ (v1 : Int32) (v2 : Int32) (v3 : Int32) (v4 : Int32) (v6 : Int32) (v7 : Int32) (v8 : Int32) (v9 : Int32) (σ : ST), Jg E 10 (JF E vI) [(0, .ref (gO G 50)), (1, .int v1), (2, .int v2), (3, .int v3), (4, .int v4), (6, .int v6), (7, .int v7), (8, .int v8), (9, .int v9)] 52 [] σ (k52 v1 v2 v3 v4 v6 v7 v8 v9 σ)) (v1 : Int32) (v2 : Int32) (v3 : Int32) (v4 : Int32) (v6 : Int32) (v7 : Int32) (v8 : Int32) (v9 : Int32) (s0 : Int32) (s1 : Int32) (σ : ST) : Jg E 10 (JF E vI) [(0, .ref (gO G 50)), (1, .int v1), (2, .int v2), (3, .int v3), (4, .int v4), (6, .int v6), (7, .int v7), (8, .int v8), (9, .int v9)] 66 [.int s0, .int s1] σ (f_X5_kinds_L66 k52 v1 v2 v3 v4 v6 v7 v8 v9 s0 s1 σ) := by
  have Y := X.1
  unfold f_X5_kinds_L66
  refine J_icmp_ge (tgt := 136) Y dX5_kinds_66 (by decide) ?_ ?_
  · refine J_sub [0, 3, 5, 6, 7] rfl ?_
    exact j_X5_kinds_L136 X v3 v6 v7 v8 σ
  · refine J_aload_n Y 0 dX5_kinds_69 rfl rfl ?_
    refine M_get 1 X (by decide) rfl wfl_RX5_7 rfl dX5_kinds_70 ?_
    refine J_iload_n Y 3 dX5_kinds_73 rfl rfl ?_
    refine J_iload Y 4 dX5_kinds_74 rfl ?_
    refine J_if_ne (tgt := 84) Y dX5_kinds_76 (by decide) ?_ ?_
    · refine J_iload Y 5 dX5_kinds_84 rfl ?_
      exact j_X5_kinds_L86 X hk52 v1 v2 v3 v4 v6 v7 v8 v9 v6 v3 σ
    · refine J_iload Y 8 dX5_kinds_79 rfl ?_
      refine J_goto (tgt := 86) Y dX5_kinds_81 (by decide) ?_
      exact j_X5_kinds_L86 X hk52 v1 v2 v3 v4 v6 v7 v8 v9 v9 v3 σ
set_option maxRecDepth 100000 in
set_option maxHeartbeats 4000000 in
theorem j_X5_kinds_L52 {E : JE} {G : JG} (X : JM E 10 cX5_kinds RX5 (some .int) 7 280 G) : ∀ (n : Nat) (v1 : Int32) (v2 : Int32) (v3 : Int32) (v4 : Int32) (v6 : Int32) (v7 : Int32) (v8 : Int32) (v9 : Int32) (σ : ST), Jg E 10 (JF E vI) [(0, .ref (gO G 50)), (1, .int v1), (2, .int v2), (3, .int v3), (4, .int v4), (6, .int v6), (7, .int v7), (8, .int v8), (9, .int v9)] 52 [] σ (f_X5_kinds_L52 n v1 v2 v3 v4 v6 v7 v8 v9 σ) := by
  have Y := X.1
  intro n
  induction n with
  | zero => intro v1 v2 v3 v4 v6 v7 v8 v9 σ; rw [f_X5_kinds_L52]; exact J_none
  | succ n ih =>
    intro v1 v2 v3 v4 v6 v7 v8 v9 σ
    rw [f_X5_kinds_L52]
    refine J_iload Y 8 dX5_kinds_52 rfl ?_
    refine J_iload Y 4 dX5_kinds_54 rfl ?_
    refine J_if_ne (tgt := 64) Y dX5_kinds_56 (by decide) ?_ ?_
    · refine J_bipush (v := (10 : Int32)) Y dX5_kinds_64 (by decide) ?_
      exact j_X5_kinds_L66 X (fun v1 v2 v3 v4 v6 v7 v8 v9 σ => ih v1 v2 v3 v4 v6 v7 v8 v9 σ) v1 v2 v3 v4 v6 v7 v8 v9 (10 : Int32) v9 σ
    · refine J_bipush (v := (6 : Int32)) Y dX5_kinds_59 (by decide) ?_
      refine J_goto (tgt := 66) Y dX5_kinds_61 (by decide) ?_
      exact j_X5_kinds_L66 X (fun v1 v2 v3 v4 v6 v7 v8 v9 σ => ih v1 v2 v3 v4 v6 v7 v8 v9 σ) v1 v2 v3 v4 v6 v7 v8 v9 (6 : Int32) v9 σ
set_option maxRecDepth 100000 in
set_option maxHeartbeats 4000000 in
theorem j_X5_kinds {E : JE} {G : JG} (X : JM E 10 cX5_kinds RX5 (some .int) 7 280 G) (v1 : Int32) (v2 : Int32) (v3 : Int32) (v4 : Int32) (σ : ST) : Jg E 10 (JF E vI) [(0, .ref (gO G 50)), (1, .int v1), (2, .int v2), (3, .int v3), (4, .int v4)] 0 [] σ (f_X5_kinds v1 v2 v3 v4 σ) := by
  have Y := X.1
  unfold f_X5_kinds
  refine J_aload_n Y 0 dX5_kinds_0 rfl rfl ?_
  refine J_iload_n Y 1 dX5_kinds_1 rfl rfl ?_
  refine J_iload_n Y 2 dX5_kinds_2 rfl rfl ?_
  refine J_iload_n Y 3 dX5_kinds_3 rfl rfl ?_
  refine M_cVi (As := [.int v1, .int v2, .int v3]) (st := []) rfl X (c_X5_toldWrong G v1 v2 v3 _) wi_X5_toldWrong win_X5_toldWrong wse_X5_toldWrong wml_RX5_253 ⟨Nat.le_of_ble_eq_true rfl, Nat.le_of_ble_eq_true rfl⟩ rfl (Nat.le_of_ble_eq_true rfl) dX5_kinds_4 (fun y4 t4 => ?_)
  refine J_istore [(5, .int y4), (0, .ref (gO G 50)), (1, .int v1), (2, .int v2), (3, .int v3), (4, .int v4)] Y dX5_kinds_7 (by decide) rfl ?_
  refine J_iload Y 0 dX5_kinds_9 rfl ?_
  refine J_if_eq (tgt := 17) Y dX5_kinds_11 (by decide) ?_ ?_
  · refine J_iload Y 5 dX5_kinds_17 rfl ?_
    refine J_iconst (v := (0 : Int32)) Y dX5_kinds_19 (by decide) ?_
    refine J_iconst (v := (1 : Int32)) Y dX5_kinds_20 (by decide) ?_
    refine M_cSi (As := [.int v4, .int (0 : Int32), .int (1 : Int32)]) (st := []) rfl X (c_X5_in G v4 (0 : Int32) (1 : Int32) _) wi_X5_in wst_X5_in wml_RX5_78 ⟨Nat.le_of_ble_eq_true rfl, Nat.le_of_ble_eq_true rfl⟩ rfl (Nat.le_of_ble_eq_true rfl) dX5_kinds_21 (fun y21 t21 => ?_)
    refine J_if_ne (tgt := 30) Y dX5_kinds_24 (by decide) ?_ ?_
    · refine J_aload_n Y 1 dX5_kinds_30 rfl rfl ?_
      refine M_get 1 X (by decide) rfl wfl_RX5_7 rfl dX5_kinds_31 ?_
      refine J_iload_n Y 4 dX5_kinds_34 rfl rfl ?_
      refine M_ald X (mA_1 G _) dX5_kinds_35 (fun x35 => ?_)
      refine J_istore [(6, .int x35), (5, .int y4), (0, .ref (gO G 50)), (1, .int v1), (2, .int v2), (3, .int v3), (4, .int v4)] Y dX5_kinds_36 (by decide) rfl ?_
      refine J_aload_n Y 2 dX5_kinds_38 rfl rfl ?_
      refine M_get 2 X (by decide) rfl wfl_RX5_13 rfl dX5_kinds_39 ?_
      refine J_iload_n Y 5 dX5_kinds_42 rfl rfl ?_
      refine M_ald X (mA_2 G _) dX5_kinds_43 (fun x43 => ?_)
      refine J_istore [(7, .int x43), (6, .int x35), (5, .int y4), (0, .ref (gO G 50)), (1, .int v1), (2, .int v2), (3, .int v3), (4, .int v4)] Y dX5_kinds_44 (by decide) rfl ?_
      refine J_iconst (v := (0 : Int32)) Y dX5_kinds_46 (by decide) ?_
      refine J_istore [(8, .int (0 : Int32)), (7, .int x43), (6, .int x35), (5, .int y4), (0, .ref (gO G 50)), (1, .int v1), (2, .int v2), (3, .int v3), (4, .int v4)] Y dX5_kinds_47 (by decide) rfl ?_
      refine J_iconst (v := (0 : Int32)) Y dX5_kinds_49 (by decide) ?_
      refine J_istore [(9, .int (0 : Int32)), (8, .int (0 : Int32)), (7, .int x43), (6, .int x35), (5, .int y4), (0, .ref (gO G 50)), (1, .int v1), (2, .int v2), (3, .int v3), (4, .int v4)] Y dX5_kinds_50 (by decide) rfl ?_
      refine J_sub [5, 6, 7, 8, 9, 3, 2, 1, 0] rfl ?_
      exact j_X5_kinds_L52 X 1000 v1 v2 v3 v4 x35 x43 (0 : Int32) (0 : Int32) t21
    · refine J_bipush (v := (-7 : Int32)) Y dX5_kinds_27 (by decide) ?_
      exact J_ireturn Y dX5_kinds_29
  · refine J_iload Y 0 dX5_kinds_14 rfl ?_
    exact J_ireturn Y dX5_kinds_16
theorem c_X5_kinds (G : JG) (v1 : Int32) (v2 : Int32) (v3 : Int32) (v4 : Int32) (σ : ST) : Con (VM G) vI G.1 yX5_kinds cX5_kinds 10 (some .int) 7 280 [.ref (gO G 50), .int v1, .int v2, .int v3, .int v4] σ (f_X5_kinds v1 v2 v3 v4 σ) :=
  Con_of (VM_ok G) (by decide +kernel) (Nat.le_of_ble_eq_true rfl) (fun E e1 e2 _ X => j_X5_kinds ⟨X, e1, e2⟩ v1 v2 v3 v4 σ)
set_option maxRecDepth 100000 in
set_option maxHeartbeats 4000000 in
theorem j_X5_states_L38 {E : JE} {G : JG} (X : JM E 12 cX5_states RX5 (some .int) 7 280 G) (σ : ST) : Jg E 12 (JF E vI) [] 38 [] σ (f_X5_states_L38 σ) := by
  have Y := X.1
  unfold f_X5_states_L38
  refine J_bipush (v := (-7 : Int32)) Y dX5_states_38 (by decide) ?_
  exact J_ireturn Y dX5_states_40
set_option maxRecDepth 100000 in
set_option maxHeartbeats 4000000 in
theorem j_X5_states_L148 {E : JE} {G : JG} (X : JM E 12 cX5_states RX5 (some .int) 7 280 G) {k64 : Int32 → Int32 → Int32 → Int32 → Int32 → Int32 → Int32 → Int32 → Int32 → ST → Option (Int32 × ST)} (hk64 : ∀ (v1 : Int32) (v2 : Int32) (v3 : Int32) (v4 : Int32) (v5 : Int32) (v7 : Int32) (v8 : Int32) (v9 : Int32) (v10 : Int32) (σ : ST), Jg E 12 (JF E vI) [(0, .ref (gO G 50)), (1, .int v1), (2, .int v2), (3, .int v3), (4, .int v4), (5, .int v5), (7, .int v7), (8, .int v8), (9, .int v9), (10, .int v10)] 64 [] σ (k64 v1 v2 v3 v4 v5 v7 v8 v9 v10 σ)) (v1 : Int32) (v2 : Int32) (v3 : Int32) (v4 : Int32) (v5 : Int32) (v7 : Int32) (v8 : Int32) (v10 : Int32) (s0 : Int32) (σ : ST) : Jg E 12 (JF E vI) [(0, .ref (gO G 50)), (1, .int v1), (2, .int v2), (3, .int v3), (4, .int v4), (5, .int v5), (7, .int v7), (8, .int v8), (10, .int v10)] 148 [.int s0] σ (f_X5_states_L148 k64 v1 v2 v3 v4 v5 v7 v8 v10 s0 σ) := by
  have Y := X.1
  unfold f_X5_states_L148
  refine J_istore [(9, .int s0), (0, .ref (gO G 50)), (1, .int v1), (2, .int v2), (3, .int v3), (4, .int v4), (5, .int v5), (7, .int v7), (8, .int v8), (10, .int v10)] Y dX5_states_148 (by decide) rfl ?_
  refine J_iinc (v := v10 + (1 : Int32)) [(10, .int (v10 + (1 : Int32))), (9, .int s0), (0, .ref (gO G 50)), (1, .int v1), (2, .int v2), (3, .int v3), (4, .int v4), (5, .int v5), (7, .int v7), (8, .int v8)] Y 9 dX5_states_150 rfl (congrArg (fun z => _ + z) (by decide)) (by decide) rfl ?_
  refine J_goto (tgt := 64) Y dX5_states_153 (by decide) ?_
  refine J_sub [2, 3, 4, 5, 6, 7, 8, 9, 1, 0] rfl ?_
  exact hk64 v1 v2 v3 v4 v5 v7 v8 s0 (v10 + (1 : Int32)) σ
set_option maxRecDepth 100000 in
set_option maxHeartbeats 4000000 in
theorem j_X5_states_L146 {E : JE} {G : JG} (X : JM E 12 cX5_states RX5 (some .int) 7 280 G) {k64 : Int32 → Int32 → Int32 → Int32 → Int32 → Int32 → Int32 → Int32 → Int32 → ST → Option (Int32 × ST)} (hk64 : ∀ (v1 : Int32) (v2 : Int32) (v3 : Int32) (v4 : Int32) (v5 : Int32) (v7 : Int32) (v8 : Int32) (v9 : Int32) (v10 : Int32) (σ : ST), Jg E 12 (JF E vI) [(0, .ref (gO G 50)), (1, .int v1), (2, .int v2), (3, .int v3), (4, .int v4), (5, .int v5), (7, .int v7), (8, .int v8), (9, .int v9), (10, .int v10)] 64 [] σ (k64 v1 v2 v3 v4 v5 v7 v8 v9 v10 σ)) (v1 : Int32) (v2 : Int32) (v3 : Int32) (v4 : Int32) (v5 : Int32) (v7 : Int32) (v8 : Int32) (v9 : Int32) (v10 : Int32) (σ : ST) : Jg E 12 (JF E vI) [(0, .ref (gO G 50)), (1, .int v1), (2, .int v2), (3, .int v3), (4, .int v4), (5, .int v5), (7, .int v7), (8, .int v8), (9, .int v9), (10, .int v10)] 146 [] σ (f_X5_states_L146 k64 v1 v2 v3 v4 v5 v7 v8 v9 v10 σ) := by
  have Y := X.1
  unfold f_X5_states_L146
  refine J_iload Y 8 dX5_states_146 rfl ?_
  refine J_sub [0, 1, 2, 3, 4, 5, 6, 7, 9] rfl ?_
  exact j_X5_states_L148 X hk64 v1 v2 v3 v4 v5 v7 v8 v10 v9 σ
set_option maxRecDepth 100000 in
set_option maxHeartbeats 4000000 in
theorem j_X5_states_L127 {E : JE} {G : JG} (X : JM E 12 cX5_states RX5 (some .int) 7 280 G) {k64 : Int32 → Int32 → Int32 → Int32 → Int32 → Int32 → Int32 → Int32 → Int32 → ST → Option (Int32 × ST)} (hk64 : ∀ (v1 : Int32) (v2 : Int32) (v3 : Int32) (v4 : Int32) (v5 : Int32) (v7 : Int32) (v8 : Int32) (v9 : Int32) (v10 : Int32) (σ : ST), Jg E 12 (JF E vI) [(0, .ref (gO G 50)), (1, .int v1), (2, .int v2), (3, .int v3), (4, .int v4), (5, .int v5), (7, .int v7), (8, .int v8), (9, .int v9), (10, .int v10)] 64 [] σ (k64 v1 v2 v3 v4 v5 v7 v8 v9 v10 σ)) (v1 : Int32) (v2 : Int32) (v3 : Int32) (v4 : Int32) (v5 : Int32) (v7 : Int32) (v9 : Int32) (v10 : Int32) (v11 : Int32) (s0 : Int32) (s1 : Int32) (σ : ST) : Jg E 12 (JF E vI) [(0, .ref (gO G 50)), (1, .int v1), (2, .int v2), (3, .int v3), (4, .int v4), (5, .int v5), (7, .int v7), (9, .int v9), (10, .int v10), (11, .int v11)] 127 [.int s0, .int s1] σ (f_X5_states_L127 k64 v1 v2 v3 v4 v5 v7 v9 v10 v11 s0 s1 σ) := by
  have Y := X.1
  unfold f_X5_states_L127
  refine J_iadd Y dX5_states_127 ?_
  refine J_istore [(8, .int (s1 + s0)), (0, .ref (gO G 50)), (1, .int v1), (2, .int v2), (3, .int v3), (4, .int v4), (5, .int v5), (7, .int v7), (9, .int v9), (10, .int v10), (11, .int v11)] Y dX5_states_128 (by decide) rfl ?_
  refine J_iload Y 10 dX5_states_130 rfl ?_
  refine J_if_eq (tgt := 146) Y dX5_states_132 (by decide) ?_ ?_
  · refine J_sub [1, 2, 3, 4, 5, 6, 7, 0, 8, 9] rfl ?_
    exact j_X5_states_L146 X hk64 v1 v2 v3 v4 v5 v7 (s1 + s0) v9 v10 σ
  · refine J_iload Y 8 dX5_states_135 rfl ?_
    refine J_iconst (v := (-1 : Int32)) Y dX5_states_137 (by decide) ?_
    refine J_icmp_ne (tgt := 146) Y dX5_states_138 (by decide) ?_ ?_
    · refine J_sub [1, 2, 3, 4, 5, 6, 7, 0, 8, 9] rfl ?_
      exact j_X5_states_L146 X hk64 v1 v2 v3 v4 v5 v7 (s1 + s0) v9 v10 σ
    · refine J_iload Y 9 dX5_states_141 rfl ?_
      refine J_goto (tgt := 148) Y dX5_states_143 (by decide) ?_
      refine J_sub [1, 2, 3, 4, 5, 6, 7, 0, 9] rfl ?_
      exact j_X5_states_L148 X hk64 v1 v2 v3 v4 v5 v7 (s1 + s0) v10 v10 σ
set_option maxRecDepth 100000 in
set_option maxHeartbeats 4000000 in
theorem j_X5_states_L113 {E : JE} {G : JG} (X : JM E 12 cX5_states RX5 (some .int) 7 280 G) {k64 : Int32 → Int32 → Int32 → Int32 → Int32 → Int32 → Int32 → Int32 → Int32 → ST → Option (Int32 × ST)} (hk64 : ∀ (v1 : Int32) (v2 : Int32) (v3 : Int32) (v4 : Int32) (v5 : Int32) (v7 : Int32) (v8 : Int32) (v9 : Int32) (v10 : Int32) (σ : ST), Jg E 12 (JF E vI) [(0, .ref (gO G 50)), (1, .int v1), (2, .int v2), (3, .int v3), (4, .int v4), (5, .int v5), (7, .int v7), (8, .int v8), (9, .int v9), (10, .int v10)] 64 [] σ (k64 v1 v2 v3 v4 v5 v7 v8 v9 v10 σ)) (v1 : Int32) (v2 : Int32) (v3 : Int32) (v4 : Int32) (v5 : Int32) (v7 : Int32) (v8 : Int32) (v9 : Int32) (v10 : Int32) (s0 : Int32) (σ : ST) : Jg E 12 (JF E vI) [(0, .ref (gO G 50)), (1, .int v1), (2, .int v2), (3, .int v3), (4, .int v4), (5, .int v5), (7, .int v7), (8, .int v8), (9, .int v9), (10, .int v10)] 113 [.int s0] σ (f_X5_states_L113 k64 v1 v2 v3 v4 v5 v7 v8 v9 v10 s0 σ) := by
  have Y := X.1
  unfold f_X5_states_L113
  refine J_istore [(11, .int s0), (0, .ref (gO G 50)), (1, .int v1), (2, .int v2), (3, .int v3), (4, .int v4), (5, .int v5), (7, .int v7), (8, .int v8), (9, .int v9), (10, .int v10)] Y dX5_states_113 (by decide) rfl ?_
  refine J_iload Y 8 dX5_states_115 rfl ?_
  refine J_iload Y 0 dX5_states_117 rfl ?_
  refine J_if_eq (tgt := 126) Y dX5_states_119 (by decide) ?_ ?_
  · refine J_iconst (v := (0 : Int32)) Y dX5_states_126 (by decide) ?_
    refine J_sub [1, 2, 3, 4, 5, 6, 7, 9, 10, 0] rfl ?_
    exact j_X5_states_L127 X hk64 v1 v2 v3 v4 v5 v7 v9 v10 s0 (0 : Int32) v8 σ
  · refine J_iconst (v := (1 : Int32)) Y dX5_states_122 (by decide) ?_
    refine J_goto (tgt := 127) Y dX5_states_123 (by decide) ?_
    refine J_sub [1, 2, 3, 4, 5, 6, 7, 9, 10, 0] rfl ?_
    exact j_X5_states_L127 X hk64 v1 v2 v3 v4 v5 v7 v9 v10 s0 (1 : Int32) v8 σ
set_option maxRecDepth 100000 in
set_option maxHeartbeats 4000000 in
theorem j_X5_states_L182 {E : JE} {G : JG} (X : JM E 12 cX5_states RX5 (some .int) 7 280 G) (s0 : Int32) (σ : ST) : Jg E 12 (JF E vI) [] 182 [.int s0] σ (f_X5_states_L182 s0 σ) := by
  have Y := X.1
  unfold f_X5_states_L182
  exact J_ireturn Y dX5_states_182
set_option maxRecDepth 100000 in
set_option maxHeartbeats 4000000 in
theorem j_X5_states_L156 {E : JE} {G : JG} (X : JM E 12 cX5_states RX5 (some .int) 7 280 G) (v3 : Int32) (v4 : Int32) (v5 : Int32) (v7 : Int32) (v8 : Int32) (v9 : Int32) (σ : ST) : Jg E 12 (JF E vI) [(0, .ref (gO G 50)), (3, .int v3), (4, .int v4), (5, .int v5), (7, .int v7), (8, .int v8), (9, .int v9)] 156 [] σ (f_X5_states_L156 v3 v4 v5 v7 v8 v9 σ) := by
  have Y := X.1
  unfold f_X5_states_L156
  refine J_aload_n Y 0 dX5_states_156 rfl rfl ?_
  refine M_get 3 X (by decide) rfl wfl_RX5_16 rfl dX5_states_157 ?_
  refine J_bipush (v := (12 : Int32)) Y dX5_states_160 (by decide) ?_
  refine J_iload_n Y 1 dX5_states_162 rfl rfl ?_
  refine J_imul Y dX5_states_163 ?_
  refine J_iload Y 2 dX5_states_164 rfl ?_
  refine J_iadd Y dX5_states_166 ?_
  refine J_iload Y 4 dX5_states_167 rfl ?_
  refine M_ast X (mA_3 G _) (mS_3 G _) dX5_states_169 (fun t169 => ?_)
  refine J_iload Y 3 dX5_states_170 rfl ?_
  refine J_if_ne (tgt := 180) Y dX5_states_172 (by decide) ?_ ?_
  · refine J_iload Y 6 dX5_states_180 rfl ?_
    refine J_sub [] rfl ?_
    exact j_X5_states_L182 X v9 t169
  · refine J_iload Y 5 dX5_states_175 rfl ?_
    refine J_goto (tgt := 182) Y dX5_states_177 (by decide) ?_
    refine J_sub [] rfl ?_
    exact j_X5_states_L182 X v8 t169
set_option maxRecDepth 100000 in
set_option maxHeartbeats 4000000 in
theorem j_X5_states_L80 {E : JE} {G : JG} (X : JM E 12 cX5_states RX5 (some .int) 7 280 G) {k64 : Int32 → Int32 → Int32 → Int32 → Int32 → Int32 → Int32 → Int32 → Int32 → ST → Option (Int32 × ST)} (hk64 : ∀ (v1 : Int32) (v2 : Int32) (v3 : Int32) (v4 : Int32) (v5 : Int32) (v7 : Int32) (v8 : Int32) (v9 : Int32) (v10 : Int32) (σ : ST), Jg E 12 (JF E vI) [(0, .ref (gO G 50)), (1, .int v1), (2, .int v2), (3, .int v3), (4, .int v4), (5, .int v5), (7, .int v7), (8, .int v8), (9, .int v9), (10, .int v10)] 64 [] σ (k64 v1 v2 v3 v4 v5 v7 v8 v9 v10 σ)) (v1 : Int32) (v2 : Int32) (v3 : Int32) (v4 : Int32) (v5 : Int32) (v7 : Int32) (v8 : Int32) (v9 : Int32) (v10 : Int32) (s0 : Int32) (s1 : Int32) (σ : ST) : Jg E 12 (JF E vI) [(0, .ref (gO G 50)), (1, .int v1), (2, .int v2), (3, .int v3), (4, .int v4), (5, .int v5), (7, .int v7), (8, .int v8), (9, .int v9), (10, .int v10)] 80 [.int s0, .int s1] σ (f_X5_states_L80 k64 v1 v2 v3 v4 v5 v7 v8 v9 v10 s0 s1 σ) := by
  have Y := X.1
  unfold f_X5_states_L80
  refine J_icmp_gt (tgt := 156) Y dX5_states_80 (by decide) ?_ ?_
  · refine J_sub [0, 3, 4, 5, 6, 7, 8] rfl ?_
    exact j_X5_states_L156 X v3 v4 v5 v7 v8 v9 σ
  · refine J_aload_n Y 0 dX5_states_83 rfl rfl ?_
    refine M_get 3 X (by decide) rfl wfl_RX5_16 rfl dX5_states_84 ?_
    refine J_bipush (v := (12 : Int32)) Y dX5_states_87 (by decide) ?_
    refine J_iload_n Y 3 dX5_states_89 rfl rfl ?_
    refine J_imul Y dX5_states_90 ?_
    refine J_iload Y 4 dX5_states_91 rfl ?_
    refine J_iadd Y dX5_states_93 ?_
    refine J_iload Y 9 dX5_states_94 rfl ?_
    refine M_ast X (mA_3 G _) (mS_3 G _) dX5_states_96 (fun t96 => ?_)
    refine J_aload_n Y 0 dX5_states_97 rfl rfl ?_
    refine J_iload_n Y 1 dX5_states_98 rfl rfl ?_
    refine J_iload_n Y 2 dX5_states_99 rfl rfl ?_
    refine J_iload_n Y 3 dX5_states_100 rfl rfl ?_
    refine M_cVi (As := [.int v1, .int v2, .int v3]) (st := []) rfl X (c_X5_unlike G v1 v2 v3 _) wi_X5_unlike win_X5_unlike wse_X5_unlike wml_RX5_256 ⟨Nat.le_of_ble_eq_true rfl, Nat.le_of_ble_eq_true rfl⟩ rfl (Nat.le_of_ble_eq_true rfl) dX5_states_101 (fun y101 t101 => ?_)
    refine J_iconst (v := (-1 : Int32)) Y dX5_states_104 (by decide) ?_
    refine J_icmp_ne (tgt := 112) Y dX5_states_105 (by decide) ?_ ?_
    · refine J_iconst (v := (0 : Int32)) Y dX5_states_112 (by decide) ?_
      exact j_X5_states_L113 X hk64 v1 v2 v3 v4 v5 v7 v8 v9 v10 (0 : Int32) t101
    · refine J_iconst (v := (1 : Int32)) Y dX5_states_108 (by decide) ?_
      refine J_goto (tgt := 113) Y dX5_states_109 (by decide) ?_
      exact j_X5_states_L113 X hk64 v1 v2 v3 v4 v5 v7 v8 v9 v10 (1 : Int32) t101
set_option maxRecDepth 100000 in
set_option maxHeartbeats 4000000 in
theorem j_X5_states_L64 {E : JE} {G : JG} (X : JM E 12 cX5_states RX5 (some .int) 7 280 G) : ∀ (n : Nat) (v1 : Int32) (v2 : Int32) (v3 : Int32) (v4 : Int32) (v5 : Int32) (v7 : Int32) (v8 : Int32) (v9 : Int32) (v10 : Int32) (σ : ST), Jg E 12 (JF E vI) [(0, .ref (gO G 50)), (1, .int v1), (2, .int v2), (3, .int v3), (4, .int v4), (5, .int v5), (7, .int v7), (8, .int v8), (9, .int v9), (10, .int v10)] 64 [] σ (f_X5_states_L64 n v1 v2 v3 v4 v5 v7 v8 v9 v10 σ) := by
  have Y := X.1
  intro n
  induction n with
  | zero => intro v1 v2 v3 v4 v5 v7 v8 v9 v10 σ; rw [f_X5_states_L64]; exact J_none
  | succ n ih =>
    intro v1 v2 v3 v4 v5 v7 v8 v9 v10 σ
    rw [f_X5_states_L64]
    refine J_iload Y 9 dX5_states_64 rfl ?_
    refine J_iload Y 4 dX5_states_66 rfl ?_
    refine J_bipush (v := (8 : Int32)) Y dX5_states_68 (by decide) ?_
    refine J_icmp_ne (tgt := 78) Y dX5_states_70 (by decide) ?_ ?_
    · refine J_bipush (v := (9 : Int32)) Y dX5_states_78 (by decide) ?_
      exact j_X5_states_L80 X (fun v1 v2 v3 v4 v5 v7 v8 v9 v10 σ => ih v1 v2 v3 v4 v5 v7 v8 v9 v10 σ) v1 v2 v3 v4 v5 v7 v8 v9 v10 (9 : Int32) v10 σ
    · refine J_bipush (v := (99 : Int32)) Y dX5_states_73 (by decide) ?_
      refine J_goto (tgt := 80) Y dX5_states_75 (by decide) ?_
      exact j_X5_states_L80 X (fun v1 v2 v3 v4 v5 v7 v8 v9 v10 σ => ih v1 v2 v3 v4 v5 v7 v8 v9 v10 σ) v1 v2 v3 v4 v5 v7 v8 v9 v10 (99 : Int32) v10 σ
set_option maxRecDepth 100000 in
set_option maxHeartbeats 4000000 in
theorem j_X5_states {E : JE} {G : JG} (X : JM E 12 cX5_states RX5 (some .int) 7 280 G) (v1 : Int32) (v2 : Int32) (v3 : Int32) (v4 : Int32) (v5 : Int32) (σ : ST) : Jg E 12 (JF E vI) [(0, .ref (gO G 50)), (1, .int v1), (2, .int v2), (3, .int v3), (4, .int v4), (5, .int v5)] 0 [] σ (f_X5_states v1 v2 v3 v4 v5 σ) := by
  have Y := X.1
  unfold f_X5_states
  refine J_aload_n Y 0 dX5_states_0 rfl rfl ?_
  refine J_iload_n Y 1 dX5_states_1 rfl rfl ?_
  refine J_iload_n Y 2 dX5_states_2 rfl rfl ?_
  refine J_iload_n Y 3 dX5_states_3 rfl rfl ?_
  refine M_cVi (As := [.int v1, .int v2, .int v3]) (st := []) rfl X (c_X5_toldWrong G v1 v2 v3 _) wi_X5_toldWrong win_X5_toldWrong wse_X5_toldWrong wml_RX5_253 ⟨Nat.le_of_ble_eq_true rfl, Nat.le_of_ble_eq_true rfl⟩ rfl (Nat.le_of_ble_eq_true rfl) dX5_states_4 (fun y4 t4 => ?_)
  refine J_istore [(6, .int y4), (0, .ref (gO G 50)), (1, .int v1), (2, .int v2), (3, .int v3), (4, .int v4), (5, .int v5)] Y dX5_states_7 (by decide) rfl ?_
  refine J_iload Y 0 dX5_states_9 rfl ?_
  refine J_if_eq (tgt := 17) Y dX5_states_11 (by decide) ?_ ?_
  · refine J_iload Y 5 dX5_states_17 rfl ?_
    refine J_iconst (v := (0 : Int32)) Y dX5_states_19 (by decide) ?_
    refine J_bipush (v := (8 : Int32)) Y dX5_states_20 (by decide) ?_
    refine M_cSi (As := [.int v4, .int (0 : Int32), .int (8 : Int32)]) (st := []) rfl X (c_X5_in G v4 (0 : Int32) (8 : Int32) _) wi_X5_in wst_X5_in wml_RX5_78 ⟨Nat.le_of_ble_eq_true rfl, Nat.le_of_ble_eq_true rfl⟩ rfl (Nat.le_of_ble_eq_true rfl) dX5_states_22 (fun y22 t22 => ?_)
    refine J_if_eq (tgt := 38) Y dX5_states_25 (by decide) ?_ ?_
    · refine J_sub [] rfl ?_
      exact j_X5_states_L38 X  t22
    · refine J_iload Y 6 dX5_states_28 rfl ?_
      refine J_iconst (v := (0 : Int32)) Y dX5_states_30 (by decide) ?_
      refine J_iconst (v := (1 : Int32)) Y dX5_states_31 (by decide) ?_
      refine M_cSi (As := [.int v5, .int (0 : Int32), .int (1 : Int32)]) (st := []) rfl X (c_X5_in G v5 (0 : Int32) (1 : Int32) _) wi_X5_in wst_X5_in wml_RX5_78 ⟨Nat.le_of_ble_eq_true rfl, Nat.le_of_ble_eq_true rfl⟩ rfl (Nat.le_of_ble_eq_true rfl) dX5_states_32 (fun y32 t32 => ?_)
      refine J_if_ne (tgt := 41) Y dX5_states_35 (by decide) ?_ ?_
      · refine J_aload_n Y 1 dX5_states_41 rfl rfl ?_
        refine M_get 3 X (by decide) rfl wfl_RX5_16 rfl dX5_states_42 ?_
        refine J_bipush (v := (12 : Int32)) Y dX5_states_45 (by decide) ?_
        refine J_iload_n Y 4 dX5_states_47 rfl rfl ?_
        refine J_imul Y dX5_states_48 ?_
        refine J_iload Y 5 dX5_states_49 rfl ?_
        refine J_iadd Y dX5_states_51 ?_
        refine M_ald X (mA_3 G _) dX5_states_52 (fun x52 => ?_)
        refine J_istore [(7, .int x52), (6, .int y4), (0, .ref (gO G 50)), (1, .int v1), (2, .int v2), (3, .int v3), (4, .int v4), (5, .int v5)] Y dX5_states_53 (by decide) rfl ?_
        refine J_iconst (v := (0 : Int32)) Y dX5_states_55 (by decide) ?_
        refine J_istore [(8, .int (0 : Int32)), (7, .int x52), (6, .int y4), (0, .ref (gO G 50)), (1, .int v1), (2, .int v2), (3, .int v3), (4, .int v4), (5, .int v5)] Y dX5_states_56 (by decide) rfl ?_
        refine J_iconst (v := (-1 : Int32)) Y dX5_states_58 (by decide) ?_
        refine J_istore [(9, .int (-1 : Int32)), (8, .int (0 : Int32)), (7, .int x52), (6, .int y4), (0, .ref (gO G 50)), (1, .int v1), (2, .int v2), (3, .int v3), (4, .int v4), (5, .int v5)] Y dX5_states_59 (by decide) rfl ?_
        refine J_iconst (v := (0 : Int32)) Y dX5_states_61 (by decide) ?_
        refine J_istore [(10, .int (0 : Int32)), (9, .int (-1 : Int32)), (8, .int (0 : Int32)), (7, .int x52), (6, .int y4), (0, .ref (gO G 50)), (1, .int v1), (2, .int v2), (3, .int v3), (4, .int v4), (5, .int v5)] Y dX5_states_62 (by decide) rfl ?_
        refine J_sub [5, 6, 7, 8, 9, 10, 3, 2, 1, 0] rfl ?_
        exact j_X5_states_L64 X 1000 v1 v2 v3 v4 v5 x52 (0 : Int32) (-1 : Int32) (0 : Int32) t32
      · refine J_sub [] rfl ?_
        exact j_X5_states_L38 X  t32
  · refine J_iload Y 0 dX5_states_14 rfl ?_
    exact J_ireturn Y dX5_states_16
theorem c_X5_states (G : JG) (v1 : Int32) (v2 : Int32) (v3 : Int32) (v4 : Int32) (v5 : Int32) (σ : ST) : Con (VM G) vI G.1 yX5_states cX5_states 12 (some .int) 7 280 [.ref (gO G 50), .int v1, .int v2, .int v3, .int v4, .int v5] σ (f_X5_states v1 v2 v3 v4 v5 σ) :=
  Con_of (VM_ok G) (by decide +kernel) (Nat.le_of_ble_eq_true rfl) (fun E e1 e2 _ X => j_X5_states ⟨X, e1, e2⟩ v1 v2 v3 v4 v5 σ)
set_option maxRecDepth 100000 in
set_option maxHeartbeats 4000000 in
theorem j_X5_whose_L50 {E : JE} {G : JG} (X : JM E 6 cX5_whose RX5 (some .int) 7 280 G) {k19 : Int32 → Int32 → Int32 → Int32 → ST → Option (Int32 × ST)} (hk19 : ∀ (v1 : Int32) (v2 : Int32) (v4 : Int32) (v5 : Int32) (σ : ST), Jg E 6 (JF E vI) [(0, .ref (gO G 50)), (1, .int v1), (2, .int v2), (4, .int v4), (5, .int v5)] 19 [] σ (k19 v1 v2 v4 v5 σ)) (v1 : Int32) (v2 : Int32) (v5 : Int32) (s0 : Int32) (s1 : Int32) (σ : ST) : Jg E 6 (JF E vI) [(0, .ref (gO G 50)), (1, .int v1), (2, .int v2), (5, .int v5)] 50 [.int s0, .int s1] σ (f_X5_whose_L50 k19 v1 v2 v5 s0 s1 σ) := by
  have Y := X.1
  unfold f_X5_whose_L50
  refine J_ior Y dX5_whose_50 ?_
  refine J_istore [(4, .int (s1 ||| s0)), (0, .ref (gO G 50)), (1, .int v1), (2, .int v2), (5, .int v5)] Y dX5_whose_51 (by decide) rfl ?_
  refine J_iinc (v := v5 + (1 : Int32)) [(5, .int (v5 + (1 : Int32))), (4, .int (s1 ||| s0)), (0, .ref (gO G 50)), (1, .int v1), (2, .int v2)] Y 4 dX5_whose_53 rfl (congrArg (fun z => _ + z) (by decide)) (by decide) rfl ?_
  refine J_goto (tgt := 19) Y dX5_whose_56 (by decide) ?_
  refine J_sub [2, 3, 4, 1, 0] rfl ?_
  exact hk19 v1 v2 (s1 ||| s0) (v5 + (1 : Int32)) σ
set_option maxRecDepth 100000 in
set_option maxHeartbeats 4000000 in
theorem j_X5_whose_L19 {E : JE} {G : JG} (X : JM E 6 cX5_whose RX5 (some .int) 7 280 G) : ∀ (n : Nat) (v1 : Int32) (v2 : Int32) (v4 : Int32) (v5 : Int32) (σ : ST), Jg E 6 (JF E vI) [(0, .ref (gO G 50)), (1, .int v1), (2, .int v2), (4, .int v4), (5, .int v5)] 19 [] σ (f_X5_whose_L19 n v1 v2 v4 v5 σ) := by
  have Y := X.1
  intro n
  induction n with
  | zero => intro v1 v2 v4 v5 σ; rw [f_X5_whose_L19]; exact J_none
  | succ n ih =>
    intro v1 v2 v4 v5 σ
    rw [f_X5_whose_L19]
    refine J_iload Y 4 dX5_whose_19 rfl ?_
    refine J_aload_n Y 0 dX5_whose_21 rfl rfl ?_
    refine M_get 0 X (by decide) rfl wfl_RX5_75 rfl dX5_whose_22 ?_
    refine J_icmp_ge (tgt := 59) Y dX5_whose_25 (by decide) ?_ ?_
    · refine J_iload Y 3 dX5_whose_59 rfl ?_
      exact J_ireturn Y dX5_whose_61
    · refine J_iload Y 3 dX5_whose_28 rfl ?_
      refine J_aload_n Y 0 dX5_whose_30 rfl rfl ?_
      refine J_iload_n Y 1 dX5_whose_31 rfl rfl ?_
      refine J_iload_n Y 2 dX5_whose_32 rfl rfl ?_
      refine J_iload Y 4 dX5_whose_33 rfl ?_
      refine M_cVi (As := [.int v1, .int v2, .int v5]) (st := [.int v4]) rfl X (c_X5_unlike G v1 v2 v5 _) wi_X5_unlike win_X5_unlike wse_X5_unlike wml_RX5_256 ⟨Nat.le_of_ble_eq_true rfl, Nat.le_of_ble_eq_true rfl⟩ rfl (Nat.le_of_ble_eq_true rfl) dX5_whose_35 (fun y35 t35 => ?_)
      refine J_iconst (v := (-1 : Int32)) Y dX5_whose_38 (by decide) ?_
      refine J_icmp_ne (tgt := 49) Y dX5_whose_39 (by decide) ?_ ?_
      · refine J_iconst (v := (0 : Int32)) Y dX5_whose_49 (by decide) ?_
        refine J_sub [0, 1, 2, 4] rfl ?_
        exact j_X5_whose_L50 X (fun v1 v2 v4 v5 σ => ih v1 v2 v4 v5 σ) v1 v2 v5 (0 : Int32) v4 t35
      · refine J_iconst (v := (1 : Int32)) Y dX5_whose_42 (by decide) ?_
        refine J_iload Y 4 dX5_whose_43 rfl ?_
        refine J_ishl Y dX5_whose_45 ?_
        refine J_goto (tgt := 50) Y dX5_whose_46 (by decide) ?_
        refine J_sub [0, 1, 2, 4] rfl ?_
        exact j_X5_whose_L50 X (fun v1 v2 v4 v5 σ => ih v1 v2 v4 v5 σ) v1 v2 v5 ((1 : Int32) <<< (v5 &&& 31)) v4 t35
set_option maxRecDepth 100000 in
set_option maxHeartbeats 4000000 in
theorem j_X5_whose {E : JE} {G : JG} (X : JM E 6 cX5_whose RX5 (some .int) 7 280 G) (v1 : Int32) (v2 : Int32) (σ : ST) : Jg E 6 (JF E vI) [(0, .ref (gO G 50)), (1, .int v1), (2, .int v2)] 0 [] σ (f_X5_whose v1 v2 σ) := by
  have Y := X.1
  unfold f_X5_whose
  refine J_aload_n Y 0 dX5_whose_0 rfl rfl ?_
  refine J_iload_n Y 1 dX5_whose_1 rfl rfl ?_
  refine J_iload_n Y 2 dX5_whose_2 rfl rfl ?_
  refine M_cVi (As := [.int v1, .int v2]) (st := []) rfl X (c_X5_twoWrong G v1 v2 _) wi_X5_twoWrong win_X5_twoWrong wse_X5_twoWrong wml_RX5_250 ⟨Nat.le_of_ble_eq_true rfl, Nat.le_of_ble_eq_true rfl⟩ rfl (Nat.le_of_ble_eq_true rfl) dX5_whose_3 (fun y3 t3 => ?_)
  refine J_istore_n [(3, .int y3), (0, .ref (gO G 50)), (1, .int v1), (2, .int v2)] Y dX5_whose_6 rfl (by decide) rfl ?_
  refine J_iload_n Y 0 dX5_whose_7 rfl rfl ?_
  refine J_if_eq (tgt := 13) Y dX5_whose_8 (by decide) ?_ ?_
  · refine J_iconst (v := (0 : Int32)) Y dX5_whose_13 (by decide) ?_
    refine J_istore [(4, .int (0 : Int32)), (3, .int y3), (0, .ref (gO G 50)), (1, .int v1), (2, .int v2)] Y dX5_whose_14 (by decide) rfl ?_
    refine J_iconst (v := (0 : Int32)) Y dX5_whose_16 (by decide) ?_
    refine J_istore [(5, .int (0 : Int32)), (4, .int (0 : Int32)), (3, .int y3), (0, .ref (gO G 50)), (1, .int v1), (2, .int v2)] Y dX5_whose_17 (by decide) rfl ?_
    refine J_sub [3, 4, 5, 1, 0] rfl ?_
    exact j_X5_whose_L19 X 1000 v1 v2 (0 : Int32) (0 : Int32) t3
  · refine J_iload_n Y 0 dX5_whose_11 rfl rfl ?_
    exact J_ireturn Y dX5_whose_12
theorem c_X5_whose (G : JG) (v1 : Int32) (v2 : Int32) (σ : ST) : Con (VM G) vI G.1 yX5_whose cX5_whose 6 (some .int) 7 280 [.ref (gO G 50), .int v1, .int v2] σ (f_X5_whose v1 v2 σ) :=
  Con_of (VM_ok G) (by decide +kernel) (Nat.le_of_ble_eq_true rfl) (fun E e1 e2 _ X => j_X5_whose ⟨X, e1, e2⟩ v1 v2 σ)
set_option maxRecDepth 100000 in
set_option maxHeartbeats 4000000 in
theorem j_X5_laws_L65 {E : JE} {G : JG} (X : JM E 8 cX5_laws RX5 (some .int) 7 280 G) {k29 : Int32 → Int32 → Int32 → Int32 → Int32 → Int32 → ST → Option (Int32 × ST)} (hk29 : ∀ (v1 : Int32) (v2 : Int32) (v3 : Int32) (v5 : Int32) (v6 : Int32) (v7 : Int32) (σ : ST), Jg E 8 (JF E vI) [(0, .ref (gO G 50)), (1, .int v1), (2, .int v2), (3, .int v3), (5, .int v5), (6, .int v6), (7, .int v7)] 29 [] σ (k29 v1 v2 v3 v5 v6 v7 σ)) (v1 : Int32) (v2 : Int32) (v3 : Int32) (v5 : Int32) (v7 : Int32) (s0 : Int32) (s1 : Int32) (σ : ST) : Jg E 8 (JF E vI) [(0, .ref (gO G 50)), (1, .int v1), (2, .int v2), (3, .int v3), (5, .int v5), (7, .int v7)] 65 [.int s0, .int s1] σ (f_X5_laws_L65 k29 v1 v2 v3 v5 v7 s0 s1 σ) := by
  have Y := X.1
  unfold f_X5_laws_L65
  refine J_ior Y dX5_laws_65 ?_
  refine J_istore [(6, .int (s1 ||| s0)), (0, .ref (gO G 50)), (1, .int v1), (2, .int v2), (3, .int v3), (5, .int v5), (7, .int v7)] Y dX5_laws_66 (by decide) rfl ?_
  refine J_iinc (v := v7 + (1 : Int32)) [(7, .int (v7 + (1 : Int32))), (6, .int (s1 ||| s0)), (0, .ref (gO G 50)), (1, .int v1), (2, .int v2), (3, .int v3), (5, .int v5)] Y 6 dX5_laws_68 rfl (congrArg (fun z => _ + z) (by decide)) (by decide) rfl ?_
  refine J_goto (tgt := 29) Y dX5_laws_71 (by decide) ?_
  refine J_sub [2, 3, 4, 5, 6, 1, 0] rfl ?_
  exact hk29 v1 v2 v3 v5 (s1 ||| s0) (v7 + (1 : Int32)) σ
set_option maxRecDepth 100000 in
set_option maxHeartbeats 4000000 in
theorem j_X5_laws_L74 {E : JE} {G : JG} (X : JM E 8 cX5_laws RX5 (some .int) 7 280 G) (v5 : Int32) (v6 : Int32) (σ : ST) : Jg E 8 (JF E vI) [(0, .ref (gO G 50)), (5, .int v5), (6, .int v6)] 74 [] σ (f_X5_laws_L74 v5 v6 σ) := by
  have Y := X.1
  unfold f_X5_laws_L74
  refine J_aload_n Y 0 dX5_laws_74 rfl rfl ?_
  refine J_iload Y 1 dX5_laws_75 rfl ?_
  refine M_put 10 (ty := .int) X (by decide) wfl_RX5_99 rfl rfl rfl (by decide +kernel) rfl (mF_10 G _ _) dX5_laws_77 (fun t77 => ?_)
  refine J_iload Y 2 dX5_laws_80 rfl ?_
  exact J_ireturn Y dX5_laws_82
set_option maxRecDepth 100000 in
set_option maxHeartbeats 4000000 in
theorem j_X5_laws_L29 {E : JE} {G : JG} (X : JM E 8 cX5_laws RX5 (some .int) 7 280 G) : ∀ (n : Nat) (v1 : Int32) (v2 : Int32) (v3 : Int32) (v5 : Int32) (v6 : Int32) (v7 : Int32) (σ : ST), Jg E 8 (JF E vI) [(0, .ref (gO G 50)), (1, .int v1), (2, .int v2), (3, .int v3), (5, .int v5), (6, .int v6), (7, .int v7)] 29 [] σ (f_X5_laws_L29 n v1 v2 v3 v5 v6 v7 σ) := by
  have Y := X.1
  intro n
  induction n with
  | zero => intro v1 v2 v3 v5 v6 v7 σ; rw [f_X5_laws_L29]; exact J_none
  | succ n ih =>
    intro v1 v2 v3 v5 v6 v7 σ
    rw [f_X5_laws_L29]
    refine J_iload Y 6 dX5_laws_29 rfl ?_
    refine J_aload_n Y 0 dX5_laws_31 rfl rfl ?_
    refine M_get 9 X (by decide) rfl wfl_RX5_96 rfl dX5_laws_32 ?_
    refine J_icmp_ge (tgt := 74) Y dX5_laws_35 (by decide) ?_ ?_
    · refine J_sub [0, 4, 5] rfl ?_
      exact j_X5_laws_L74 X v5 v6 σ
    · refine J_aload_n Y 0 dX5_laws_38 rfl rfl ?_
      refine J_iload Y 6 dX5_laws_39 rfl ?_
      refine M_put 10 (ty := .int) X (by decide) wfl_RX5_99 rfl rfl rfl (by decide +kernel) rfl (mF_10 G _ _) dX5_laws_41 (fun t41 => ?_)
      refine J_iload Y 5 dX5_laws_44 rfl ?_
      refine J_aload_n Y 0 dX5_laws_46 rfl rfl ?_
      refine J_iload_n Y 1 dX5_laws_47 rfl rfl ?_
      refine J_iload_n Y 2 dX5_laws_48 rfl rfl ?_
      refine J_iload_n Y 3 dX5_laws_49 rfl rfl ?_
      refine M_cVi (As := [.int v1, .int v2, .int v3]) (st := [.int v6]) rfl X (c_X5_unlike G v1 v2 v3 _) wi_X5_unlike win_X5_unlike wse_X5_unlike wml_RX5_256 ⟨Nat.le_of_ble_eq_true rfl, Nat.le_of_ble_eq_true rfl⟩ rfl (Nat.le_of_ble_eq_true rfl) dX5_laws_50 (fun y50 t50 => ?_)
      refine J_iconst (v := (-1 : Int32)) Y dX5_laws_53 (by decide) ?_
      refine J_icmp_ne (tgt := 64) Y dX5_laws_54 (by decide) ?_ ?_
      · refine J_iconst (v := (0 : Int32)) Y dX5_laws_64 (by decide) ?_
        refine J_sub [0, 1, 2, 3, 4, 6] rfl ?_
        exact j_X5_laws_L65 X (fun v1 v2 v3 v5 v6 v7 σ => ih v1 v2 v3 v5 v6 v7 σ) v1 v2 v3 v5 v7 (0 : Int32) v6 t50
      · refine J_iconst (v := (1 : Int32)) Y dX5_laws_57 (by decide) ?_
        refine J_iload Y 6 dX5_laws_58 rfl ?_
        refine J_ishl Y dX5_laws_60 ?_
        refine J_goto (tgt := 65) Y dX5_laws_61 (by decide) ?_
        refine J_sub [0, 1, 2, 3, 4, 6] rfl ?_
        exact j_X5_laws_L65 X (fun v1 v2 v3 v5 v6 v7 σ => ih v1 v2 v3 v5 v6 v7 σ) v1 v2 v3 v5 v7 ((1 : Int32) <<< (v7 &&& 31)) v6 t50
set_option maxRecDepth 100000 in
set_option maxHeartbeats 4000000 in
theorem j_X5_laws {E : JE} {G : JG} (X : JM E 8 cX5_laws RX5 (some .int) 7 280 G) (v1 : Int32) (v2 : Int32) (v3 : Int32) (σ : ST) : Jg E 8 (JF E vI) [(0, .ref (gO G 50)), (1, .int v1), (2, .int v2), (3, .int v3)] 0 [] σ (f_X5_laws v1 v2 v3 σ) := by
  have Y := X.1
  unfold f_X5_laws
  refine J_aload_n Y 0 dX5_laws_0 rfl rfl ?_
  refine J_iload_n Y 1 dX5_laws_1 rfl rfl ?_
  refine J_iload_n Y 2 dX5_laws_2 rfl rfl ?_
  refine J_iload_n Y 3 dX5_laws_3 rfl rfl ?_
  refine M_cVi (As := [.int v1, .int v2, .int v3]) (st := []) rfl X (c_X5_toldWrong G v1 v2 v3 _) wi_X5_toldWrong win_X5_toldWrong wse_X5_toldWrong wml_RX5_253 ⟨Nat.le_of_ble_eq_true rfl, Nat.le_of_ble_eq_true rfl⟩ rfl (Nat.le_of_ble_eq_true rfl) dX5_laws_4 (fun y4 t4 => ?_)
  refine J_istore [(4, .int y4), (0, .ref (gO G 50)), (1, .int v1), (2, .int v2), (3, .int v3)] Y dX5_laws_7 (by decide) rfl ?_
  refine J_iload Y 0 dX5_laws_9 rfl ?_
  refine J_if_eq (tgt := 17) Y dX5_laws_11 (by decide) ?_ ?_
  · refine J_aload_n Y 1 dX5_laws_17 rfl rfl ?_
    refine M_get 10 X (by decide) rfl wfl_RX5_99 rfl dX5_laws_18 ?_
    refine J_istore [(5, .int (gs 50 10 t4)), (4, .int y4), (0, .ref (gO G 50)), (1, .int v1), (2, .int v2), (3, .int v3)] Y dX5_laws_21 (by decide) rfl ?_
    refine J_iconst (v := (0 : Int32)) Y dX5_laws_23 (by decide) ?_
    refine J_istore [(6, .int (0 : Int32)), (5, .int (gs 50 10 t4)), (4, .int y4), (0, .ref (gO G 50)), (1, .int v1), (2, .int v2), (3, .int v3)] Y dX5_laws_24 (by decide) rfl ?_
    refine J_iconst (v := (0 : Int32)) Y dX5_laws_26 (by decide) ?_
    refine J_istore [(7, .int (0 : Int32)), (6, .int (0 : Int32)), (5, .int (gs 50 10 t4)), (4, .int y4), (0, .ref (gO G 50)), (1, .int v1), (2, .int v2), (3, .int v3)] Y dX5_laws_27 (by decide) rfl ?_
    refine J_sub [4, 5, 6, 7, 2, 1, 0] rfl ?_
    exact j_X5_laws_L29 X 1000 v1 v2 v3 (gs 50 10 t4) (0 : Int32) (0 : Int32) t4
  · refine J_iload Y 0 dX5_laws_14 rfl ?_
    exact J_ireturn Y dX5_laws_16
theorem c_X5_laws (G : JG) (v1 : Int32) (v2 : Int32) (v3 : Int32) (σ : ST) : Con (VM G) vI G.1 yX5_laws cX5_laws 8 (some .int) 7 280 [.ref (gO G 50), .int v1, .int v2, .int v3] σ (f_X5_laws v1 v2 v3 σ) :=
  Con_of (VM_ok G) (by decide +kernel) (Nat.le_of_ble_eq_true rfl) (fun E e1 e2 _ X => j_X5_laws ⟨X, e1, e2⟩ v1 v2 v3 σ)
set_option maxRecDepth 100000 in
set_option maxHeartbeats 4000000 in
theorem j_X5_film_L14 {E : JE} {G : JG} (X : JM E 6 cX5_film RX5 (some .int) 6 240 G) (σ : ST) : Jg E 6 (JF E vI) [] 14 [] σ (f_X5_film_L14 σ) := by
  have Y := X.1
  unfold f_X5_film_L14
  refine J_bipush (v := (-2 : Int32)) Y dX5_film_14 (by decide) ?_
  exact J_ireturn Y dX5_film_16
set_option maxRecDepth 100000 in
set_option maxHeartbeats 4000000 in
theorem j_X5_film_L146 {E : JE} {G : JG} (X : JM E 6 cX5_film RX5 (some .int) 6 240 G) {k69 : Int32 → Int32 → Int32 → Int32 → ST → Option (Int32 × ST)} (hk69 : ∀ (v1 : Int32) (v2 : Int32) (v3 : Int32) (v5 : Int32) (σ : ST), Jg E 6 (JF E vI) [(0, .ref (gO G 50)), (1, .int v1), (2, .int v2), (3, .int v3), (5, .int v5)] 69 [] σ (k69 v1 v2 v3 v5 σ)) (v1 : Int32) (v2 : Int32) (v3 : Int32) (v5 : Int32) (σ : ST) : Jg E 6 (JF E vI) [(0, .ref (gO G 50)), (1, .int v1), (2, .int v2), (3, .int v3), (5, .int v5)] 146 [] σ (f_X5_film_L146 k69 v1 v2 v3 v5 σ) := by
  have Y := X.1
  unfold f_X5_film_L146
  refine J_iinc (v := v5 + (1 : Int32)) [(5, .int (v5 + (1 : Int32))), (0, .ref (gO G 50)), (1, .int v1), (2, .int v2), (3, .int v3)] Y 4 dX5_film_146 rfl (congrArg (fun z => _ + z) (by decide)) (by decide) rfl ?_
  refine J_goto (tgt := 69) Y dX5_film_149 (by decide) ?_
  refine J_sub [1, 2, 3, 4, 0] rfl ?_
  exact hk69 v1 v2 v3 (v5 + (1 : Int32)) σ
set_option maxRecDepth 100000 in
set_option maxHeartbeats 4000000 in
theorem j_X5_film_L152 {E : JE} {G : JG} (X : JM E 6 cX5_film RX5 (some .int) 6 240 G) (v1 : Int32) (σ : ST) : Jg E 6 (JF E vI) [(0, .ref (gO G 50)), (1, .int v1)] 152 [] σ (f_X5_film_L152 v1 σ) := by
  have Y := X.1
  unfold f_X5_film_L152
  refine J_aload_n Y 0 dX5_film_152 rfl rfl ?_
  refine M_cVv (As := []) (st := []) rfl X (c_X5_lays G _) wi_X5_lays win_X5_lays wse_X5_lays wml_RX5_220 ⟨Nat.le_of_ble_eq_true rfl, Nat.le_of_ble_eq_true rfl⟩ rfl (Nat.le_of_ble_eq_true rfl) dX5_film_153 (fun t153 => ?_)
  refine J_aload_n Y 0 dX5_film_156 rfl rfl ?_
  refine M_get 15 X (by decide) rfl wfl_RX5_37 rfl dX5_film_157 ?_
  refine J_iload_n Y 1 dX5_film_160 rfl rfl ?_
  refine M_ald X (mA_15 G _) dX5_film_161 (fun x161 => ?_)
  exact J_ireturn Y dX5_film_162
set_option maxRecDepth 100000 in
set_option maxHeartbeats 4000000 in
theorem j_X5_film_L69 {E : JE} {G : JG} (X : JM E 6 cX5_film RX5 (some .int) 6 240 G) : ∀ (n : Nat) (v1 : Int32) (v2 : Int32) (v3 : Int32) (v5 : Int32) (σ : ST), Jg E 6 (JF E vI) [(0, .ref (gO G 50)), (1, .int v1), (2, .int v2), (3, .int v3), (5, .int v5)] 69 [] σ (f_X5_film_L69 n v1 v2 v3 v5 σ) := by
  have Y := X.1
  intro n
  induction n with
  | zero => intro v1 v2 v3 v5 σ; rw [f_X5_film_L69]; exact J_none
  | succ n ih =>
    intro v1 v2 v3 v5 σ
    rw [f_X5_film_L69]
    refine J_iload Y 4 dX5_film_69 rfl ?_
    refine J_bipush (v := (40 : Int32)) Y dX5_film_71 (by decide) ?_
    refine J_icmp_ge (tgt := 152) Y dX5_film_73 (by decide) ?_ ?_
    · refine J_sub [0, 1] rfl ?_
      exact j_X5_film_L152 X v1 σ
    · refine J_aload_n Y 0 dX5_film_76 rfl rfl ?_
      refine M_get 16 X (by decide) rfl wfl_RX5_40 rfl dX5_film_77 ?_
      refine J_bipush (v := (40 : Int32)) Y dX5_film_80 (by decide) ?_
      refine J_iload_n Y 2 dX5_film_82 rfl rfl ?_
      refine J_imul Y dX5_film_83 ?_
      refine J_iload Y 4 dX5_film_84 rfl ?_
      refine J_iadd Y dX5_film_86 ?_
      refine J_iconst (v := (0 : Int32)) Y dX5_film_87 (by decide) ?_
      refine M_ast X (mA_16 G _) (mS_16 G _) dX5_film_88 (fun t88 => ?_)
      refine J_iload Y 4 dX5_film_89 rfl ?_
      refine J_aload_n Y 0 dX5_film_91 rfl rfl ?_
      refine M_get 15 X (by decide) rfl wfl_RX5_37 rfl dX5_film_92 ?_
      refine J_iload_n Y 1 dX5_film_95 rfl rfl ?_
      refine M_ald X (mA_15 G _) dX5_film_96 (fun x96 => ?_)
      refine J_icmp_ge (tgt := 146) Y dX5_film_97 (by decide) ?_ ?_
      · exact j_X5_film_L146 X (fun v1 v2 v3 v5 σ => ih v1 v2 v3 v5 σ) v1 v2 v3 v5 t88
      · refine J_aload_n Y 0 dX5_film_100 rfl rfl ?_
        refine J_aload_n Y 0 dX5_film_101 rfl rfl ?_
        refine M_get 16 X (by decide) rfl wfl_RX5_40 rfl dX5_film_102 ?_
        refine J_bipush (v := (40 : Int32)) Y dX5_film_105 (by decide) ?_
        refine J_iload_n Y 1 dX5_film_107 rfl rfl ?_
        refine J_imul Y dX5_film_108 ?_
        refine J_iload Y 4 dX5_film_109 rfl ?_
        refine J_iadd Y dX5_film_111 ?_
        refine M_ald X (mA_16 G _) dX5_film_112 (fun x112 => ?_)
        refine M_cVi (As := [.int x112]) (st := []) rfl X (c_X5_takesOne G x112 _) wi_X5_takesOne win_X5_takesOne wse_X5_takesOne wml_RX5_208 ⟨Nat.le_of_ble_eq_true rfl, Nat.le_of_ble_eq_true rfl⟩ rfl (Nat.le_of_ble_eq_true rfl) dX5_film_113 (fun y113 t113 => ?_)
        refine J_pop Y dX5_film_116 rfl ?_
        refine J_aload_n Y 0 dX5_film_117 rfl rfl ?_
        refine M_cVi (As := []) (st := []) rfl X (c_X5_minuteOf G _) wi_X5_minuteOf win_X5_minuteOf wse_X5_minuteOf wml_RX5_199 ⟨Nat.le_of_ble_eq_true rfl, Nat.le_of_ble_eq_true rfl⟩ rfl (Nat.le_of_ble_eq_true rfl) dX5_film_118 (fun y118 t118 => ?_)
        refine J_pop Y dX5_film_121 rfl ?_
        refine J_aload_n Y 0 dX5_film_122 rfl rfl ?_
        refine M_get 16 X (by decide) rfl wfl_RX5_40 rfl dX5_film_123 ?_
        refine J_bipush (v := (40 : Int32)) Y dX5_film_126 (by decide) ?_
        refine J_iload_n Y 2 dX5_film_128 rfl rfl ?_
        refine J_imul Y dX5_film_129 ?_
        refine J_iload Y 4 dX5_film_130 rfl ?_
        refine J_iadd Y dX5_film_132 ?_
        refine J_aload_n Y 0 dX5_film_133 rfl rfl ?_
        refine M_get 3 X (by decide) rfl wfl_RX5_16 rfl dX5_film_134 ?_
        refine J_bipush (v := (12 : Int32)) Y dX5_film_137 (by decide) ?_
        refine J_iload_n Y 3 dX5_film_139 rfl rfl ?_
        refine J_imul Y dX5_film_140 ?_
        refine J_bipush (v := (8 : Int32)) Y dX5_film_141 (by decide) ?_
        refine J_iadd Y dX5_film_143 ?_
        refine M_ald X (mA_3 G _) dX5_film_144 (fun x144 => ?_)
        refine M_ast X (mA_16 G _) (mS_16 G _) dX5_film_145 (fun t145 => ?_)
        exact j_X5_film_L146 X (fun v1 v2 v3 v5 σ => ih v1 v2 v3 v5 σ) v1 v2 v3 v5 t145
set_option maxRecDepth 100000 in
set_option maxHeartbeats 4000000 in
theorem j_X5_film {E : JE} {G : JG} (X : JM E 6 cX5_film RX5 (some .int) 6 240 G) (v1 : Int32) (v2 : Int32) (v3 : Int32) (σ : ST) : Jg E 6 (JF E vI) [(0, .ref (gO G 50)), (1, .int v1), (2, .int v2), (3, .int v3)] 0 [] σ (f_X5_film v1 v2 v3 σ) := by
  have Y := X.1
  unfold f_X5_film
  refine J_iload_n Y 2 dX5_film_0 rfl rfl ?_
  refine J_iconst (v := (0 : Int32)) Y dX5_film_1 (by decide) ?_
  refine J_iconst (v := (3 : Int32)) Y dX5_film_2 (by decide) ?_
  refine M_cSi (As := [.int v2, .int (0 : Int32), .int (3 : Int32)]) (st := []) rfl X (c_X5_in G v2 (0 : Int32) (3 : Int32) _) wi_X5_in wst_X5_in wml_RX5_78 ⟨Nat.le_of_ble_eq_true rfl, Nat.le_of_ble_eq_true rfl⟩ rfl (Nat.le_of_ble_eq_true rfl) dX5_film_3 (fun y3 t3 => ?_)
  refine J_if_eq (tgt := 14) Y dX5_film_6 (by decide) ?_ ?_
  · refine J_sub [] rfl ?_
    exact j_X5_film_L14 X  t3
  · refine J_iload_n Y 1 dX5_film_9 rfl rfl ?_
    refine J_iload_n Y 2 dX5_film_10 rfl rfl ?_
    refine J_icmp_ne (tgt := 17) Y dX5_film_11 (by decide) ?_ ?_
    · refine J_aload_n Y 0 dX5_film_17 rfl rfl ?_
      refine J_iload_n Y 1 dX5_film_18 rfl rfl ?_
      refine M_cVi (As := [.int v1]) (st := []) rfl X (c_X5_eveningWrong G v1 _) wi_X5_eveningWrong win_X5_eveningWrong wse_X5_eveningWrong wml_RX5_211 ⟨Nat.le_of_ble_eq_true rfl, Nat.le_of_ble_eq_true rfl⟩ rfl (Nat.le_of_ble_eq_true rfl) dX5_film_19 (fun y19 t19 => ?_)
      refine J_istore [(4, .int y19), (0, .ref (gO G 50)), (1, .int v1), (2, .int v2), (3, .int v3)] Y dX5_film_22 (by decide) rfl ?_
      refine J_iload Y 0 dX5_film_24 rfl ?_
      refine J_if_eq (tgt := 32) Y dX5_film_26 (by decide) ?_ ?_
      · refine J_aload_n Y 1 dX5_film_32 rfl rfl ?_
        refine J_iload_n Y 4 dX5_film_33 rfl rfl ?_
        refine M_cVi (As := [.int v3]) (st := []) rfl X (c_X5_isOne G v3 _) wi_X5_isOne win_X5_isOne wse_X5_isOne wml_RX5_170 ⟨Nat.le_of_ble_eq_true rfl, Nat.le_of_ble_eq_true rfl⟩ rfl (Nat.le_of_ble_eq_true rfl) dX5_film_34 (fun y34 t34 => ?_)
        refine J_if_ne (tgt := 43) Y dX5_film_37 (by decide) ?_ ?_
        · refine J_aload_n Y 1 dX5_film_43 rfl rfl ?_
          refine M_get 14 X (by decide) rfl wfl_RX5_34 rfl dX5_film_44 ?_
          refine J_iload_n Y 3 dX5_film_47 rfl rfl ?_
          refine J_iconst (v := (0 : Int32)) Y dX5_film_48 (by decide) ?_
          refine M_ast X (mA_14 G _) (mS_14 G _) dX5_film_49 (fun t49 => ?_)
          refine J_aload_n Y 1 dX5_film_50 rfl rfl ?_
          refine M_get 15 X (by decide) rfl wfl_RX5_37 rfl dX5_film_51 ?_
          refine J_iload_n Y 3 dX5_film_54 rfl rfl ?_
          refine J_aload_n Y 1 dX5_film_55 rfl rfl ?_
          refine M_get 15 X (by decide) rfl wfl_RX5_37 rfl dX5_film_56 ?_
          refine J_iload_n Y 2 dX5_film_59 rfl rfl ?_
          refine M_ald X (mA_15 G _) dX5_film_60 (fun x60 => ?_)
          refine M_ast X (mA_15 G _) (mS_15 G _) dX5_film_61 (fun t61 => ?_)
          refine J_aload_n Y 1 dX5_film_62 rfl rfl ?_
          refine M_cVv (As := []) (st := []) rfl X (c_X5_keeps G _) wi_X5_keeps win_X5_keeps wse_X5_keeps wml_RX5_214 ⟨Nat.le_of_ble_eq_true rfl, Nat.le_of_ble_eq_true rfl⟩ rfl (Nat.le_of_ble_eq_true rfl) dX5_film_63 (fun t63 => ?_)
          refine J_iconst (v := (0 : Int32)) Y dX5_film_66 (by decide) ?_
          refine J_istore [(5, .int (0 : Int32)), (4, .int y19), (0, .ref (gO G 50)), (1, .int v1), (2, .int v2), (3, .int v3)] Y dX5_film_67 (by decide) rfl ?_
          refine J_sub [2, 3, 4, 5, 0] rfl ?_
          exact j_X5_film_L69 X 1000 v1 v2 v3 (0 : Int32) t63
        · refine J_bipush (v := (-5 : Int32)) Y dX5_film_40 (by decide) ?_
          exact J_ireturn Y dX5_film_42
      · refine J_iload Y 0 dX5_film_29 rfl ?_
        exact J_ireturn Y dX5_film_31
    · refine J_sub [] rfl ?_
      exact j_X5_film_L14 X  t3
theorem c_X5_film (G : JG) (v1 : Int32) (v2 : Int32) (v3 : Int32) (σ : ST) : Con (VM G) vI G.1 yX5_film cX5_film 6 (some .int) 6 240 [.ref (gO G 50), .int v1, .int v2, .int v3] σ (f_X5_film v1 v2 v3 σ) :=
  Con_of (VM_ok G) (by decide +kernel) (Nat.le_of_ble_eq_true rfl) (fun E e1 e2 _ X => j_X5_film ⟨X, e1, e2⟩ v1 v2 v3 σ)
set_option maxRecDepth 100000 in
set_option maxHeartbeats 4000000 in
theorem j_X5_lotEvening_L97 {E : JE} {G : JG} (X : JM E 8 cX5_lotEvening RX5 (some .int) 6 240 G) {k17 : Int32 → Int64 → Int32 → ST → Option (Int32 × ST)} (hk17 : ∀ (v2 : Int32) (w3 : Int64) (v5 : Int32) (σ : ST), Jg E 8 (JF E vI) [(0, .ref (gO G 50)), (2, .int v2), (3, .long w3), (5, .int v5)] 17 [] σ (k17 v2 w3 v5 σ)) (v2 : Int32) (w3 : Int64) (v5 : Int32) (σ : ST) : Jg E 8 (JF E vI) [(0, .ref (gO G 50)), (2, .int v2), (3, .long w3), (5, .int v5)] 97 [] σ (f_X5_lotEvening_L97 k17 v2 w3 v5 σ) := by
  have Y := X.1
  unfold f_X5_lotEvening_L97
  refine J_aload_n Y 0 dX5_lotEvening_97 rfl rfl ?_
  refine M_cVi (As := []) (st := []) rfl X (c_X5_minuteOf G _) wi_X5_minuteOf win_X5_minuteOf wse_X5_minuteOf wml_RX5_199 ⟨Nat.le_of_ble_eq_true rfl, Nat.le_of_ble_eq_true rfl⟩ rfl (Nat.le_of_ble_eq_true rfl) dX5_lotEvening_98 (fun y98 t98 => ?_)
  refine J_pop Y dX5_lotEvening_101 rfl ?_
  refine J_iinc (v := v5 + (1 : Int32)) [(5, .int (v5 + (1 : Int32))), (0, .ref (gO G 50)), (2, .int v2), (3, .long w3)] Y 3 dX5_lotEvening_102 rfl (congrArg (fun z => _ + z) (by decide)) (by decide) rfl ?_
  refine J_goto (tgt := 17) Y dX5_lotEvening_105 (by decide) ?_
  refine J_sub [1, 2, 3, 0] rfl ?_
  exact hk17 v2 w3 (v5 + (1 : Int32)) t98
set_option maxRecDepth 100000 in
set_option maxHeartbeats 4000000 in
theorem j_X5_lotEvening_L93 {E : JE} {G : JG} (X : JM E 8 cX5_lotEvening RX5 (some .int) 6 240 G) {k17 : Int32 → Int64 → Int32 → ST → Option (Int32 × ST)} (hk17 : ∀ (v2 : Int32) (w3 : Int64) (v5 : Int32) (σ : ST), Jg E 8 (JF E vI) [(0, .ref (gO G 50)), (2, .int v2), (3, .long w3), (5, .int v5)] 17 [] σ (k17 v2 w3 v5 σ)) (v2 : Int32) (w3 : Int64) (v5 : Int32) (s0 : Int32) (s1 : Int32) (σ : ST) : Jg E 8 (JF E vI) [(0, .ref (gO G 50)), (2, .int v2), (3, .long w3), (5, .int v5)] 93 [.int s0, .int s1, .ref (gO G 50)] σ (f_X5_lotEvening_L93 k17 v2 w3 v5 s0 s1 σ) := by
  have Y := X.1
  unfold f_X5_lotEvening_L93
  refine J_iadd Y dX5_lotEvening_93 ?_
  refine M_put 32 (ty := .int) X (by decide) wfl_RX5_259 rfl rfl rfl (by decide +kernel) rfl (mF_32 G _ _) dX5_lotEvening_94 (fun t94 => ?_)
  exact j_X5_lotEvening_L97 X hk17 v2 w3 v5 t94
set_option maxRecDepth 100000 in
set_option maxHeartbeats 4000000 in
theorem j_X5_lotEvening_L108 {E : JE} {G : JG} (X : JM E 8 cX5_lotEvening RX5 (some .int) 6 240 G) (σ : ST) : Jg E 8 (JF E vI) [(0, .ref (gO G 50))] 108 [] σ (f_X5_lotEvening_L108 σ) := by
  have Y := X.1
  unfold f_X5_lotEvening_L108
  refine J_aload_n Y 0 dX5_lotEvening_108 rfl rfl ?_
  refine M_cVi (As := []) (st := []) rfl X (c_X5_witAll G _) wi_X5_witAll win_X5_witAll wse_X5_witAll wml_RX5_235 ⟨Nat.le_of_ble_eq_true rfl, Nat.le_of_ble_eq_true rfl⟩ rfl (Nat.le_of_ble_eq_true rfl) dX5_lotEvening_109 (fun y109 t109 => ?_)
  refine J_istore [(5, .int y109), (0, .ref (gO G 50))] Y dX5_lotEvening_112 (by decide) rfl ?_
  refine J_aload_n Y 1 dX5_lotEvening_114 rfl rfl ?_
  refine M_cVv (As := []) (st := []) rfl X (c_X5_lays G _) wi_X5_lays win_X5_lays wse_X5_lays wml_RX5_220 ⟨Nat.le_of_ble_eq_true rfl, Nat.le_of_ble_eq_true rfl⟩ rfl (Nat.le_of_ble_eq_true rfl) dX5_lotEvening_115 (fun t115 => ?_)
  refine J_iload Y 0 dX5_lotEvening_118 rfl ?_
  exact J_ireturn Y dX5_lotEvening_120
set_option maxRecDepth 100000 in
set_option maxHeartbeats 4000000 in
theorem j_X5_lotEvening_L17 {E : JE} {G : JG} (X : JM E 8 cX5_lotEvening RX5 (some .int) 6 240 G) : ∀ (n : Nat) (v2 : Int32) (w3 : Int64) (v5 : Int32) (σ : ST), Jg E 8 (JF E vI) [(0, .ref (gO G 50)), (2, .int v2), (3, .long w3), (5, .int v5)] 17 [] σ (f_X5_lotEvening_L17 n v2 w3 v5 σ) := by
  have Y := X.1
  intro n
  induction n with
  | zero => intro v2 w3 v5 σ; rw [f_X5_lotEvening_L17]; exact J_none
  | succ n ih =>
    intro v2 w3 v5 σ
    rw [f_X5_lotEvening_L17]
    refine J_iload Y 3 dX5_lotEvening_17 rfl ?_
    refine J_iload_n Y 1 dX5_lotEvening_19 rfl rfl ?_
    refine J_icmp_ge (tgt := 108) Y dX5_lotEvening_20 (by decide) ?_ ?_
    · refine J_sub [0] rfl ?_
      exact j_X5_lotEvening_L108 X  σ
    · refine J_lload_n Y 2 dX5_lotEvening_23 rfl rfl ?_
      refine J_ldc2 (v := (48271 : Int64)) Y wcl_RX5_262 dX5_lotEvening_24 ?_
      refine J_lmul Y dX5_lotEvening_27 ?_
      refine J_ldc2 (v := (2147483647 : Int64)) Y wcl_RX5_264 dX5_lotEvening_28 ?_
      refine J_lrem Y dX5_lotEvening_31 (by decide) ?_
      refine J_lstore_n [(3, .long ((w3 * (48271 : Int64)) - (w3 * (48271 : Int64)) / (2147483647 : Int64) * (2147483647 : Int64))), (0, .ref (gO G 50)), (2, .int v2), (5, .int v5)] Y dX5_lotEvening_32 rfl (by decide) rfl ?_
      refine J_lload_n Y 0 dX5_lotEvening_33 rfl rfl ?_
      refine J_ldc2 (v := (6 : Int64)) Y wcl_RX5_266 dX5_lotEvening_34 ?_
      refine J_lrem Y dX5_lotEvening_37 (by decide) ?_
      refine J_l2i Y dX5_lotEvening_38 ?_
      refine J_istore [(6, .int ((((w3 * (48271 : Int64)) - (w3 * (48271 : Int64)) / (2147483647 : Int64) * (2147483647 : Int64)) - ((w3 * (48271 : Int64)) - (w3 * (48271 : Int64)) / (2147483647 : Int64) * (2147483647 : Int64)) / (6 : Int64) * (6 : Int64)).toInt32)), (3, .long ((w3 * (48271 : Int64)) - (w3 * (48271 : Int64)) / (2147483647 : Int64) * (2147483647 : Int64))), (0, .ref (gO G 50)), (2, .int v2), (5, .int v5)] Y dX5_lotEvening_39 (by decide) rfl ?_
      refine J_lload_n Y 1 dX5_lotEvening_41 rfl rfl ?_
      refine J_ldc2 (v := (48271 : Int64)) Y wcl_RX5_262 dX5_lotEvening_42 ?_
      refine J_lmul Y dX5_lotEvening_45 ?_
      refine J_ldc2 (v := (2147483647 : Int64)) Y wcl_RX5_264 dX5_lotEvening_46 ?_
      refine J_lrem Y dX5_lotEvening_49 (by decide) ?_
      refine J_lstore_n [(3, .long ((((w3 * (48271 : Int64)) - (w3 * (48271 : Int64)) / (2147483647 : Int64) * (2147483647 : Int64)) * (48271 : Int64)) - (((w3 * (48271 : Int64)) - (w3 * (48271 : Int64)) / (2147483647 : Int64) * (2147483647 : Int64)) * (48271 : Int64)) / (2147483647 : Int64) * (2147483647 : Int64))), (6, .int ((((w3 * (48271 : Int64)) - (w3 * (48271 : Int64)) / (2147483647 : Int64) * (2147483647 : Int64)) - ((w3 * (48271 : Int64)) - (w3 * (48271 : Int64)) / (2147483647 : Int64) * (2147483647 : Int64)) / (6 : Int64) * (6 : Int64)).toInt32)), (0, .ref (gO G 50)), (2, .int v2), (5, .int v5)] Y dX5_lotEvening_50 rfl (by decide) rfl ?_
      refine J_lload_n Y 0 dX5_lotEvening_51 rfl rfl ?_
      refine J_ldc2 (v := (8 : Int64)) Y wcl_RX5_268 dX5_lotEvening_52 ?_
      refine J_lrem Y dX5_lotEvening_55 (by decide) ?_
      refine J_l2i Y dX5_lotEvening_56 ?_
      refine J_istore [(7, .int ((((((w3 * (48271 : Int64)) - (w3 * (48271 : Int64)) / (2147483647 : Int64) * (2147483647 : Int64)) * (48271 : Int64)) - (((w3 * (48271 : Int64)) - (w3 * (48271 : Int64)) / (2147483647 : Int64) * (2147483647 : Int64)) * (48271 : Int64)) / (2147483647 : Int64) * (2147483647 : Int64)) - ((((w3 * (48271 : Int64)) - (w3 * (48271 : Int64)) / (2147483647 : Int64) * (2147483647 : Int64)) * (48271 : Int64)) - (((w3 * (48271 : Int64)) - (w3 * (48271 : Int64)) / (2147483647 : Int64) * (2147483647 : Int64)) * (48271 : Int64)) / (2147483647 : Int64) * (2147483647 : Int64)) / (8 : Int64) * (8 : Int64)).toInt32)), (3, .long ((((w3 * (48271 : Int64)) - (w3 * (48271 : Int64)) / (2147483647 : Int64) * (2147483647 : Int64)) * (48271 : Int64)) - (((w3 * (48271 : Int64)) - (w3 * (48271 : Int64)) / (2147483647 : Int64) * (2147483647 : Int64)) * (48271 : Int64)) / (2147483647 : Int64) * (2147483647 : Int64))), (6, .int ((((w3 * (48271 : Int64)) - (w3 * (48271 : Int64)) / (2147483647 : Int64) * (2147483647 : Int64)) - ((w3 * (48271 : Int64)) - (w3 * (48271 : Int64)) / (2147483647 : Int64) * (2147483647 : Int64)) / (6 : Int64) * (6 : Int64)).toInt32)), (0, .ref (gO G 50)), (2, .int v2), (5, .int v5)] Y dX5_lotEvening_57 (by decide) rfl ?_
      refine J_iload Y 2 dX5_lotEvening_59 rfl ?_
      refine J_aload_n Y 3 dX5_lotEvening_61 rfl rfl ?_
      refine M_get 0 X (by decide) rfl wfl_RX5_75 rfl dX5_lotEvening_62 ?_
      refine J_icmp_ge (tgt := 97) Y dX5_lotEvening_65 (by decide) ?_ ?_
      · refine J_sub [3, 4, 1, 5] rfl ?_
        exact j_X5_lotEvening_L97 X (fun v2 w3 v5 σ => ih v2 w3 v5 σ) v2 ((((w3 * (48271 : Int64)) - (w3 * (48271 : Int64)) / (2147483647 : Int64) * (2147483647 : Int64)) * (48271 : Int64)) - (((w3 * (48271 : Int64)) - (w3 * (48271 : Int64)) / (2147483647 : Int64) * (2147483647 : Int64)) * (48271 : Int64)) / (2147483647 : Int64) * (2147483647 : Int64)) v5 σ
      · refine J_aload_n Y 3 dX5_lotEvening_68 rfl rfl ?_
        refine J_dup Y dX5_lotEvening_69 rfl ?_
        refine M_get 32 X (by decide) rfl wfl_RX5_259 rfl dX5_lotEvening_70 ?_
        refine J_aload_n Y 3 dX5_lotEvening_73 rfl rfl ?_
        refine J_bipush (v := (10 : Int32)) Y dX5_lotEvening_74 (by decide) ?_
        refine J_iload Y 2 dX5_lotEvening_76 rfl ?_
        refine J_imul Y dX5_lotEvening_78 ?_
        refine J_iload Y 0 dX5_lotEvening_79 rfl ?_
        refine J_iadd Y dX5_lotEvening_81 ?_
        refine M_cVi (As := [.int (((10 : Int32) * ((((w3 * (48271 : Int64)) - (w3 * (48271 : Int64)) / (2147483647 : Int64) * (2147483647 : Int64)) - ((w3 * (48271 : Int64)) - (w3 * (48271 : Int64)) / (2147483647 : Int64) * (2147483647 : Int64)) / (6 : Int64) * (6 : Int64)).toInt32)) + ((((((w3 * (48271 : Int64)) - (w3 * (48271 : Int64)) / (2147483647 : Int64) * (2147483647 : Int64)) * (48271 : Int64)) - (((w3 * (48271 : Int64)) - (w3 * (48271 : Int64)) / (2147483647 : Int64) * (2147483647 : Int64)) * (48271 : Int64)) / (2147483647 : Int64) * (2147483647 : Int64)) - ((((w3 * (48271 : Int64)) - (w3 * (48271 : Int64)) / (2147483647 : Int64) * (2147483647 : Int64)) * (48271 : Int64)) - (((w3 * (48271 : Int64)) - (w3 * (48271 : Int64)) / (2147483647 : Int64) * (2147483647 : Int64)) * (48271 : Int64)) / (2147483647 : Int64) * (2147483647 : Int64)) / (8 : Int64) * (8 : Int64)).toInt32))]) (st := [.int (gs 50 32 σ), .ref (gO G 50)]) rfl X (c_X5_takesOne G (((10 : Int32) * ((((w3 * (48271 : Int64)) - (w3 * (48271 : Int64)) / (2147483647 : Int64) * (2147483647 : Int64)) - ((w3 * (48271 : Int64)) - (w3 * (48271 : Int64)) / (2147483647 : Int64) * (2147483647 : Int64)) / (6 : Int64) * (6 : Int64)).toInt32)) + ((((((w3 * (48271 : Int64)) - (w3 * (48271 : Int64)) / (2147483647 : Int64) * (2147483647 : Int64)) * (48271 : Int64)) - (((w3 * (48271 : Int64)) - (w3 * (48271 : Int64)) / (2147483647 : Int64) * (2147483647 : Int64)) * (48271 : Int64)) / (2147483647 : Int64) * (2147483647 : Int64)) - ((((w3 * (48271 : Int64)) - (w3 * (48271 : Int64)) / (2147483647 : Int64) * (2147483647 : Int64)) * (48271 : Int64)) - (((w3 * (48271 : Int64)) - (w3 * (48271 : Int64)) / (2147483647 : Int64) * (2147483647 : Int64)) * (48271 : Int64)) / (2147483647 : Int64) * (2147483647 : Int64)) / (8 : Int64) * (8 : Int64)).toInt32)) _) wi_X5_takesOne win_X5_takesOne wse_X5_takesOne wml_RX5_208 ⟨Nat.le_of_ble_eq_true rfl, Nat.le_of_ble_eq_true rfl⟩ rfl (Nat.le_of_ble_eq_true rfl) dX5_lotEvening_82 (fun y82 t82 => ?_)
        refine J_if_eq (tgt := 92) Y dX5_lotEvening_85 (by decide) ?_ ?_
        · refine J_iconst (v := (0 : Int32)) Y dX5_lotEvening_92 (by decide) ?_
          refine J_sub [3, 4, 1, 5] rfl ?_
          exact j_X5_lotEvening_L93 X (fun v2 w3 v5 σ => ih v2 w3 v5 σ) v2 ((((w3 * (48271 : Int64)) - (w3 * (48271 : Int64)) / (2147483647 : Int64) * (2147483647 : Int64)) * (48271 : Int64)) - (((w3 * (48271 : Int64)) - (w3 * (48271 : Int64)) / (2147483647 : Int64) * (2147483647 : Int64)) * (48271 : Int64)) / (2147483647 : Int64) * (2147483647 : Int64)) v5 (0 : Int32) (gs 50 32 σ) t82
        · refine J_iconst (v := (1 : Int32)) Y dX5_lotEvening_88 (by decide) ?_
          refine J_goto (tgt := 93) Y dX5_lotEvening_89 (by decide) ?_
          refine J_sub [3, 4, 1, 5] rfl ?_
          exact j_X5_lotEvening_L93 X (fun v2 w3 v5 σ => ih v2 w3 v5 σ) v2 ((((w3 * (48271 : Int64)) - (w3 * (48271 : Int64)) / (2147483647 : Int64) * (2147483647 : Int64)) * (48271 : Int64)) - (((w3 * (48271 : Int64)) - (w3 * (48271 : Int64)) / (2147483647 : Int64) * (2147483647 : Int64)) * (48271 : Int64)) / (2147483647 : Int64) * (2147483647 : Int64)) v5 (1 : Int32) (gs 50 32 σ) t82
set_option maxRecDepth 100000 in
set_option maxHeartbeats 4000000 in
theorem j_X5_lotEvening {E : JE} {G : JG} (X : JM E 8 cX5_lotEvening RX5 (some .int) 6 240 G) (v1 : Int32) (v2 : Int32) (σ : ST) : Jg E 8 (JF E vI) [(0, .ref (gO G 50)), (1, .int v1), (2, .int v2)] 0 [] σ (f_X5_lotEvening v1 v2 σ) := by
  have Y := X.1
  unfold f_X5_lotEvening
  refine J_iload_n Y 1 dX5_lotEvening_0 rfl rfl ?_
  refine J_i2l Y dX5_lotEvening_1 ?_
  refine J_lconst (v := (1 : Int64)) Y dX5_lotEvening_2 (by decide) ?_
  refine J_ladd Y dX5_lotEvening_3 ?_
  refine J_lstore_n [(3, .long ((v1.toInt64) + (1 : Int64))), (0, .ref (gO G 50)), (1, .int v1), (2, .int v2)] Y dX5_lotEvening_4 rfl (by decide) rfl ?_
  refine J_aload_n Y 1 dX5_lotEvening_5 rfl rfl ?_
  refine J_iconst (v := (0 : Int32)) Y dX5_lotEvening_6 (by decide) ?_
  refine M_put 32 (ty := .int) X (by decide) wfl_RX5_259 rfl rfl rfl (by decide +kernel) rfl (mF_32 G _ _) dX5_lotEvening_7 (fun t7 => ?_)
  refine J_aload_n Y 1 dX5_lotEvening_10 rfl rfl ?_
  refine M_cVv (As := []) (st := []) rfl X (c_X5_keeps G _) wi_X5_keeps win_X5_keeps wse_X5_keeps wml_RX5_214 ⟨Nat.le_of_ble_eq_true rfl, Nat.le_of_ble_eq_true rfl⟩ rfl (Nat.le_of_ble_eq_true rfl) dX5_lotEvening_11 (fun t11 => ?_)
  refine J_iconst (v := (0 : Int32)) Y dX5_lotEvening_14 (by decide) ?_
  refine J_istore [(5, .int (0 : Int32)), (3, .long ((v1.toInt64) + (1 : Int64))), (0, .ref (gO G 50)), (1, .int v1), (2, .int v2)] Y dX5_lotEvening_15 (by decide) rfl ?_
  refine J_sub [2, 4, 1, 0] rfl ?_
  exact j_X5_lotEvening_L17 X 1000 v2 ((v1.toInt64) + (1 : Int64)) (0 : Int32) t11
theorem c_X5_lotEvening (G : JG) (v1 : Int32) (v2 : Int32) (σ : ST) : Con (VM G) vI G.1 yX5_lotEvening cX5_lotEvening 8 (some .int) 6 240 [.ref (gO G 50), .int v1, .int v2] σ (f_X5_lotEvening v1 v2 σ) :=
  Con_of (VM_ok G) (by decide +kernel) (Nat.le_of_ble_eq_true rfl) (fun E e1 e2 _ X => j_X5_lotEvening ⟨X, e1, e2⟩ v1 v2 σ)
set_option maxRecDepth 100000 in
set_option maxHeartbeats 4000000 in
theorem j_X5_drawn_L30 {E : JE} {G : JG} (X : JM E 5 cX5_drawn RX5 (some .int) 7 280 G) (σ : ST) : Jg E 5 (JF E vI) [] 30 [] σ (f_X5_drawn_L30 σ) := by
  have Y := X.1
  unfold f_X5_drawn_L30
  refine J_bipush (v := (-2 : Int32)) Y dX5_drawn_30 (by decide) ?_
  exact J_ireturn Y dX5_drawn_32
set_option maxRecDepth 100000 in
set_option maxHeartbeats 4000000 in
theorem j_X5_drawn_L54 {E : JE} {G : JG} (X : JM E 5 cX5_drawn RX5 (some .int) 7 280 G) (s0 : Int32) (σ : ST) : Jg E 5 (JF E vI) [] 54 [.int s0] σ (f_X5_drawn_L54 s0 σ) := by
  have Y := X.1
  unfold f_X5_drawn_L54
  exact J_ireturn Y dX5_drawn_54
set_option maxRecDepth 100000 in
set_option maxHeartbeats 4000000 in
theorem j_X5_drawn {E : JE} {G : JG} (X : JM E 5 cX5_drawn RX5 (some .int) 7 280 G) (v1 : Int32) (v2 : Int32) (v3 : Int32) (σ : ST) : Jg E 5 (JF E vI) [(0, .ref (gO G 50)), (1, .int v1), (2, .int v2), (3, .int v3)] 0 [] σ (f_X5_drawn v1 v2 v3 σ) := by
  have Y := X.1
  unfold f_X5_drawn
  refine J_iload_n Y 1 dX5_drawn_0 rfl rfl ?_
  refine J_iconst (v := (0 : Int32)) Y dX5_drawn_1 (by decide) ?_
  refine J_ldcw (v := (99999 : Int32)) Y wcn_RX5_270 dX5_drawn_2 ?_
  refine M_cSi (As := [.int v1, .int (0 : Int32), .int (99999 : Int32)]) (st := []) rfl X (c_X5_in G v1 (0 : Int32) (99999 : Int32) _) wi_X5_in wst_X5_in wml_RX5_78 ⟨Nat.le_of_ble_eq_true rfl, Nat.le_of_ble_eq_true rfl⟩ rfl (Nat.le_of_ble_eq_true rfl) dX5_drawn_5 (fun y5 t5 => ?_)
  refine J_if_eq (tgt := 30) Y dX5_drawn_8 (by decide) ?_ ?_
  · refine J_sub [] rfl ?_
    exact j_X5_drawn_L30 X  t5
  · refine J_iload_n Y 2 dX5_drawn_11 rfl rfl ?_
    refine J_iconst (v := (0 : Int32)) Y dX5_drawn_12 (by decide) ?_
    refine J_bipush (v := (60 : Int32)) Y dX5_drawn_13 (by decide) ?_
    refine M_cSi (As := [.int v2, .int (0 : Int32), .int (60 : Int32)]) (st := []) rfl X (c_X5_in G v2 (0 : Int32) (60 : Int32) _) wi_X5_in wst_X5_in wml_RX5_78 ⟨Nat.le_of_ble_eq_true rfl, Nat.le_of_ble_eq_true rfl⟩ rfl (Nat.le_of_ble_eq_true rfl) dX5_drawn_15 (fun y15 t15 => ?_)
    refine J_if_eq (tgt := 30) Y dX5_drawn_18 (by decide) ?_ ?_
    · refine J_sub [] rfl ?_
      exact j_X5_drawn_L30 X  t15
    · refine J_iload_n Y 3 dX5_drawn_21 rfl rfl ?_
      refine J_iconst (v := (0 : Int32)) Y dX5_drawn_22 (by decide) ?_
      refine J_iconst (v := (1 : Int32)) Y dX5_drawn_23 (by decide) ?_
      refine M_cSi (As := [.int v3, .int (0 : Int32), .int (1 : Int32)]) (st := []) rfl X (c_X5_in G v3 (0 : Int32) (1 : Int32) _) wi_X5_in wst_X5_in wml_RX5_78 ⟨Nat.le_of_ble_eq_true rfl, Nat.le_of_ble_eq_true rfl⟩ rfl (Nat.le_of_ble_eq_true rfl) dX5_drawn_24 (fun y24 t24 => ?_)
      refine J_if_ne (tgt := 33) Y dX5_drawn_27 (by decide) ?_ ?_
      · refine J_aload_n Y 0 dX5_drawn_33 rfl rfl ?_
        refine J_iload_n Y 1 dX5_drawn_34 rfl rfl ?_
        refine J_iload_n Y 2 dX5_drawn_35 rfl rfl ?_
        refine M_cVi (As := [.int v1, .int v2]) (st := []) rfl X (c_X5_lotEvening G v1 v2 _) wi_X5_lotEvening win_X5_lotEvening wse_X5_lotEvening wml_RX5_271 ⟨Nat.le_of_ble_eq_true rfl, Nat.le_of_ble_eq_true rfl⟩ rfl (Nat.le_of_ble_eq_true rfl) dX5_drawn_36 (fun y36 t36 => ?_)
        refine J_istore [(4, .int y36), (0, .ref (gO G 50)), (1, .int v1), (2, .int v2), (3, .int v3)] Y dX5_drawn_39 (by decide) rfl ?_
        refine J_iload_n Y 4 dX5_drawn_41 rfl rfl ?_
        refine J_if_ne (tgt := 50) Y dX5_drawn_42 (by decide) ?_ ?_
        · refine J_aload_n Y 1 dX5_drawn_50 rfl rfl ?_
          refine M_get 32 X (by decide) rfl wfl_RX5_259 rfl dX5_drawn_51 ?_
          refine J_sub [] rfl ?_
          exact j_X5_drawn_L54 X (gs 50 32 t36) t36
        · refine J_iload Y 0 dX5_drawn_45 rfl ?_
          refine J_goto (tgt := 54) Y dX5_drawn_47 (by decide) ?_
          refine J_sub [] rfl ?_
          exact j_X5_drawn_L54 X y36 t36
      · refine J_sub [] rfl ?_
        exact j_X5_drawn_L30 X  t24
theorem c_X5_drawn (G : JG) (v1 : Int32) (v2 : Int32) (v3 : Int32) (σ : ST) : Con (VM G) vI G.1 yX5_drawn cX5_drawn 5 (some .int) 7 280 [.ref (gO G 50), .int v1, .int v2, .int v3] σ (f_X5_drawn v1 v2 v3 σ) :=
  Con_of (VM_ok G) (by decide +kernel) (Nat.le_of_ble_eq_true rfl) (fun E e1 e2 _ X => j_X5_drawn ⟨X, e1, e2⟩ v1 v2 v3 σ)
set_option maxRecDepth 100000 in
set_option maxHeartbeats 4000000 in
theorem j_X5_odds_L42 {E : JE} {G : JG} (X : JM E 8 cX5_odds RX5 (some .long) 7 280 G) (σ : ST) : Jg E 8 (JF E vL) [] 42 [] σ (f_X5_odds_L42 σ) := by
  have Y := X.1
  unfold f_X5_odds_L42
  refine J_ldc2 (v := (-4611686018427387904 : Int64)) Y wcl_RX5_248 dX5_odds_42 ?_
  exact J_lreturn Y dX5_odds_45
set_option maxRecDepth 100000 in
set_option maxHeartbeats 4000000 in
theorem j_X5_odds_L79 {E : JE} {G : JG} (X : JM E 8 cX5_odds RX5 (some .long) 7 280 G) {k52 : Int32 → Int32 → Int32 → Int32 → Int64 → Int32 → ST → Option (Int64 × ST)} (hk52 : ∀ (v1 : Int32) (v2 : Int32) (v3 : Int32) (v4 : Int32) (w5 : Int64) (v7 : Int32) (σ : ST), Jg E 8 (JF E vL) [(0, .ref (gO G 50)), (1, .int v1), (2, .int v2), (3, .int v3), (4, .int v4), (5, .long w5), (7, .int v7)] 52 [] σ (k52 v1 v2 v3 v4 w5 v7 σ)) (v1 : Int32) (v2 : Int32) (v3 : Int32) (v4 : Int32) (v7 : Int32) (z0 : Int64) (z1 : Int64) (σ : ST) : Jg E 8 (JF E vL) [(0, .ref (gO G 50)), (1, .int v1), (2, .int v2), (3, .int v3), (4, .int v4), (7, .int v7)] 79 [.long z0, .long z1] σ (f_X5_odds_L79 k52 v1 v2 v3 v4 v7 z0 z1 σ) := by
  have Y := X.1
  unfold f_X5_odds_L79
  refine J_ladd Y dX5_odds_79 ?_
  refine J_lstore [(5, .long (z1 + z0)), (0, .ref (gO G 50)), (1, .int v1), (2, .int v2), (3, .int v3), (4, .int v4), (7, .int v7)] Y dX5_odds_80 (by decide) rfl ?_
  refine J_iinc (v := v7 + (1 : Int32)) [(7, .int (v7 + (1 : Int32))), (5, .long (z1 + z0)), (0, .ref (gO G 50)), (1, .int v1), (2, .int v2), (3, .int v3), (4, .int v4)] Y 6 dX5_odds_82 rfl (congrArg (fun z => _ + z) (by decide)) (by decide) rfl ?_
  refine J_goto (tgt := 52) Y dX5_odds_85 (by decide) ?_
  refine J_sub [2, 3, 4, 5, 6, 1, 0] rfl ?_
  exact hk52 v1 v2 v3 v4 (z1 + z0) (v7 + (1 : Int32)) σ
set_option maxRecDepth 100000 in
set_option maxHeartbeats 4000000 in
theorem j_X5_odds_L88 {E : JE} {G : JG} (X : JM E 8 cX5_odds RX5 (some .long) 7 280 G) (v2 : Int32) (v4 : Int32) (w5 : Int64) (σ : ST) : Jg E 8 (JF E vL) [(2, .int v2), (4, .int v4), (5, .long w5)] 88 [] σ (f_X5_odds_L88 v2 v4 w5 σ) := by
  have Y := X.1
  unfold f_X5_odds_L88
  refine J_lload Y 2 dX5_odds_88 rfl ?_
  refine J_iload_n Y 0 dX5_odds_90 rfl rfl ?_
  refine J_i2l Y dX5_odds_91 ?_
  refine J_iload Y 1 dX5_odds_92 rfl ?_
  refine M_cSl (As := [.long w5, .long (v2.toInt64), .int v4]) (st := []) rfl X (c_X5_lowest G w5 (v2.toInt64) v4 _) wi_X5_lowest wst_X5_lowest wml_RX5_244 ⟨Nat.le_of_ble_eq_true rfl, Nat.le_of_ble_eq_true rfl⟩ rfl (Nat.le_of_ble_eq_true rfl) dX5_odds_94 (fun y94 t94 => ?_)
  exact J_lreturn Y dX5_odds_97
set_option maxRecDepth 100000 in
set_option maxHeartbeats 4000000 in
theorem j_X5_odds_L52 {E : JE} {G : JG} (X : JM E 8 cX5_odds RX5 (some .long) 7 280 G) : ∀ (n : Nat) (v1 : Int32) (v2 : Int32) (v3 : Int32) (v4 : Int32) (w5 : Int64) (v7 : Int32) (σ : ST), Jg E 8 (JF E vL) [(0, .ref (gO G 50)), (1, .int v1), (2, .int v2), (3, .int v3), (4, .int v4), (5, .long w5), (7, .int v7)] 52 [] σ (f_X5_odds_L52 n v1 v2 v3 v4 w5 v7 σ) := by
  have Y := X.1
  intro n
  induction n with
  | zero => intro v1 v2 v3 v4 w5 v7 σ; rw [f_X5_odds_L52]; exact J_none
  | succ n ih =>
    intro v1 v2 v3 v4 w5 v7 σ
    rw [f_X5_odds_L52]
    refine J_iload Y 6 dX5_odds_52 rfl ?_
    refine J_iload_n Y 2 dX5_odds_54 rfl rfl ?_
    refine J_icmp_ge (tgt := 88) Y dX5_odds_55 (by decide) ?_ ?_
    · refine J_sub [2, 4, 5] rfl ?_
      exact j_X5_odds_L88 X v2 v4 w5 σ
    · refine J_lload Y 5 dX5_odds_58 rfl ?_
      refine J_aload_n Y 0 dX5_odds_60 rfl rfl ?_
      refine J_iload_n Y 1 dX5_odds_61 rfl rfl ?_
      refine J_iload Y 6 dX5_odds_62 rfl ?_
      refine J_iadd Y dX5_odds_64 ?_
      refine J_bipush (v := (20 : Int32)) Y dX5_odds_65 (by decide) ?_
      refine M_cVi (As := [.int (v1 + v7), .int (20 : Int32)]) (st := [.long w5]) rfl X (c_X5_lotEvening G (v1 + v7) (20 : Int32) _) wi_X5_lotEvening win_X5_lotEvening wse_X5_lotEvening wml_RX5_271 ⟨Nat.le_of_ble_eq_true rfl, Nat.le_of_ble_eq_true rfl⟩ rfl (Nat.le_of_ble_eq_true rfl) dX5_odds_67 (fun y67 t67 => ?_)
      refine J_iload_n Y 3 dX5_odds_70 rfl rfl ?_
      refine J_icmp_lt (tgt := 78) Y dX5_odds_71 (by decide) ?_ ?_
      · refine J_lconst (v := (0 : Int64)) Y dX5_odds_78 (by decide) ?_
        refine J_sub [0, 1, 2, 3, 4, 6] rfl ?_
        exact j_X5_odds_L79 X (fun v1 v2 v3 v4 w5 v7 σ => ih v1 v2 v3 v4 w5 v7 σ) v1 v2 v3 v4 v7 (0 : Int64) w5 t67
      · refine J_lconst (v := (1 : Int64)) Y dX5_odds_74 (by decide) ?_
        refine J_goto (tgt := 79) Y dX5_odds_75 (by decide) ?_
        refine J_sub [0, 1, 2, 3, 4, 6] rfl ?_
        exact j_X5_odds_L79 X (fun v1 v2 v3 v4 w5 v7 σ => ih v1 v2 v3 v4 w5 v7 σ) v1 v2 v3 v4 v7 (1 : Int64) w5 t67
set_option maxRecDepth 100000 in
set_option maxHeartbeats 4000000 in
theorem j_X5_odds {E : JE} {G : JG} (X : JM E 8 cX5_odds RX5 (some .long) 7 280 G) (v1 : Int32) (v2 : Int32) (v3 : Int32) (v4 : Int32) (σ : ST) : Jg E 8 (JF E vL) [(0, .ref (gO G 50)), (1, .int v1), (2, .int v2), (3, .int v3), (4, .int v4)] 0 [] σ (f_X5_odds v1 v2 v3 v4 σ) := by
  have Y := X.1
  unfold f_X5_odds
  refine J_iload_n Y 1 dX5_odds_0 rfl rfl ?_
  refine J_iconst (v := (0 : Int32)) Y dX5_odds_1 (by decide) ?_
  refine J_ldcw (v := (99999 : Int32)) Y wcn_RX5_270 dX5_odds_2 ?_
  refine M_cSi (As := [.int v1, .int (0 : Int32), .int (99999 : Int32)]) (st := []) rfl X (c_X5_in G v1 (0 : Int32) (99999 : Int32) _) wi_X5_in wst_X5_in wml_RX5_78 ⟨Nat.le_of_ble_eq_true rfl, Nat.le_of_ble_eq_true rfl⟩ rfl (Nat.le_of_ble_eq_true rfl) dX5_odds_5 (fun y5 t5 => ?_)
  refine J_if_eq (tgt := 42) Y dX5_odds_8 (by decide) ?_ ?_
  · refine J_sub [] rfl ?_
    exact j_X5_odds_L42 X  t5
  · refine J_iload_n Y 2 dX5_odds_11 rfl rfl ?_
    refine J_iconst (v := (1 : Int32)) Y dX5_odds_12 (by decide) ?_
    refine J_bipush (v := (40 : Int32)) Y dX5_odds_13 (by decide) ?_
    refine M_cSi (As := [.int v2, .int (1 : Int32), .int (40 : Int32)]) (st := []) rfl X (c_X5_in G v2 (1 : Int32) (40 : Int32) _) wi_X5_in wst_X5_in wml_RX5_78 ⟨Nat.le_of_ble_eq_true rfl, Nat.le_of_ble_eq_true rfl⟩ rfl (Nat.le_of_ble_eq_true rfl) dX5_odds_15 (fun y15 t15 => ?_)
    refine J_if_eq (tgt := 42) Y dX5_odds_18 (by decide) ?_ ?_
    · refine J_sub [] rfl ?_
      exact j_X5_odds_L42 X  t15
    · refine J_iload_n Y 3 dX5_odds_21 rfl rfl ?_
      refine J_iconst (v := (0 : Int32)) Y dX5_odds_22 (by decide) ?_
      refine J_sipush (v := (999 : Int32)) Y dX5_odds_23 (by decide) ?_
      refine M_cSi (As := [.int v3, .int (0 : Int32), .int (999 : Int32)]) (st := []) rfl X (c_X5_in G v3 (0 : Int32) (999 : Int32) _) wi_X5_in wst_X5_in wml_RX5_78 ⟨Nat.le_of_ble_eq_true rfl, Nat.le_of_ble_eq_true rfl⟩ rfl (Nat.le_of_ble_eq_true rfl) dX5_odds_26 (fun y26 t26 => ?_)
      refine J_if_eq (tgt := 42) Y dX5_odds_29 (by decide) ?_ ?_
      · refine J_sub [] rfl ?_
        exact j_X5_odds_L42 X  t26
      · refine J_iload Y 4 dX5_odds_32 rfl ?_
        refine J_iconst (v := (0 : Int32)) Y dX5_odds_34 (by decide) ?_
        refine J_iconst (v := (1 : Int32)) Y dX5_odds_35 (by decide) ?_
        refine M_cSi (As := [.int v4, .int (0 : Int32), .int (1 : Int32)]) (st := []) rfl X (c_X5_in G v4 (0 : Int32) (1 : Int32) _) wi_X5_in wst_X5_in wml_RX5_78 ⟨Nat.le_of_ble_eq_true rfl, Nat.le_of_ble_eq_true rfl⟩ rfl (Nat.le_of_ble_eq_true rfl) dX5_odds_36 (fun y36 t36 => ?_)
        refine J_if_ne (tgt := 46) Y dX5_odds_39 (by decide) ?_ ?_
        · refine J_lconst (v := (0 : Int64)) Y dX5_odds_46 (by decide) ?_
          refine J_lstore [(5, .long (0 : Int64)), (0, .ref (gO G 50)), (1, .int v1), (2, .int v2), (3, .int v3), (4, .int v4)] Y dX5_odds_47 (by decide) rfl ?_
          refine J_iconst (v := (0 : Int32)) Y dX5_odds_49 (by decide) ?_
          refine J_istore [(7, .int (0 : Int32)), (5, .long (0 : Int64)), (0, .ref (gO G 50)), (1, .int v1), (2, .int v2), (3, .int v3), (4, .int v4)] Y dX5_odds_50 (by decide) rfl ?_
          refine J_sub [2, 3, 4, 5, 6, 1, 0] rfl ?_
          exact j_X5_odds_L52 X 1000 v1 v2 v3 v4 (0 : Int64) (0 : Int32) t36
        · refine J_sub [] rfl ?_
          exact j_X5_odds_L42 X  t36
theorem c_X5_odds (G : JG) (v1 : Int32) (v2 : Int32) (v3 : Int32) (v4 : Int32) (σ : ST) : Con (VM G) vL G.1 yX5_odds cX5_odds 8 (some .long) 7 280 [.ref (gO G 50), .int v1, .int v2, .int v3, .int v4] σ (f_X5_odds v1 v2 v3 v4 σ) :=
  Con_of (VM_ok G) (by decide +kernel) (Nat.le_of_ble_eq_true rfl) (fun E e1 e2 _ X => j_X5_odds ⟨X, e1, e2⟩ v1 v2 v3 v4 σ)
set_option maxRecDepth 100000 in
set_option maxHeartbeats 4000000 in
theorem j_X5_image_L31 {E : JE} {G : JG} (X : JM E 2 cX5_image RX5 (some .int) 0 0 G) (σ : ST) : Jg E 2 (JF E vI) [(0, .ref (gO G 50))] 31 [] σ (f_X5_image_L31 σ) := by
  have Y := X.1
  unfold f_X5_image_L31
  refine J_aload_n Y 0 dX5_image_31 rfl rfl ?_
  refine M_get 13 X (by decide) rfl wfl_RX5_31 rfl dX5_image_32 ?_
  refine J_iconst (v := (0 : Int32)) Y dX5_image_35 (by decide) ?_
  refine J_aload_n Y 0 dX5_image_36 rfl rfl ?_
  refine M_get 0 X (by decide) rfl wfl_RX5_75 rfl dX5_image_37 ?_
  refine M_ast X (mA_13 G _) (mS_13 G _) dX5_image_40 (fun t40 => ?_)
  refine J_aload_n Y 0 dX5_image_41 rfl rfl ?_
  refine M_get 13 X (by decide) rfl wfl_RX5_31 rfl dX5_image_42 ?_
  refine J_iconst (v := (1 : Int32)) Y dX5_image_45 (by decide) ?_
  refine J_aload_n Y 0 dX5_image_46 rfl rfl ?_
  refine M_get 4 X (by decide) rfl wfl_RX5_86 rfl dX5_image_47 ?_
  refine M_ast X (mA_13 G _) (mS_13 G _) dX5_image_50 (fun t50 => ?_)
  refine J_aload_n Y 0 dX5_image_51 rfl rfl ?_
  refine M_get 13 X (by decide) rfl wfl_RX5_31 rfl dX5_image_52 ?_
  refine J_iconst (v := (2 : Int32)) Y dX5_image_55 (by decide) ?_
  refine J_aload_n Y 0 dX5_image_56 rfl rfl ?_
  refine M_get 10 X (by decide) rfl wfl_RX5_99 rfl dX5_image_57 ?_
  refine M_ast X (mA_13 G _) (mS_13 G _) dX5_image_60 (fun t60 => ?_)
  refine J_aload_n Y 0 dX5_image_61 rfl rfl ?_
  refine M_get 0 X (by decide) rfl wfl_RX5_75 rfl dX5_image_62 ?_
  exact J_ireturn Y dX5_image_65
set_option maxRecDepth 100000 in
set_option maxHeartbeats 4000000 in
theorem j_X5_image_L7 {E : JE} {G : JG} (X : JM E 2 cX5_image RX5 (some .int) 0 0 G) : ∀ (n : Nat) (v1 : Int32) (σ : ST), Jg E 2 (JF E vI) [(0, .ref (gO G 50)), (1, .int v1)] 7 [] σ (f_X5_image_L7 n v1 σ) := by
  have Y := X.1
  intro n
  induction n with
  | zero => intro v1 σ; rw [f_X5_image_L7]; exact J_none
  | succ n ih =>
    intro v1 σ
    rw [f_X5_image_L7]
    refine J_iload_n Y 1 dX5_image_7 rfl rfl ?_
    refine J_bipush (v := (72 : Int32)) Y dX5_image_8 (by decide) ?_
    refine J_icmp_ge (tgt := 31) Y dX5_image_10 (by decide) ?_ ?_
    · refine J_sub [0] rfl ?_
      exact j_X5_image_L31 X  σ
    · refine J_aload_n Y 0 dX5_image_13 rfl rfl ?_
      refine M_get 12 X (by decide) rfl wfl_RX5_28 rfl dX5_image_14 ?_
      refine J_iload_n Y 1 dX5_image_17 rfl rfl ?_
      refine J_aload_n Y 0 dX5_image_18 rfl rfl ?_
      refine M_get 3 X (by decide) rfl wfl_RX5_16 rfl dX5_image_19 ?_
      refine J_iload_n Y 1 dX5_image_22 rfl rfl ?_
      refine M_ald X (mA_3 G _) dX5_image_23 (fun x23 => ?_)
      refine M_ast X (mA_12 G _) (mS_12 G _) dX5_image_24 (fun t24 => ?_)
      refine J_iinc (v := v1 + (1 : Int32)) [(1, .int (v1 + (1 : Int32))), (0, .ref (gO G 50))] Y 1 dX5_image_25 rfl (congrArg (fun z => _ + z) (by decide)) (by decide) rfl ?_
      refine J_goto (tgt := 7) Y dX5_image_28 (by decide) ?_
      refine J_sub [1, 0] rfl ?_
      exact ih (v1 + (1 : Int32)) t24
set_option maxRecDepth 100000 in
set_option maxHeartbeats 4000000 in
theorem j_X5_image {E : JE} {G : JG} (X : JM E 2 cX5_image RX5 (some .int) 0 0 G) (σ : ST) : Jg E 2 (JF E vI) [(0, .ref (gO G 50))] 0 [] σ (f_X5_image σ) := by
  have Y := X.1
  unfold f_X5_image
  refine J_aload_n Y 0 dX5_image_0 rfl rfl ?_
  refine J_iconst (v := (1 : Int32)) Y dX5_image_1 (by decide) ?_
  refine M_put 11 (ty := .boolean) X (by decide) wfl_RX5_274 rfl rfl (by decide +kernel) (by decide +kernel) (by decide +kernel) (mF_11 G _ _) dX5_image_2 (fun t2 => ?_)
  refine J_iconst (v := (0 : Int32)) Y dX5_image_5 (by decide) ?_
  refine J_istore_n [(1, .int (0 : Int32)), (0, .ref (gO G 50))] Y dX5_image_6 rfl (by decide) rfl ?_
  refine J_sub [1, 0] rfl ?_
  exact j_X5_image_L7 X 1000 (0 : Int32) t2
theorem c_X5_image (G : JG) (σ : ST) : Con (VM G) vI G.1 yX5_image cX5_image 2 (some .int) 0 0 [.ref (gO G 50)] σ (f_X5_image σ) :=
  Con_of (VM_ok G) (by decide +kernel) (Nat.le_of_ble_eq_true rfl) (fun E e1 e2 _ X => j_X5_image ⟨X, e1, e2⟩ σ)
set_option maxRecDepth 100000 in
set_option maxHeartbeats 4000000 in
theorem j_X5_back_L36 {E : JE} {G : JG} (X : JM E 2 cX5_back RX5 (some .int) 0 0 G) (σ : ST) : Jg E 2 (JF E vI) [(0, .ref (gO G 50))] 36 [] σ (f_X5_back_L36 σ) := by
  have Y := X.1
  unfold f_X5_back_L36
  refine J_aload_n Y 0 dX5_back_36 rfl rfl ?_
  refine J_aload_n Y 0 dX5_back_37 rfl rfl ?_
  refine M_get 13 X (by decide) rfl wfl_RX5_31 rfl dX5_back_38 ?_
  refine J_iconst (v := (0 : Int32)) Y dX5_back_41 (by decide) ?_
  refine M_ald X (mA_13 G _) dX5_back_42 (fun x42 => ?_)
  refine M_put 0 (ty := .int) X (by decide) wfl_RX5_75 rfl rfl rfl (by decide +kernel) rfl (mF_0 G _ _) dX5_back_43 (fun t43 => ?_)
  refine J_aload_n Y 0 dX5_back_46 rfl rfl ?_
  refine J_aload_n Y 0 dX5_back_47 rfl rfl ?_
  refine M_get 13 X (by decide) rfl wfl_RX5_31 rfl dX5_back_48 ?_
  refine J_iconst (v := (1 : Int32)) Y dX5_back_51 (by decide) ?_
  refine M_ald X (mA_13 G _) dX5_back_52 (fun x52 => ?_)
  refine M_put 4 (ty := .int) X (by decide) wfl_RX5_86 rfl rfl rfl (by decide +kernel) rfl (mF_4 G _ _) dX5_back_53 (fun t53 => ?_)
  refine J_aload_n Y 0 dX5_back_56 rfl rfl ?_
  refine J_aload_n Y 0 dX5_back_57 rfl rfl ?_
  refine M_get 13 X (by decide) rfl wfl_RX5_31 rfl dX5_back_58 ?_
  refine J_iconst (v := (2 : Int32)) Y dX5_back_61 (by decide) ?_
  refine M_ald X (mA_13 G _) dX5_back_62 (fun x62 => ?_)
  refine M_put 10 (ty := .int) X (by decide) wfl_RX5_99 rfl rfl rfl (by decide +kernel) rfl (mF_10 G _ _) dX5_back_63 (fun t63 => ?_)
  refine J_aload_n Y 0 dX5_back_66 rfl rfl ?_
  refine M_get 0 X (by decide) rfl wfl_RX5_75 rfl dX5_back_67 ?_
  exact J_ireturn Y dX5_back_70
set_option maxRecDepth 100000 in
set_option maxHeartbeats 4000000 in
theorem j_X5_back_L12 {E : JE} {G : JG} (X : JM E 2 cX5_back RX5 (some .int) 0 0 G) : ∀ (n : Nat) (v1 : Int32) (σ : ST), Jg E 2 (JF E vI) [(0, .ref (gO G 50)), (1, .int v1)] 12 [] σ (f_X5_back_L12 n v1 σ) := by
  have Y := X.1
  intro n
  induction n with
  | zero => intro v1 σ; rw [f_X5_back_L12]; exact J_none
  | succ n ih =>
    intro v1 σ
    rw [f_X5_back_L12]
    refine J_iload_n Y 1 dX5_back_12 rfl rfl ?_
    refine J_bipush (v := (72 : Int32)) Y dX5_back_13 (by decide) ?_
    refine J_icmp_ge (tgt := 36) Y dX5_back_15 (by decide) ?_ ?_
    · refine J_sub [0] rfl ?_
      exact j_X5_back_L36 X  σ
    · refine J_aload_n Y 0 dX5_back_18 rfl rfl ?_
      refine M_get 3 X (by decide) rfl wfl_RX5_16 rfl dX5_back_19 ?_
      refine J_iload_n Y 1 dX5_back_22 rfl rfl ?_
      refine J_aload_n Y 0 dX5_back_23 rfl rfl ?_
      refine M_get 12 X (by decide) rfl wfl_RX5_28 rfl dX5_back_24 ?_
      refine J_iload_n Y 1 dX5_back_27 rfl rfl ?_
      refine M_ald X (mA_12 G _) dX5_back_28 (fun x28 => ?_)
      refine M_ast X (mA_3 G _) (mS_3 G _) dX5_back_29 (fun t29 => ?_)
      refine J_iinc (v := v1 + (1 : Int32)) [(1, .int (v1 + (1 : Int32))), (0, .ref (gO G 50))] Y 1 dX5_back_30 rfl (congrArg (fun z => _ + z) (by decide)) (by decide) rfl ?_
      refine J_goto (tgt := 12) Y dX5_back_33 (by decide) ?_
      refine J_sub [1, 0] rfl ?_
      exact ih (v1 + (1 : Int32)) t29
set_option maxRecDepth 100000 in
set_option maxHeartbeats 4000000 in
theorem j_X5_back {E : JE} {G : JG} (X : JM E 2 cX5_back RX5 (some .int) 0 0 G) (σ : ST) : Jg E 2 (JF E vI) [(0, .ref (gO G 50))] 0 [] σ (f_X5_back σ) := by
  have Y := X.1
  unfold f_X5_back
  refine J_aload_n Y 0 dX5_back_0 rfl rfl ?_
  refine M_get 11 X (by decide) rfl wfl_RX5_274 rfl dX5_back_1 ?_
  refine J_if_ne (tgt := 10) Y dX5_back_4 (by decide) ?_ ?_
  · refine J_iconst (v := (0 : Int32)) Y dX5_back_10 (by decide) ?_
    refine J_istore_n [(1, .int (0 : Int32)), (0, .ref (gO G 50))] Y dX5_back_11 rfl (by decide) rfl ?_
    refine J_sub [1, 0] rfl ?_
    exact j_X5_back_L12 X 1000 (0 : Int32) σ
  · refine J_bipush (v := (-3 : Int32)) Y dX5_back_7 (by decide) ?_
    exact J_ireturn Y dX5_back_9
theorem c_X5_back (G : JG) (σ : ST) : Con (VM G) vI G.1 yX5_back cX5_back 2 (some .int) 0 0 [.ref (gO G 50)] σ (f_X5_back σ) :=
  Con_of (VM_ok G) (by decide +kernel) (Nat.le_of_ble_eq_true rfl) (fun E e1 e2 _ X => j_X5_back ⟨X, e1, e2⟩ σ)
set_option maxRecDepth 100000 in
set_option maxHeartbeats 4000000 in
theorem j_X5_sheet_L29 {E : JE} {G : JG} (X : JM E 5 cX5_sheet RX5 (some .int) 1 40 G) (σ : ST) : Jg E 5 (JF E vI) [] 29 [] σ (f_X5_sheet_L29 σ) := by
  have Y := X.1
  unfold f_X5_sheet_L29
  refine J_bipush (v := (-2 : Int32)) Y dX5_sheet_29 (by decide) ?_
  exact J_ireturn Y dX5_sheet_31
set_option maxRecDepth 100000 in
set_option maxHeartbeats 4000000 in
theorem j_X5_sheet_L70 {E : JE} {G : JG} (X : JM E 5 cX5_sheet RX5 (some .int) 1 40 G) : ∀ (n : Nat) (v1 : Int32) (v4 : Int32) (σ : ST), Jg E 5 (JF E vI) [(0, .ref (gO G 50)), (1, .int v1), (4, .int v4)] 70 [] σ (f_X5_sheet_L70 n v1 v4 σ) := by
  have Y := X.1
  intro n
  induction n with
  | zero => intro v1 v4 σ; rw [f_X5_sheet_L70]; exact J_none
  | succ n ih =>
    intro v1 v4 σ
    rw [f_X5_sheet_L70]
    refine J_iload Y 2 dX5_sheet_70 rfl ?_
    refine J_bipush (v := (40 : Int32)) Y dX5_sheet_72 (by decide) ?_
    refine J_icmp_ge (tgt := 96) Y dX5_sheet_74 (by decide) ?_ ?_
    · refine J_iconst (v := (1 : Int32)) Y dX5_sheet_96 (by decide) ?_
      exact J_ireturn Y dX5_sheet_97
    · refine J_aload_n Y 0 dX5_sheet_77 rfl rfl ?_
      refine M_get 16 X (by decide) rfl wfl_RX5_40 rfl dX5_sheet_78 ?_
      refine J_bipush (v := (40 : Int32)) Y dX5_sheet_81 (by decide) ?_
      refine J_iload_n Y 1 dX5_sheet_83 rfl rfl ?_
      refine J_imul Y dX5_sheet_84 ?_
      refine J_iload Y 2 dX5_sheet_85 rfl ?_
      refine J_iadd Y dX5_sheet_87 ?_
      refine J_iconst (v := (0 : Int32)) Y dX5_sheet_88 (by decide) ?_
      refine M_ast X (mA_16 G _) (mS_16 G _) dX5_sheet_89 (fun t89 => ?_)
      refine J_iinc (v := v4 + (1 : Int32)) [(4, .int (v4 + (1 : Int32))), (0, .ref (gO G 50)), (1, .int v1)] Y 2 dX5_sheet_90 rfl (congrArg (fun z => _ + z) (by decide)) (by decide) rfl ?_
      refine J_goto (tgt := 70) Y dX5_sheet_93 (by decide) ?_
      refine J_sub [1, 2, 0] rfl ?_
      exact ih v1 (v4 + (1 : Int32)) t89
set_option maxRecDepth 100000 in
set_option maxHeartbeats 4000000 in
theorem j_X5_sheet_L66 {E : JE} {G : JG} (X : JM E 5 cX5_sheet RX5 (some .int) 1 40 G) (v1 : Int32) (s0 : Int32) (s1 : Int32) (σ : ST) : Jg E 5 (JF E vI) [(0, .ref (gO G 50)), (1, .int v1)] 66 [.int s0, .int s1, .ref (gA G 50 15)] σ (f_X5_sheet_L66 v1 s0 s1 σ) := by
  have Y := X.1
  unfold f_X5_sheet_L66
  refine M_ast X (mA_15 G _) (mS_15 G _) dX5_sheet_66 (fun t66 => ?_)
  refine J_iconst (v := (0 : Int32)) Y dX5_sheet_67 (by decide) ?_
  refine J_istore [(4, .int (0 : Int32)), (0, .ref (gO G 50)), (1, .int v1)] Y dX5_sheet_68 (by decide) rfl ?_
  refine J_sub [1, 2, 0] rfl ?_
  exact j_X5_sheet_L70 X 1000 v1 (0 : Int32) t66
set_option maxRecDepth 100000 in
set_option maxHeartbeats 4000000 in
theorem j_X5_sheet_L44 {E : JE} {G : JG} (X : JM E 5 cX5_sheet RX5 (some .int) 1 40 G) (v1 : Int32) (v2 : Int32) (v3 : Int32) (σ : ST) : Jg E 5 (JF E vI) [(0, .ref (gO G 50)), (1, .int v1), (2, .int v2), (3, .int v3)] 44 [] σ (f_X5_sheet_L44 v1 v2 v3 σ) := by
  have Y := X.1
  unfold f_X5_sheet_L44
  refine J_aload_n Y 0 dX5_sheet_44 rfl rfl ?_
  refine M_get 14 X (by decide) rfl wfl_RX5_34 rfl dX5_sheet_45 ?_
  refine J_iload_n Y 1 dX5_sheet_48 rfl rfl ?_
  refine J_iload_n Y 2 dX5_sheet_49 rfl rfl ?_
  refine M_ast X (mA_14 G _) (mS_14 G _) dX5_sheet_50 (fun t50 => ?_)
  refine J_aload_n Y 0 dX5_sheet_51 rfl rfl ?_
  refine M_get 15 X (by decide) rfl wfl_RX5_37 rfl dX5_sheet_52 ?_
  refine J_iload_n Y 1 dX5_sheet_55 rfl rfl ?_
  refine J_iload_n Y 2 dX5_sheet_56 rfl rfl ?_
  refine J_iconst (v := (-1 : Int32)) Y dX5_sheet_57 (by decide) ?_
  refine J_icmp_ne (tgt := 65) Y dX5_sheet_58 (by decide) ?_ ?_
  · refine J_iload_n Y 3 dX5_sheet_65 rfl rfl ?_
    refine J_sub [0, 1] rfl ?_
    exact j_X5_sheet_L66 X v1 v3 v1 t50
  · refine J_iconst (v := (0 : Int32)) Y dX5_sheet_61 (by decide) ?_
    refine J_goto (tgt := 66) Y dX5_sheet_62 (by decide) ?_
    refine J_sub [0, 1] rfl ?_
    exact j_X5_sheet_L66 X v1 (0 : Int32) v1 t50
set_option maxRecDepth 100000 in
set_option maxHeartbeats 4000000 in
theorem j_X5_sheet_L32 {E : JE} {G : JG} (X : JM E 5 cX5_sheet RX5 (some .int) 1 40 G) (v1 : Int32) (v2 : Int32) (v3 : Int32) (σ : ST) : Jg E 5 (JF E vI) [(0, .ref (gO G 50)), (1, .int v1), (2, .int v2), (3, .int v3)] 32 [] σ (f_X5_sheet_L32 v1 v2 v3 σ) := by
  have Y := X.1
  unfold f_X5_sheet_L32
  refine J_iload_n Y 2 dX5_sheet_32 rfl rfl ?_
  refine J_iconst (v := (-1 : Int32)) Y dX5_sheet_33 (by decide) ?_
  refine J_icmp_eq (tgt := 44) Y dX5_sheet_34 (by decide) ?_ ?_
  · exact j_X5_sheet_L44 X v1 v2 v3 σ
  · refine J_iload_n Y 3 dX5_sheet_37 rfl rfl ?_
    refine J_if_ge (tgt := 44) Y dX5_sheet_38 (by decide) ?_ ?_
    · exact j_X5_sheet_L44 X v1 v2 v3 σ
    · refine J_bipush (v := (-14 : Int32)) Y dX5_sheet_41 (by decide) ?_
      exact J_ireturn Y dX5_sheet_43
set_option maxRecDepth 100000 in
set_option maxHeartbeats 4000000 in
theorem j_X5_sheet {E : JE} {G : JG} (X : JM E 5 cX5_sheet RX5 (some .int) 1 40 G) (v1 : Int32) (v2 : Int32) (v3 : Int32) (σ : ST) : Jg E 5 (JF E vI) [(0, .ref (gO G 50)), (1, .int v1), (2, .int v2), (3, .int v3)] 0 [] σ (f_X5_sheet v1 v2 v3 σ) := by
  have Y := X.1
  unfold f_X5_sheet
  refine J_iload_n Y 1 dX5_sheet_0 rfl rfl ?_
  refine J_iconst (v := (0 : Int32)) Y dX5_sheet_1 (by decide) ?_
  refine J_iconst (v := (3 : Int32)) Y dX5_sheet_2 (by decide) ?_
  refine M_cSi (As := [.int v1, .int (0 : Int32), .int (3 : Int32)]) (st := []) rfl X (c_X5_in G v1 (0 : Int32) (3 : Int32) _) wi_X5_in wst_X5_in wml_RX5_78 ⟨Nat.le_of_ble_eq_true rfl, Nat.le_of_ble_eq_true rfl⟩ rfl (Nat.le_of_ble_eq_true rfl) dX5_sheet_3 (fun y3 t3 => ?_)
  refine J_if_eq (tgt := 29) Y dX5_sheet_6 (by decide) ?_ ?_
  · refine J_sub [] rfl ?_
    exact j_X5_sheet_L29 X  t3
  · refine J_iload_n Y 2 dX5_sheet_9 rfl rfl ?_
    refine J_iconst (v := (-1 : Int32)) Y dX5_sheet_10 (by decide) ?_
    refine J_iconst (v := (2 : Int32)) Y dX5_sheet_11 (by decide) ?_
    refine M_cSi (As := [.int v2, .int (-1 : Int32), .int (2 : Int32)]) (st := []) rfl X (c_X5_in G v2 (-1 : Int32) (2 : Int32) _) wi_X5_in wst_X5_in wml_RX5_78 ⟨Nat.le_of_ble_eq_true rfl, Nat.le_of_ble_eq_true rfl⟩ rfl (Nat.le_of_ble_eq_true rfl) dX5_sheet_12 (fun y12 t12 => ?_)
    refine J_if_eq (tgt := 29) Y dX5_sheet_15 (by decide) ?_ ?_
    · refine J_sub [] rfl ?_
      exact j_X5_sheet_L29 X  t12
    · refine J_iload_n Y 2 dX5_sheet_18 rfl rfl ?_
      refine J_iconst (v := (-1 : Int32)) Y dX5_sheet_19 (by decide) ?_
      refine J_icmp_eq (tgt := 32) Y dX5_sheet_20 (by decide) ?_ ?_
      · exact j_X5_sheet_L32 X v1 v2 v3 t12
      · refine J_iload_n Y 3 dX5_sheet_23 rfl rfl ?_
        refine J_bipush (v := (40 : Int32)) Y dX5_sheet_24 (by decide) ?_
        refine J_icmp_le (tgt := 32) Y dX5_sheet_26 (by decide) ?_ ?_
        · exact j_X5_sheet_L32 X v1 v2 v3 t12
        · refine J_sub [] rfl ?_
          exact j_X5_sheet_L29 X  t12
theorem c_X5_sheet (G : JG) (v1 : Int32) (v2 : Int32) (v3 : Int32) (σ : ST) : Con (VM G) vI G.1 yX5_sheet cX5_sheet 5 (some .int) 1 40 [.ref (gO G 50), .int v1, .int v2, .int v3] σ (f_X5_sheet v1 v2 v3 σ) :=
  Con_of (VM_ok G) (by decide +kernel) (Nat.le_of_ble_eq_true rfl) (fun E e1 e2 _ X => j_X5_sheet ⟨X, e1, e2⟩ v1 v2 v3 σ)
set_option maxRecDepth 100000 in
set_option maxHeartbeats 4000000 in
theorem j_X5_cell_L84 {E : JE} {G : JG} (X : JM E 4 cX5_cell RX5 (some .int) 1 40 G) (s0 : Int32) (s1 : Int32) (σ : ST) : Jg E 4 (JF E vI) [] 84 [.int s0, .int s1, .ref (gA G 50 16)] σ (f_X5_cell_L84 s0 s1 σ) := by
  have Y := X.1
  unfold f_X5_cell_L84
  refine M_ast X (mA_16 G _) (mS_16 G _) dX5_cell_84 (fun t84 => ?_)
  refine J_iconst (v := (1 : Int32)) Y dX5_cell_85 (by decide) ?_
  exact J_ireturn Y dX5_cell_86
set_option maxRecDepth 100000 in
set_option maxHeartbeats 4000000 in
theorem j_X5_cell {E : JE} {G : JG} (X : JM E 4 cX5_cell RX5 (some .int) 1 40 G) (v1 : Int32) (v2 : Int32) (v3 : Int32) (σ : ST) : Jg E 4 (JF E vI) [(0, .ref (gO G 50)), (1, .int v1), (2, .int v2), (3, .int v3)] 0 [] σ (f_X5_cell v1 v2 v3 σ) := by
  have Y := X.1
  unfold f_X5_cell
  refine J_iload_n Y 1 dX5_cell_0 rfl rfl ?_
  refine J_iconst (v := (0 : Int32)) Y dX5_cell_1 (by decide) ?_
  refine J_iconst (v := (3 : Int32)) Y dX5_cell_2 (by decide) ?_
  refine M_cSi (As := [.int v1, .int (0 : Int32), .int (3 : Int32)]) (st := []) rfl X (c_X5_in G v1 (0 : Int32) (3 : Int32) _) wi_X5_in wst_X5_in wml_RX5_78 ⟨Nat.le_of_ble_eq_true rfl, Nat.le_of_ble_eq_true rfl⟩ rfl (Nat.le_of_ble_eq_true rfl) dX5_cell_3 (fun y3 t3 => ?_)
  refine J_if_ne (tgt := 12) Y dX5_cell_6 (by decide) ?_ ?_
  · refine J_aload_n Y 0 dX5_cell_12 rfl rfl ?_
    refine M_get 14 X (by decide) rfl wfl_RX5_34 rfl dX5_cell_13 ?_
    refine J_iload_n Y 1 dX5_cell_16 rfl rfl ?_
    refine M_ald X (mA_14 G _) dX5_cell_17 (fun x17 => ?_)
    refine J_iconst (v := (-1 : Int32)) Y dX5_cell_18 (by decide) ?_
    refine J_icmp_ne (tgt := 25) Y dX5_cell_19 (by decide) ?_ ?_
    · refine J_iload_n Y 2 dX5_cell_25 rfl rfl ?_
      refine J_iconst (v := (0 : Int32)) Y dX5_cell_26 (by decide) ?_
      refine J_aload_n Y 0 dX5_cell_27 rfl rfl ?_
      refine M_get 15 X (by decide) rfl wfl_RX5_37 rfl dX5_cell_28 ?_
      refine J_iload_n Y 1 dX5_cell_31 rfl rfl ?_
      refine M_ald X (mA_15 G _) dX5_cell_32 (fun x32 => ?_)
      refine J_iconst (v := (1 : Int32)) Y dX5_cell_33 (by decide) ?_
      refine J_isub Y dX5_cell_34 ?_
      refine M_cSi (As := [.int v2, .int (0 : Int32), .int (x32 - (1 : Int32))]) (st := []) rfl X (c_X5_in G v2 (0 : Int32) (x32 - (1 : Int32)) _) wi_X5_in wst_X5_in wml_RX5_78 ⟨Nat.le_of_ble_eq_true rfl, Nat.le_of_ble_eq_true rfl⟩ rfl (Nat.le_of_ble_eq_true rfl) dX5_cell_35 (fun y35 t35 => ?_)
      refine J_if_ne (tgt := 44) Y dX5_cell_38 (by decide) ?_ ?_
      · refine J_aload_n Y 0 dX5_cell_44 rfl rfl ?_
        refine M_get 16 X (by decide) rfl wfl_RX5_40 rfl dX5_cell_45 ?_
        refine J_bipush (v := (40 : Int32)) Y dX5_cell_48 (by decide) ?_
        refine J_iload_n Y 1 dX5_cell_50 rfl rfl ?_
        refine J_imul Y dX5_cell_51 ?_
        refine J_iload_n Y 2 dX5_cell_52 rfl rfl ?_
        refine J_iadd Y dX5_cell_53 ?_
        refine J_aload_n Y 0 dX5_cell_54 rfl rfl ?_
        refine M_get 14 X (by decide) rfl wfl_RX5_34 rfl dX5_cell_55 ?_
        refine J_iload_n Y 1 dX5_cell_58 rfl rfl ?_
        refine M_ald X (mA_14 G _) dX5_cell_59 (fun x59 => ?_)
        refine J_if_ne (tgt := 68) Y dX5_cell_60 (by decide) ?_ ?_
        · refine J_aload_n Y 0 dX5_cell_68 rfl rfl ?_
          refine M_get 14 X (by decide) rfl wfl_RX5_34 rfl dX5_cell_69 ?_
          refine J_iload_n Y 1 dX5_cell_72 rfl rfl ?_
          refine M_ald X (mA_14 G _) dX5_cell_73 (fun x73 => ?_)
          refine J_iconst (v := (1 : Int32)) Y dX5_cell_74 (by decide) ?_
          refine J_icmp_ne (tgt := 83) Y dX5_cell_75 (by decide) ?_ ?_
          · refine J_iload_n Y 3 dX5_cell_83 rfl rfl ?_
            refine J_sub [] rfl ?_
            exact j_X5_cell_L84 X v3 (((40 : Int32) * v1) + v2) t35
          · refine J_iload_n Y 3 dX5_cell_78 rfl rfl ?_
            refine J_i2s Y dX5_cell_79 ?_
            refine J_goto (tgt := 84) Y dX5_cell_80 (by decide) ?_
            refine J_sub [] rfl ?_
            exact j_X5_cell_L84 X (v3.toInt16.toInt32) (((40 : Int32) * v1) + v2) t35
        · refine J_iload_n Y 3 dX5_cell_63 rfl rfl ?_
          refine J_i2b Y dX5_cell_64 ?_
          refine J_goto (tgt := 84) Y dX5_cell_65 (by decide) ?_
          refine J_sub [] rfl ?_
          exact j_X5_cell_L84 X (v3.toInt8.toInt32) (((40 : Int32) * v1) + v2) t35
      · refine J_bipush (v := (-12 : Int32)) Y dX5_cell_41 (by decide) ?_
        exact J_ireturn Y dX5_cell_43
    · refine J_bipush (v := (-11 : Int32)) Y dX5_cell_22 (by decide) ?_
      exact J_ireturn Y dX5_cell_24
  · refine J_bipush (v := (-2 : Int32)) Y dX5_cell_9 (by decide) ?_
    exact J_ireturn Y dX5_cell_11
theorem c_X5_cell (G : JG) (v1 : Int32) (v2 : Int32) (v3 : Int32) (σ : ST) : Con (VM G) vI G.1 yX5_cell cX5_cell 4 (some .int) 1 40 [.ref (gO G 50), .int v1, .int v2, .int v3] σ (f_X5_cell v1 v2 v3 σ) :=
  Con_of (VM_ok G) (by decide +kernel) (Nat.le_of_ble_eq_true rfl) (fun E e1 e2 _ X => j_X5_cell ⟨X, e1, e2⟩ v1 v2 v3 σ)
set_option maxRecDepth 100000 in
set_option maxHeartbeats 4000000 in
theorem j_X5_copy_L18 {E : JE} {G : JG} (X : JM E 10 cX5_copy RX5 (some .int) 1 40 G) (σ : ST) : Jg E 10 (JF E vI) [] 18 [] σ (f_X5_copy_L18 σ) := by
  have Y := X.1
  unfold f_X5_copy_L18
  refine J_bipush (v := (-2 : Int32)) Y dX5_copy_18 (by decide) ?_
  exact J_ireturn Y dX5_copy_20
set_option maxRecDepth 100000 in
set_option maxHeartbeats 4000000 in
theorem j_X5_copy_L41 {E : JE} {G : JG} (X : JM E 10 cX5_copy RX5 (some .int) 1 40 G) (σ : ST) : Jg E 10 (JF E vI) [] 41 [] σ (f_X5_copy_L41 σ) := by
  have Y := X.1
  unfold f_X5_copy_L41
  refine J_bipush (v := (-11 : Int32)) Y dX5_copy_41 (by decide) ?_
  exact J_ireturn Y dX5_copy_43
set_option maxRecDepth 100000 in
set_option maxHeartbeats 4000000 in
theorem j_X5_copy_L124 {E : JE} {G : JG} (X : JM E 10 cX5_copy RX5 (some .int) 1 40 G) (σ : ST) : Jg E 10 (JF E vI) [] 124 [] σ (f_X5_copy_L124 σ) := by
  have Y := X.1
  unfold f_X5_copy_L124
  refine J_bipush (v := (-12 : Int32)) Y dX5_copy_124 (by decide) ?_
  exact J_ireturn Y dX5_copy_126
set_option maxRecDepth 100000 in
set_option maxHeartbeats 4000000 in
theorem j_X5_copy_L173 {E : JE} {G : JG} (X : JM E 10 cX5_copy RX5 (some .int) 1 40 G) {k147 : Int32 → Int32 → Int32 → Int32 → ST → Option (Int32 × ST)} (hk147 : ∀ (v5 : Int32) (v6 : Int32) (v7 : Int32) (v8 : Int32) (σ : ST), Jg E 10 (JF E vI) [(0, .ref (gO G 50)), (5, .int v5), (6, .int v6), (7, .int v7), (8, .int v8)] 147 [] σ (k147 v5 v6 v7 v8 σ)) (v5 : Int32) (v6 : Int32) (v7 : Int32) (v8 : Int32) (s0 : Int32) (σ : ST) : Jg E 10 (JF E vI) [(0, .ref (gO G 50)), (5, .int v5), (6, .int v6), (7, .int v7), (8, .int v8)] 173 [.int s0] σ (f_X5_copy_L173 k147 v5 v6 v7 v8 s0 σ) := by
  have Y := X.1
  unfold f_X5_copy_L173
  refine J_istore [(9, .int s0), (0, .ref (gO G 50)), (5, .int v5), (6, .int v6), (7, .int v7), (8, .int v8)] Y dX5_copy_173 (by decide) rfl ?_
  refine J_aload_n Y 1 dX5_copy_175 rfl rfl ?_
  refine M_get 16 X (by decide) rfl wfl_RX5_40 rfl dX5_copy_176 ?_
  refine J_iload Y 4 dX5_copy_179 rfl ?_
  refine J_iload Y 0 dX5_copy_181 rfl ?_
  refine J_iadd Y dX5_copy_183 ?_
  refine J_aload_n Y 1 dX5_copy_184 rfl rfl ?_
  refine M_get 16 X (by decide) rfl wfl_RX5_40 rfl dX5_copy_185 ?_
  refine J_iload Y 3 dX5_copy_188 rfl ?_
  refine J_iload Y 0 dX5_copy_190 rfl ?_
  refine J_iadd Y dX5_copy_192 ?_
  refine M_ald X (mA_16 G _) dX5_copy_193 (fun x193 => ?_)
  refine M_ast X (mA_16 G _) (mS_16 G _) dX5_copy_194 (fun t194 => ?_)
  refine J_iinc (v := v8 + (1 : Int32)) [(8, .int (v8 + (1 : Int32))), (9, .int s0), (0, .ref (gO G 50)), (5, .int v5), (6, .int v6), (7, .int v7)] Y 5 dX5_copy_195 rfl (congrArg (fun z => _ + z) (by decide)) (by decide) rfl ?_
  refine J_goto (tgt := 147) Y dX5_copy_198 (by decide) ?_
  refine J_sub [2, 3, 4, 5, 0] rfl ?_
  exact hk147 v5 v6 v7 (v8 + (1 : Int32)) t194
set_option maxRecDepth 100000 in
set_option maxHeartbeats 4000000 in
theorem j_X5_copy_L147 {E : JE} {G : JG} (X : JM E 10 cX5_copy RX5 (some .int) 1 40 G) : ∀ (n : Nat) (v5 : Int32) (v6 : Int32) (v7 : Int32) (v8 : Int32) (σ : ST), Jg E 10 (JF E vI) [(0, .ref (gO G 50)), (5, .int v5), (6, .int v6), (7, .int v7), (8, .int v8)] 147 [] σ (f_X5_copy_L147 n v5 v6 v7 v8 σ) := by
  have Y := X.1
  intro n
  induction n with
  | zero => intro v5 v6 v7 v8 σ; rw [f_X5_copy_L147]; exact J_none
  | succ n ih =>
    intro v5 v6 v7 v8 σ
    rw [f_X5_copy_L147]
    refine J_iload Y 4 dX5_copy_147 rfl ?_
    refine J_iload Y 1 dX5_copy_149 rfl ?_
    refine J_icmp_ge (tgt := 201) Y dX5_copy_151 (by decide) ?_ ?_
    · refine J_iload Y 1 dX5_copy_201 rfl ?_
      exact J_ireturn Y dX5_copy_203
    · refine J_iload Y 2 dX5_copy_154 rfl ?_
      refine J_iload Y 3 dX5_copy_156 rfl ?_
      refine J_icmp_ge (tgt := 171) Y dX5_copy_158 (by decide) ?_ ?_
      · refine J_iload Y 4 dX5_copy_171 rfl ?_
        exact j_X5_copy_L173 X (fun v5 v6 v7 v8 σ => ih v5 v6 v7 v8 σ) v5 v6 v7 v8 v8 σ
      · refine J_iload Y 1 dX5_copy_161 rfl ?_
        refine J_iconst (v := (1 : Int32)) Y dX5_copy_163 (by decide) ?_
        refine J_isub Y dX5_copy_164 ?_
        refine J_iload Y 4 dX5_copy_165 rfl ?_
        refine J_isub Y dX5_copy_167 ?_
        refine J_goto (tgt := 173) Y dX5_copy_168 (by decide) ?_
        exact j_X5_copy_L173 X (fun v5 v6 v7 v8 σ => ih v5 v6 v7 v8 σ) v5 v6 v7 v8 ((v5 - (1 : Int32)) - v8) σ
set_option maxRecDepth 100000 in
set_option maxHeartbeats 4000000 in
theorem j_X5_copy {E : JE} {G : JG} (X : JM E 10 cX5_copy RX5 (some .int) 1 40 G) (v1 : Int32) (v2 : Int32) (v3 : Int32) (v4 : Int32) (v5 : Int32) (σ : ST) : Jg E 10 (JF E vI) [(0, .ref (gO G 50)), (1, .int v1), (2, .int v2), (3, .int v3), (4, .int v4), (5, .int v5)] 0 [] σ (f_X5_copy v1 v2 v3 v4 v5 σ) := by
  have Y := X.1
  unfold f_X5_copy
  refine J_iload_n Y 1 dX5_copy_0 rfl rfl ?_
  refine J_iconst (v := (0 : Int32)) Y dX5_copy_1 (by decide) ?_
  refine J_iconst (v := (3 : Int32)) Y dX5_copy_2 (by decide) ?_
  refine M_cSi (As := [.int v1, .int (0 : Int32), .int (3 : Int32)]) (st := []) rfl X (c_X5_in G v1 (0 : Int32) (3 : Int32) _) wi_X5_in wst_X5_in wml_RX5_78 ⟨Nat.le_of_ble_eq_true rfl, Nat.le_of_ble_eq_true rfl⟩ rfl (Nat.le_of_ble_eq_true rfl) dX5_copy_3 (fun y3 t3 => ?_)
  refine J_if_eq (tgt := 18) Y dX5_copy_6 (by decide) ?_ ?_
  · refine J_sub [] rfl ?_
    exact j_X5_copy_L18 X  t3
  · refine J_iload_n Y 3 dX5_copy_9 rfl rfl ?_
    refine J_iconst (v := (0 : Int32)) Y dX5_copy_10 (by decide) ?_
    refine J_iconst (v := (3 : Int32)) Y dX5_copy_11 (by decide) ?_
    refine M_cSi (As := [.int v3, .int (0 : Int32), .int (3 : Int32)]) (st := []) rfl X (c_X5_in G v3 (0 : Int32) (3 : Int32) _) wi_X5_in wst_X5_in wml_RX5_78 ⟨Nat.le_of_ble_eq_true rfl, Nat.le_of_ble_eq_true rfl⟩ rfl (Nat.le_of_ble_eq_true rfl) dX5_copy_12 (fun y12 t12 => ?_)
    refine J_if_ne (tgt := 21) Y dX5_copy_15 (by decide) ?_ ?_
    · refine J_aload_n Y 0 dX5_copy_21 rfl rfl ?_
      refine M_get 14 X (by decide) rfl wfl_RX5_34 rfl dX5_copy_22 ?_
      refine J_iload_n Y 1 dX5_copy_25 rfl rfl ?_
      refine M_ald X (mA_14 G _) dX5_copy_26 (fun x26 => ?_)
      refine J_iconst (v := (-1 : Int32)) Y dX5_copy_27 (by decide) ?_
      refine J_icmp_eq (tgt := 41) Y dX5_copy_28 (by decide) ?_ ?_
      · refine J_sub [] rfl ?_
        exact j_X5_copy_L41 X  t12
      · refine J_aload_n Y 0 dX5_copy_31 rfl rfl ?_
        refine M_get 14 X (by decide) rfl wfl_RX5_34 rfl dX5_copy_32 ?_
        refine J_iload_n Y 3 dX5_copy_35 rfl rfl ?_
        refine M_ald X (mA_14 G _) dX5_copy_36 (fun x36 => ?_)
        refine J_iconst (v := (-1 : Int32)) Y dX5_copy_37 (by decide) ?_
        refine J_icmp_ne (tgt := 44) Y dX5_copy_38 (by decide) ?_ ?_
        · refine J_aload_n Y 0 dX5_copy_44 rfl rfl ?_
          refine M_get 14 X (by decide) rfl wfl_RX5_34 rfl dX5_copy_45 ?_
          refine J_iload_n Y 1 dX5_copy_48 rfl rfl ?_
          refine M_ald X (mA_14 G _) dX5_copy_49 (fun x49 => ?_)
          refine J_aload_n Y 0 dX5_copy_50 rfl rfl ?_
          refine M_get 14 X (by decide) rfl wfl_RX5_34 rfl dX5_copy_51 ?_
          refine J_iload_n Y 3 dX5_copy_54 rfl rfl ?_
          refine M_ald X (mA_14 G _) dX5_copy_55 (fun x55 => ?_)
          refine J_icmp_eq (tgt := 62) Y dX5_copy_56 (by decide) ?_ ?_
          · refine J_iload Y 5 dX5_copy_62 rfl ?_
            refine J_if_lt (tgt := 124) Y dX5_copy_64 (by decide) ?_ ?_
            · refine J_sub [] rfl ?_
              exact j_X5_copy_L124 X  t12
            · refine J_iload_n Y 2 dX5_copy_67 rfl rfl ?_
              refine J_if_lt (tgt := 124) Y dX5_copy_68 (by decide) ?_ ?_
              · refine J_sub [] rfl ?_
                exact j_X5_copy_L124 X  t12
              · refine J_iload Y 4 dX5_copy_71 rfl ?_
                refine J_if_lt (tgt := 124) Y dX5_copy_73 (by decide) ?_ ?_
                · refine J_sub [] rfl ?_
                  exact j_X5_copy_L124 X  t12
                · refine J_iload_n Y 2 dX5_copy_76 rfl rfl ?_
                  refine J_aload_n Y 0 dX5_copy_77 rfl rfl ?_
                  refine M_get 15 X (by decide) rfl wfl_RX5_37 rfl dX5_copy_78 ?_
                  refine J_iload_n Y 1 dX5_copy_81 rfl rfl ?_
                  refine M_ald X (mA_15 G _) dX5_copy_82 (fun x82 => ?_)
                  refine J_icmp_gt (tgt := 124) Y dX5_copy_83 (by decide) ?_ ?_
                  · refine J_sub [] rfl ?_
                    exact j_X5_copy_L124 X  t12
                  · refine J_iload Y 4 dX5_copy_86 rfl ?_
                    refine J_aload_n Y 0 dX5_copy_88 rfl rfl ?_
                    refine M_get 15 X (by decide) rfl wfl_RX5_37 rfl dX5_copy_89 ?_
                    refine J_iload_n Y 3 dX5_copy_92 rfl rfl ?_
                    refine M_ald X (mA_15 G _) dX5_copy_93 (fun x93 => ?_)
                    refine J_icmp_gt (tgt := 124) Y dX5_copy_94 (by decide) ?_ ?_
                    · refine J_sub [] rfl ?_
                      exact j_X5_copy_L124 X  t12
                    · refine J_iload Y 5 dX5_copy_97 rfl ?_
                      refine J_aload_n Y 0 dX5_copy_99 rfl rfl ?_
                      refine M_get 15 X (by decide) rfl wfl_RX5_37 rfl dX5_copy_100 ?_
                      refine J_iload_n Y 1 dX5_copy_103 rfl rfl ?_
                      refine M_ald X (mA_15 G _) dX5_copy_104 (fun x104 => ?_)
                      refine J_iload_n Y 2 dX5_copy_105 rfl rfl ?_
                      refine J_isub Y dX5_copy_106 ?_
                      refine J_icmp_gt (tgt := 124) Y dX5_copy_107 (by decide) ?_ ?_
                      · refine J_sub [] rfl ?_
                        exact j_X5_copy_L124 X  t12
                      · refine J_iload Y 5 dX5_copy_110 rfl ?_
                        refine J_aload_n Y 0 dX5_copy_112 rfl rfl ?_
                        refine M_get 15 X (by decide) rfl wfl_RX5_37 rfl dX5_copy_113 ?_
                        refine J_iload_n Y 3 dX5_copy_116 rfl rfl ?_
                        refine M_ald X (mA_15 G _) dX5_copy_117 (fun x117 => ?_)
                        refine J_iload Y 4 dX5_copy_118 rfl ?_
                        refine J_isub Y dX5_copy_120 ?_
                        refine J_icmp_le (tgt := 127) Y dX5_copy_121 (by decide) ?_ ?_
                        · refine J_bipush (v := (40 : Int32)) Y dX5_copy_127 (by decide) ?_
                          refine J_iload_n Y 1 dX5_copy_129 rfl rfl ?_
                          refine J_imul Y dX5_copy_130 ?_
                          refine J_iload_n Y 2 dX5_copy_131 rfl rfl ?_
                          refine J_iadd Y dX5_copy_132 ?_
                          refine J_istore [(6, .int (((40 : Int32) * v1) + v2)), (0, .ref (gO G 50)), (1, .int v1), (2, .int v2), (3, .int v3), (4, .int v4), (5, .int v5)] Y dX5_copy_133 (by decide) rfl ?_
                          refine J_bipush (v := (40 : Int32)) Y dX5_copy_135 (by decide) ?_
                          refine J_iload_n Y 4 dX5_copy_137 rfl rfl ?_
                          refine J_imul Y dX5_copy_138 ?_
                          refine J_iload Y 5 dX5_copy_139 rfl ?_
                          refine J_iadd Y dX5_copy_141 ?_
                          refine J_istore [(7, .int (((40 : Int32) * v3) + v4)), (6, .int (((40 : Int32) * v1) + v2)), (0, .ref (gO G 50)), (1, .int v1), (2, .int v2), (3, .int v3), (4, .int v4), (5, .int v5)] Y dX5_copy_142 (by decide) rfl ?_
                          refine J_iconst (v := (0 : Int32)) Y dX5_copy_144 (by decide) ?_
                          refine J_istore [(8, .int (0 : Int32)), (7, .int (((40 : Int32) * v3) + v4)), (6, .int (((40 : Int32) * v1) + v2)), (0, .ref (gO G 50)), (1, .int v1), (2, .int v2), (3, .int v3), (4, .int v4), (5, .int v5)] Y dX5_copy_145 (by decide) rfl ?_
                          refine J_sub [3, 8, 2, 1, 0] rfl ?_
                          exact j_X5_copy_L147 X 1000 v5 (((40 : Int32) * v1) + v2) (((40 : Int32) * v3) + v4) (0 : Int32) t12
                        · refine J_sub [] rfl ?_
                          exact j_X5_copy_L124 X  t12
          · refine J_bipush (v := (-13 : Int32)) Y dX5_copy_59 (by decide) ?_
            exact J_ireturn Y dX5_copy_61
        · refine J_sub [] rfl ?_
          exact j_X5_copy_L41 X  t12
    · refine J_sub [] rfl ?_
      exact j_X5_copy_L18 X  t12
theorem c_X5_copy (G : JG) (v1 : Int32) (v2 : Int32) (v3 : Int32) (v4 : Int32) (v5 : Int32) (σ : ST) : Con (VM G) vI G.1 yX5_copy cX5_copy 10 (some .int) 1 40 [.ref (gO G 50), .int v1, .int v2, .int v3, .int v4, .int v5] σ (f_X5_copy v1 v2 v3 v4 v5 σ) :=
  Con_of (VM_ok G) (by decide +kernel) (Nat.le_of_ble_eq_true rfl) (fun E e1 e2 _ X => j_X5_copy ⟨X, e1, e2⟩ v1 v2 v3 v4 v5 σ)
