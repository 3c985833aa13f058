set_option maxRecDepth 100000 in
set_option maxHeartbeats 4000000 in
theorem j_X0_becomes {E : JE} {G : JG} (X : JC E 2 cX0_becomes RX0 none 1 40 G) (o0 : Nat) (o1 : Nat) (ho0 : isCo o0) (ho1 : isCo o1) (σ : ST) : Jg E 2 (JF E vV) [(0, .ref (gO G o0)), (1, .ref (gO G o1))] 0 [] σ (f_X0_becomes (gT G) o0 o1 σ) := by
  have Y := X.1
  unfold f_X0_becomes
  refine J_aload_n Y 1 dX0_becomes_0 rfl rfl ?_
  refine C_get 2 X uw_X0 (cO_co G _ ho1) rfl (by decide) rfl wfl_RX0_9 rfl dX0_becomes_1 ?_
  refine J_iconst (v := (0 : Int32)) Y dX0_becomes_4 (by decide) ?_
  refine J_aload_n Y 0 dX0_becomes_5 rfl rfl ?_
  refine C_get 2 X uw_X0 (cO_co G _ ho0) rfl (by decide) rfl wfl_RX0_9 rfl dX0_becomes_6 ?_
  refine J_iconst (v := (0 : Int32)) Y dX0_becomes_9 (by decide) ?_
  refine J_bipush (v := (6 : Int32)) Y dX0_becomes_10 (by decide) ?_
  refine C_acp (st := []) X (cA_co_2 G _ ho1) (cA_co_2 G _ ho0) (cS_co_2 G _ ho0) wml_RX0_40 wnat_acp wst_acp wini_RJ10 (Nat.le_of_ble_eq_true rfl) (Nat.le_of_ble_eq_true rfl) dX0_becomes_12 (fun t12 => ?_)
  refine J_aload_n Y 1 dX0_becomes_15 rfl rfl ?_
  refine C_get 3 X uw_X0 (cO_co G _ ho1) rfl (by decide) rfl wfl_RX0_15 rfl dX0_becomes_16 ?_
  refine J_iconst (v := (0 : Int32)) Y dX0_becomes_19 (by decide) ?_
  refine J_aload_n Y 0 dX0_becomes_20 rfl rfl ?_
  refine C_get 3 X uw_X0 (cO_co G _ ho0) rfl (by decide) rfl wfl_RX0_15 rfl dX0_becomes_21 ?_
  refine J_iconst (v := (0 : Int32)) Y dX0_becomes_24 (by decide) ?_
  refine J_bipush (v := (6 : Int32)) Y dX0_becomes_25 (by decide) ?_
  refine C_acp (st := []) X (cA_co_3 G _ ho1) (cA_co_3 G _ ho0) (cS_co_3 G _ ho0) wml_RX0_40 wnat_acp wst_acp wini_RJ10 (Nat.le_of_ble_eq_true rfl) (Nat.le_of_ble_eq_true rfl) dX0_becomes_27 (fun t27 => ?_)
  refine J_aload_n Y 1 dX0_becomes_30 rfl rfl ?_
  refine C_get 4 X uw_X0 (cO_co G _ ho1) rfl (by decide) rfl wfl_RX0_18 rfl dX0_becomes_31 ?_
  refine J_iconst (v := (0 : Int32)) Y dX0_becomes_34 (by decide) ?_
  refine J_aload_n Y 0 dX0_becomes_35 rfl rfl ?_
  refine C_get 4 X uw_X0 (cO_co G _ ho0) rfl (by decide) rfl wfl_RX0_18 rfl dX0_becomes_36 ?_
  refine J_iconst (v := (0 : Int32)) Y dX0_becomes_39 (by decide) ?_
  refine J_bipush (v := (6 : Int32)) Y dX0_becomes_40 (by decide) ?_
  refine C_acp (st := []) X (cA_co_4 G _ ho1) (cA_co_4 G _ ho0) (cS_co_4 G _ ho0) wml_RX0_40 wnat_acp wst_acp wini_RJ10 (Nat.le_of_ble_eq_true rfl) (Nat.le_of_ble_eq_true rfl) dX0_becomes_42 (fun t42 => ?_)
  refine J_aload_n Y 1 dX0_becomes_45 rfl rfl ?_
  refine C_get 5 X uw_X0 (cO_co G _ ho1) rfl (by decide) rfl wfl_RX0_21 rfl dX0_becomes_46 ?_
  refine J_iconst (v := (0 : Int32)) Y dX0_becomes_49 (by decide) ?_
  refine J_aload_n Y 0 dX0_becomes_50 rfl rfl ?_
  refine C_get 5 X uw_X0 (cO_co G _ ho0) rfl (by decide) rfl wfl_RX0_21 rfl dX0_becomes_51 ?_
  refine J_iconst (v := (0 : Int32)) Y dX0_becomes_54 (by decide) ?_
  refine J_bipush (v := (6 : Int32)) Y dX0_becomes_55 (by decide) ?_
  refine C_acp (st := []) X (cA_co_5 G _ ho1) (cA_co_5 G _ ho0) (cS_co_5 G _ ho0) wml_RX0_40 wnat_acp wst_acp wini_RJ10 (Nat.le_of_ble_eq_true rfl) (Nat.le_of_ble_eq_true rfl) dX0_becomes_57 (fun t57 => ?_)
  refine J_aload_n Y 1 dX0_becomes_60 rfl rfl ?_
  refine C_get 6 X uw_X0 (cO_co G _ ho1) rfl (by decide) rfl wfl_RX0_24 rfl dX0_becomes_61 ?_
  refine J_iconst (v := (0 : Int32)) Y dX0_becomes_64 (by decide) ?_
  refine J_aload_n Y 0 dX0_becomes_65 rfl rfl ?_
  refine C_get 6 X uw_X0 (cO_co G _ ho0) rfl (by decide) rfl wfl_RX0_24 rfl dX0_becomes_66 ?_
  refine J_iconst (v := (0 : Int32)) Y dX0_becomes_69 (by decide) ?_
  refine J_bipush (v := (6 : Int32)) Y dX0_becomes_70 (by decide) ?_
  refine C_acp (st := []) X (cA_co_6 G _ ho1) (cA_co_6 G _ ho0) (cS_co_6 G _ ho0) wml_RX0_40 wnat_acp wst_acp wini_RJ10 (Nat.le_of_ble_eq_true rfl) (Nat.le_of_ble_eq_true rfl) dX0_becomes_72 (fun t72 => ?_)
  refine J_aload_n Y 1 dX0_becomes_75 rfl rfl ?_
  refine C_get 7 X uw_X0 (cO_co G _ ho1) rfl (by decide) rfl wfl_RX0_27 rfl dX0_becomes_76 ?_
  refine J_iconst (v := (0 : Int32)) Y dX0_becomes_79 (by decide) ?_
  refine J_aload_n Y 0 dX0_becomes_80 rfl rfl ?_
  refine C_get 7 X uw_X0 (cO_co G _ ho0) rfl (by decide) rfl wfl_RX0_27 rfl dX0_becomes_81 ?_
  refine J_iconst (v := (0 : Int32)) Y dX0_becomes_84 (by decide) ?_
  refine J_bipush (v := (6 : Int32)) Y dX0_becomes_85 (by decide) ?_
  refine C_acp (st := []) X (cA_co_7 G _ ho1) (cA_co_7 G _ ho0) (cS_co_7 G _ ho0) wml_RX0_40 wnat_acp wst_acp wini_RJ10 (Nat.le_of_ble_eq_true rfl) (Nat.le_of_ble_eq_true rfl) dX0_becomes_87 (fun t87 => ?_)
  refine J_aload_n Y 1 dX0_becomes_90 rfl rfl ?_
  refine C_get 8 X uw_X0 (cO_co G _ ho1) rfl (by decide) rfl wfl_RX0_30 rfl dX0_becomes_91 ?_
  refine J_iconst (v := (0 : Int32)) Y dX0_becomes_94 (by decide) ?_
  refine J_aload_n Y 0 dX0_becomes_95 rfl rfl ?_
  refine C_get 8 X uw_X0 (cO_co G _ ho0) rfl (by decide) rfl wfl_RX0_30 rfl dX0_becomes_96 ?_
  refine J_iconst (v := (0 : Int32)) Y dX0_becomes_99 (by decide) ?_
  refine J_bipush (v := (48 : Int32)) Y dX0_becomes_100 (by decide) ?_
  refine C_acp (st := []) X (cA_co_8 G _ ho1) (cA_co_8 G _ ho0) (cS_co_8 G _ ho0) wml_RX0_40 wnat_acp wst_acp wini_RJ10 (Nat.le_of_ble_eq_true rfl) (Nat.le_of_ble_eq_true rfl) dX0_becomes_102 (fun t102 => ?_)
  refine J_aload_n Y 0 dX0_becomes_105 rfl rfl ?_
  refine J_aload_n Y 1 dX0_becomes_106 rfl rfl ?_
  refine C_get 9 X uw_X0 (cO_co G _ ho1) rfl (by decide) rfl wfl_RX0_46 rfl dX0_becomes_107 ?_
  refine C_put 9 o0 (ty := .int) X uw_X0 tyX0 tyX0_ok nmX0 (cO_co G _ ho0) rfl (by decide) rfl wfl_RX0_46 rfl rfl (by decide +kernel) rfl (Nat.le_of_ble_eq_true rfl) (cF_co_9 G _ _ ho0) dX0_becomes_110 (fun t110 => ?_)
  refine J_aload_n Y 0 dX0_becomes_113 rfl rfl ?_
  refine J_aload_n Y 1 dX0_becomes_114 rfl rfl ?_
  refine C_get 10 X uw_X0 (cO_co G _ ho1) rfl (by decide) rfl wfl_RX0_50 rfl dX0_becomes_115 ?_
  refine C_put 10 o0 (ty := .int) X uw_X0 tyX0 tyX0_ok nmX0 (cO_co G _ ho0) rfl (by decide) rfl wfl_RX0_50 rfl rfl (by decide +kernel) rfl (Nat.le_of_ble_eq_true rfl) (cF_co_10 G _ _ ho0) dX0_becomes_118 (fun t118 => ?_)
  refine J_aload_n Y 0 dX0_becomes_121 rfl rfl ?_
  refine J_aload_n Y 1 dX0_becomes_122 rfl rfl ?_
  refine C_get 11 X uw_X0 (cO_co G _ ho1) rfl (by decide) rfl wfl_RX0_53 rfl dX0_becomes_123 ?_
  refine C_put 11 o0 (ty := .int) X uw_X0 tyX0 tyX0_ok nmX0 (cO_co G _ ho0) rfl (by decide) rfl wfl_RX0_53 rfl rfl (by decide +kernel) rfl (Nat.le_of_ble_eq_true rfl) (cF_co_11 G _ _ ho0) dX0_becomes_126 (fun t126 => ?_)
  exact J_return Y dX0_becomes_129
theorem c_X0_becomes (G : JG) (o0 : Nat) (o1 : Nat) (ho0 : isCo o0) (ho1 : isCo o1) (σ : ST) : Con (VC G) vV G.1 yX0_becomes cX0_becomes 2 none 1 40 [.ref (gO G o0), .ref (gO G o1)] σ (f_X0_becomes (gT G) o0 o1 σ) :=
  Con_of (VC_ok G) (by decide +kernel) (Nat.le_of_ble_eq_true rfl) (fun E e1 e2 _ X => j_X0_becomes ⟨X, e1, e2⟩ o0 o1 ho0 ho1 σ)
set_option maxRecDepth 100000 in
set_option maxHeartbeats 4000000 in
theorem j_X0_has_L17 {E : JE} {G : JG} (X : JC E 2 cX0_has RX0 (some .boolean) 0 0 G) (s0 : Int32) (σ : ST) : Jg E 2 (JF E vI) [] 17 [.int s0] σ (f_X0_has_L17 (gT G) s0 σ) := by
  have Y := X.1
  unfold f_X0_has_L17
  exact J_zreturn Y dX0_has_17
set_option maxRecDepth 100000 in
set_option maxHeartbeats 4000000 in
theorem j_X0_has_L16 {E : JE} {G : JG} (X : JC E 2 cX0_has RX0 (some .boolean) 0 0 G) (σ : ST) : Jg E 2 (JF E vI) [] 16 [] σ (f_X0_has_L16 (gT G) σ) := by
  have Y := X.1
  unfold f_X0_has_L16
  refine J_iconst (v := (0 : Int32)) Y dX0_has_16 (by decide) ?_
  exact j_X0_has_L17 X (0 : Int32) σ
set_option maxRecDepth 100000 in
set_option maxHeartbeats 4000000 in
theorem j_X0_has {E : JE} {G : JG} (X : JC E 2 cX0_has RX0 (some .boolean) 0 0 G) (o0 : Nat) (v1 : Int32) (ho0 : isCo o0) (σ : ST) : Jg E 2 (JF E vI) [(0, .ref (gO G o0)), (1, .int v1)] 0 [] σ (f_X0_has (gT G) o0 v1 σ) := by
  have Y := X.1
  unfold f_X0_has
  refine J_iload_n Y 1 dX0_has_0 rfl rfl ?_
  refine J_if_lt (tgt := 16) Y dX0_has_1 (by decide) ?_ ?_
  · refine J_sub [] rfl ?_
    exact j_X0_has_L16 X  σ
  · refine J_iload_n Y 1 dX0_has_4 rfl rfl ?_
    refine J_aload_n Y 0 dX0_has_5 rfl rfl ?_
    refine C_get 9 X uw_X0 (cO_co G _ ho0) rfl (by decide) rfl wfl_RX0_46 rfl dX0_has_6 ?_
    refine J_icmp_ge (tgt := 16) Y dX0_has_9 (by decide) ?_ ?_
    · refine J_sub [] rfl ?_
      exact j_X0_has_L16 X  σ
    · refine J_iconst (v := (1 : Int32)) Y dX0_has_12 (by decide) ?_
      refine J_goto (tgt := 17) Y dX0_has_13 (by decide) ?_
      refine J_sub [] rfl ?_
      exact j_X0_has_L17 X (1 : Int32) σ
theorem c_X0_has (G : JG) (o0 : Nat) (v1 : Int32) (ho0 : isCo o0) (σ : ST) : Con (VC G) vI G.1 yX0_has cX0_has 2 (some .boolean) 0 0 [.ref (gO G o0), .int v1] σ (f_X0_has (gT G) o0 v1 σ) :=
  Con_of (VC_ok G) (by decide +kernel) (Nat.le_of_ble_eq_true rfl) (fun E e1 e2 _ X => j_X0_has ⟨X, e1, e2⟩ o0 v1 ho0 σ)
set_option maxRecDepth 100000 in
set_option maxHeartbeats 4000000 in
theorem j_X0_admit_L79 {E : JE} {G : JG} (X : JC E 6 cX0_admit RX0 (some .int) 0 0 G) : ∀ (n : Nat) (o0 : Nat) (v3 : Int32) (v4 : Int32) (v5 : Int32) (ho0 : isCo o0) (σ : ST), Jg E 6 (JF E vI) [(0, .ref (gO G o0)), (3, .int v3), (4, .int v4), (5, .int v5)] 79 [] σ (f_X0_admit_L79 (gT G) n o0 v3 v4 v5 σ) := by
  have Y := X.1
  intro n
  induction n with
  | zero => intro o0 v3 v4 v5 ho0 σ; rw [f_X0_admit_L79]; exact J_none
  | succ n ih =>
    intro o0 v3 v4 v5 ho0 σ
    rw [f_X0_admit_L79]
    refine J_iload Y 3 dX0_admit_79 rfl ?_
    refine J_bipush (v := (8 : Int32)) Y dX0_admit_81 (by decide) ?_
    refine J_icmp_ge (tgt := 106) Y dX0_admit_83 (by decide) ?_ ?_
    · refine J_iload Y 2 dX0_admit_106 rfl ?_
      exact J_ireturn Y dX0_admit_108
    · refine J_aload_n Y 0 dX0_admit_86 rfl rfl ?_
      refine C_get 8 X uw_X0 (cO_co G _ ho0) rfl (by decide) rfl wfl_RX0_30 rfl dX0_admit_87 ?_
      refine J_iload Y 2 dX0_admit_90 rfl ?_
      refine J_bipush (v := (8 : Int32)) Y dX0_admit_92 (by decide) ?_
      refine J_imul Y dX0_admit_94 ?_
      refine J_iload Y 3 dX0_admit_95 rfl ?_
      refine J_iadd Y dX0_admit_97 ?_
      refine J_iload_n Y 1 dX0_admit_98 rfl rfl ?_
      refine C_ast X (cA_co_8 G _ ho0) (cS_co_8 G _ ho0) dX0_admit_99 (fun t99 => ?_)
      refine J_iinc (v := v5 + (1 : Int32)) [(5, .int (v5 + (1 : Int32))), (0, .ref (gO G o0)), (3, .int v3), (4, .int v4)] Y 3 dX0_admit_100 rfl (congrArg (fun z => _ + z) (by decide)) (by decide) rfl ?_
      refine J_goto (tgt := 79) Y dX0_admit_103 (by decide) ?_
      refine J_sub [1, 2, 3, 0] rfl ?_
      exact ih o0 v3 v4 (v5 + (1 : Int32)) ho0 t99
set_option maxRecDepth 100000 in
set_option maxHeartbeats 4000000 in
theorem j_X0_admit {E : JE} {G : JG} (X : JC E 6 cX0_admit RX0 (some .int) 0 0 G) (o0 : Nat) (v1 : Int32) (v2 : Int32) (v3 : Int32) (ho0 : isCo o0) (σ : ST) : Jg E 6 (JF E vI) [(0, .ref (gO G o0)), (1, .int v1), (2, .int v2), (3, .int v3)] 0 [] σ (f_X0_admit (gT G) o0 v1 v2 v3 σ) := by
  have Y := X.1
  unfold f_X0_admit
  refine J_aload_n Y 0 dX0_admit_0 rfl rfl ?_
  refine C_get 9 X uw_X0 (cO_co G _ ho0) rfl (by decide) rfl wfl_RX0_46 rfl dX0_admit_1 ?_
  refine J_bipush (v := (6 : Int32)) Y dX0_admit_4 (by decide) ?_
  refine J_icmp_lt (tgt := 12) Y dX0_admit_6 (by decide) ?_ ?_
  · refine J_aload_n Y 0 dX0_admit_12 rfl rfl ?_
    refine C_get 9 X uw_X0 (cO_co G _ ho0) rfl (by decide) rfl wfl_RX0_46 rfl dX0_admit_13 ?_
    refine J_istore [(4, .int (gs o0 9 σ)), (0, .ref (gO G o0)), (1, .int v1), (2, .int v2), (3, .int v3)] Y dX0_admit_16 (by decide) rfl ?_
    refine J_aload_n Y 1 dX0_admit_18 rfl rfl ?_
    refine J_dup Y dX0_admit_19 rfl ?_
    refine C_get 9 X uw_X0 (cO_co G _ ho0) rfl (by decide) rfl wfl_RX0_46 rfl dX0_admit_20 ?_
    refine J_iconst (v := (1 : Int32)) Y dX0_admit_23 (by decide) ?_
    refine J_iadd Y dX0_admit_24 ?_
    refine C_put 9 o0 (ty := .int) X uw_X0 tyX0 tyX0_ok nmX0 (cO_co G _ ho0) rfl (by decide) rfl wfl_RX0_46 rfl rfl (by decide +kernel) rfl (Nat.le_of_ble_eq_true rfl) (cF_co_9 G _ _ ho0) dX0_admit_25 (fun t25 => ?_)
    refine J_aload_n Y 1 dX0_admit_28 rfl rfl ?_
    refine C_get 2 X uw_X0 (cO_co G _ ho0) rfl (by decide) rfl wfl_RX0_9 rfl dX0_admit_29 ?_
    refine J_iload Y 0 dX0_admit_32 rfl ?_
    refine J_iload_n Y 2 dX0_admit_34 rfl rfl ?_
    refine C_ast X (cA_co_2 G _ ho0) (cS_co_2 G _ ho0) dX0_admit_35 (fun t35 => ?_)
    refine J_aload_n Y 1 dX0_admit_36 rfl rfl ?_
    refine C_get 3 X uw_X0 (cO_co G _ ho0) rfl (by decide) rfl wfl_RX0_15 rfl dX0_admit_37 ?_
    refine J_iload Y 0 dX0_admit_40 rfl ?_
    refine J_iload_n Y 3 dX0_admit_42 rfl rfl ?_
    refine C_ast X (cA_co_3 G _ ho0) (cS_co_3 G _ ho0) dX0_admit_43 (fun t43 => ?_)
    refine J_aload_n Y 1 dX0_admit_44 rfl rfl ?_
    refine C_get 4 X uw_X0 (cO_co G _ ho0) rfl (by decide) rfl wfl_RX0_18 rfl dX0_admit_45 ?_
    refine J_iload Y 0 dX0_admit_48 rfl ?_
    refine J_iconst (v := (0 : Int32)) Y dX0_admit_50 (by decide) ?_
    refine C_ast X (cA_co_4 G _ ho0) (cS_co_4 G _ ho0) dX0_admit_51 (fun t51 => ?_)
    refine J_aload_n Y 1 dX0_admit_52 rfl rfl ?_
    refine C_get 5 X uw_X0 (cO_co G _ ho0) rfl (by decide) rfl wfl_RX0_21 rfl dX0_admit_53 ?_
    refine J_iload Y 0 dX0_admit_56 rfl ?_
    refine J_iconst (v := (0 : Int32)) Y dX0_admit_58 (by decide) ?_
    refine C_ast X (cA_co_5 G _ ho0) (cS_co_5 G _ ho0) dX0_admit_59 (fun t59 => ?_)
    refine J_aload_n Y 1 dX0_admit_60 rfl rfl ?_
    refine C_get 6 X uw_X0 (cO_co G _ ho0) rfl (by decide) rfl wfl_RX0_24 rfl dX0_admit_61 ?_
    refine J_iload Y 0 dX0_admit_64 rfl ?_
    refine J_iconst (v := (-1 : Int32)) Y dX0_admit_66 (by decide) ?_
    refine C_ast X (cA_co_6 G _ ho0) (cS_co_6 G _ ho0) dX0_admit_67 (fun t67 => ?_)
    refine J_aload_n Y 1 dX0_admit_68 rfl rfl ?_
    refine C_get 7 X uw_X0 (cO_co G _ ho0) rfl (by decide) rfl wfl_RX0_27 rfl dX0_admit_69 ?_
    refine J_iload Y 0 dX0_admit_72 rfl ?_
    refine J_iconst (v := (0 : Int32)) Y dX0_admit_74 (by decide) ?_
    refine C_ast X (cA_co_7 G _ ho0) (cS_co_7 G _ ho0) dX0_admit_75 (fun t75 => ?_)
    refine J_iconst (v := (0 : Int32)) Y dX0_admit_76 (by decide) ?_
    refine J_istore [(5, .int (0 : Int32)), (4, .int (gs o0 9 σ)), (0, .ref (gO G o0)), (1, .int v1), (2, .int v2), (3, .int v3)] Y dX0_admit_77 (by decide) rfl ?_
    refine J_sub [2, 5, 1, 0] rfl ?_
    exact j_X0_admit_L79 X 1000 o0 v3 (gs o0 9 σ) (0 : Int32) ho0 t75
  · refine J_bipush (v := (-4 : Int32)) Y dX0_admit_9 (by decide) ?_
    exact J_ireturn Y dX0_admit_11
theorem c_X0_admit (G : JG) (o0 : Nat) (v1 : Int32) (v2 : Int32) (v3 : Int32) (ho0 : isCo o0) (σ : ST) : Con (VC G) vI G.1 yX0_admit cX0_admit 6 (some .int) 0 0 [.ref (gO G o0), .int v1, .int v2, .int v3] σ (f_X0_admit (gT G) o0 v1 v2 v3 σ) :=
  Con_of (VC_ok G) (by decide +kernel) (Nat.le_of_ble_eq_true rfl) (fun E e1 e2 _ X => j_X0_admit ⟨X, e1, e2⟩ o0 v1 v2 v3 ho0 σ)
set_option maxRecDepth 100000 in
set_option maxHeartbeats 4000000 in
theorem j_X0_setState_L49 {E : JE} {G : JG} (X : JC E 5 cX0_setState RX0 (some .int) 0 0 G) (v4 : Int32) (σ : ST) : Jg E 5 (JF E vI) [(4, .int v4)] 49 [] σ (f_X0_setState_L49 (gT G) v4 σ) := by
  have Y := X.1
  unfold f_X0_setState_L49
  refine J_iload Y 0 dX0_setState_49 rfl ?_
  exact J_ireturn Y dX0_setState_51
set_option maxRecDepth 100000 in
set_option maxHeartbeats 4000000 in
theorem j_X0_setState {E : JE} {G : JG} (X : JC E 5 cX0_setState RX0 (some .int) 0 0 G) (o0 : Nat) (v1 : Int32) (v2 : Int32) (v3 : Int32) (ho0 : isCo o0) (σ : ST) : Jg E 5 (JF E vI) [(0, .ref (gO G o0)), (1, .int v1), (2, .int v2), (3, .int v3)] 0 [] σ (f_X0_setState (gT G) o0 v1 v2 v3 σ) := by
  have Y := X.1
  unfold f_X0_setState
  refine J_iload_n Y 2 dX0_setState_0 rfl rfl ?_
  refine J_bipush (v := (8 : Int32)) Y dX0_setState_1 (by decide) ?_
  refine J_icmp_ne (tgt := 24) Y dX0_setState_3 (by decide) ?_ ?_
  · refine J_aload_n Y 0 dX0_setState_24 rfl rfl ?_
    refine C_get 8 X uw_X0 (cO_co G _ ho0) rfl (by decide) rfl wfl_RX0_30 rfl dX0_setState_25 ?_
    refine J_iload_n Y 1 dX0_setState_28 rfl rfl ?_
    refine J_bipush (v := (8 : Int32)) Y dX0_setState_29 (by decide) ?_
    refine J_imul Y dX0_setState_31 ?_
    refine J_iload_n Y 2 dX0_setState_32 rfl rfl ?_
    refine J_iadd Y dX0_setState_33 ?_
    refine C_ald X (cA_co_8 G _ ho0) dX0_setState_34 (fun x34 => ?_)
    refine J_istore [(4, .int x34), (0, .ref (gO G o0)), (1, .int v1), (2, .int v2), (3, .int v3)] Y dX0_setState_35 (by decide) rfl ?_
    refine J_aload_n Y 1 dX0_setState_37 rfl rfl ?_
    refine C_get 8 X uw_X0 (cO_co G _ ho0) rfl (by decide) rfl wfl_RX0_30 rfl dX0_setState_38 ?_
    refine J_iload_n Y 2 dX0_setState_41 rfl rfl ?_
    refine J_bipush (v := (8 : Int32)) Y dX0_setState_42 (by decide) ?_
    refine J_imul Y dX0_setState_44 ?_
    refine J_iload_n Y 3 dX0_setState_45 rfl rfl ?_
    refine J_iadd Y dX0_setState_46 ?_
    refine J_iload_n Y 4 dX0_setState_47 rfl rfl ?_
    refine C_ast X (cA_co_8 G _ ho0) (cS_co_8 G _ ho0) dX0_setState_48 (fun t48 => ?_)
    refine J_sub [0] rfl ?_
    exact j_X0_setState_L49 X x34 t48
  · refine J_aload_n Y 0 dX0_setState_6 rfl rfl ?_
    refine C_get 4 X uw_X0 (cO_co G _ ho0) rfl (by decide) rfl wfl_RX0_18 rfl dX0_setState_7 ?_
    refine J_iload_n Y 1 dX0_setState_10 rfl rfl ?_
    refine C_ald X (cA_co_4 G _ ho0) dX0_setState_11 (fun x11 => ?_)
    refine J_istore [(4, .int x11), (0, .ref (gO G o0)), (1, .int v1), (2, .int v2), (3, .int v3)] Y dX0_setState_12 (by decide) rfl ?_
    refine J_aload_n Y 1 dX0_setState_14 rfl rfl ?_
    refine C_get 4 X uw_X0 (cO_co G _ ho0) rfl (by decide) rfl wfl_RX0_18 rfl dX0_setState_15 ?_
    refine J_iload_n Y 2 dX0_setState_18 rfl rfl ?_
    refine J_iload_n Y 4 dX0_setState_19 rfl rfl ?_
    refine C_ast X (cA_co_4 G _ ho0) (cS_co_4 G _ ho0) dX0_setState_20 (fun t20 => ?_)
    refine J_goto (tgt := 49) Y dX0_setState_21 (by decide) ?_
    refine J_sub [0] rfl ?_
    exact j_X0_setState_L49 X x11 t20
theorem c_X0_setState (G : JG) (o0 : Nat) (v1 : Int32) (v2 : Int32) (v3 : Int32) (ho0 : isCo o0) (σ : ST) : Con (VC G) vI G.1 yX0_setState cX0_setState 5 (some .int) 0 0 [.ref (gO G o0), .int v1, .int v2, .int v3] σ (f_X0_setState (gT G) o0 v1 v2 v3 σ) :=
  Con_of (VC_ok G) (by decide +kernel) (Nat.le_of_ble_eq_true rfl) (fun E e1 e2 _ X => j_X0_setState ⟨X, e1, e2⟩ o0 v1 v2 v3 ho0 σ)
set_option maxRecDepth 100000 in
set_option maxHeartbeats 4000000 in
theorem j_X0_hasSand_L18 {E : JE} {G : JG} (X : JC E 3 cX0_hasSand RX0 (some .boolean) 0 0 G) (s0 : Int32) (σ : ST) : Jg E 3 (JF E vI) [] 18 [.int s0] σ (f_X0_hasSand_L18 (gT G) s0 σ) := by
  have Y := X.1
  unfold f_X0_hasSand_L18
  exact J_zreturn Y dX0_hasSand_18
set_option maxRecDepth 100000 in
set_option maxHeartbeats 4000000 in
theorem j_X0_hasSand {E : JE} {G : JG} (X : JC E 3 cX0_hasSand RX0 (some .boolean) 0 0 G) (o0 : Nat) (v1 : Int32) (v2 : Int32) (ho0 : isCo o0) (σ : ST) : Jg E 3 (JF E vI) [(0, .ref (gO G o0)), (1, .int v1), (2, .int v2)] 0 [] σ (f_X0_hasSand (gT G) o0 v1 v2 σ) := by
  have Y := X.1
  unfold f_X0_hasSand
  refine J_aload_n Y 0 dX0_hasSand_0 rfl rfl ?_
  refine C_get 5 X uw_X0 (cO_co G _ ho0) rfl (by decide) rfl wfl_RX0_21 rfl dX0_hasSand_1 ?_
  refine J_iload_n Y 1 dX0_hasSand_4 rfl rfl ?_
  refine C_ald X (cA_co_5 G _ ho0) dX0_hasSand_5 (fun x5 => ?_)
  refine J_iload_n Y 2 dX0_hasSand_6 rfl rfl ?_
  refine J_ishr Y dX0_hasSand_7 ?_
  refine J_iconst (v := (1 : Int32)) Y dX0_hasSand_8 (by decide) ?_
  refine J_iand Y dX0_hasSand_9 ?_
  refine J_if_eq (tgt := 17) Y dX0_hasSand_10 (by decide) ?_ ?_
  · refine J_iconst (v := (0 : Int32)) Y dX0_hasSand_17 (by decide) ?_
    refine J_sub [] rfl ?_
    exact j_X0_hasSand_L18 X (0 : Int32) σ
  · refine J_iconst (v := (1 : Int32)) Y dX0_hasSand_13 (by decide) ?_
    refine J_goto (tgt := 18) Y dX0_hasSand_14 (by decide) ?_
    refine J_sub [] rfl ?_
    exact j_X0_hasSand_L18 X (1 : Int32) σ
theorem c_X0_hasSand (G : JG) (o0 : Nat) (v1 : Int32) (v2 : Int32) (ho0 : isCo o0) (σ : ST) : Con (VC G) vI G.1 yX0_hasSand cX0_hasSand 3 (some .boolean) 0 0 [.ref (gO G o0), .int v1, .int v2] σ (f_X0_hasSand (gT G) o0 v1 v2 σ) :=
  Con_of (VC_ok G) (by decide +kernel) (Nat.le_of_ble_eq_true rfl) (fun E e1 e2 _ X => j_X0_hasSand ⟨X, e1, e2⟩ o0 v1 v2 ho0 σ)
set_option maxRecDepth 100000 in
set_option maxHeartbeats 4000000 in
theorem j_X0_firstUnseen_L23 {E : JE} {G : JG} (X : JC E 3 cX0_firstUnseen RX0 (some .int) 1 40 G) (v2 : Int32) (σ : ST) : Jg E 3 (JF E vI) [(2, .int v2)] 23 [] σ (f_X0_firstUnseen_L23 (gT G) v2 σ) := by
  have Y := X.1
  unfold f_X0_firstUnseen_L23
  refine J_iload_n Y 0 dX0_firstUnseen_23 rfl rfl ?_
  exact J_ireturn Y dX0_firstUnseen_24
set_option maxRecDepth 100000 in
set_option maxHeartbeats 4000000 in
theorem j_X0_firstUnseen_L2 {E : JE} {G : JG} (X : JC E 3 cX0_firstUnseen RX0 (some .int) 1 40 G) : ∀ (n : Nat) (o0 : Nat) (v1 : Int32) (v2 : Int32) (ho0 : isCo o0) (σ : ST), Jg E 3 (JF E vI) [(0, .ref (gO G o0)), (1, .int v1), (2, .int v2)] 2 [] σ (f_X0_firstUnseen_L2 (gT G) n o0 v1 v2 σ) := by
  have Y := X.1
  intro n
  induction n with
  | zero => intro o0 v1 v2 ho0 σ; rw [f_X0_firstUnseen_L2]; exact J_none
  | succ n ih =>
    intro o0 v1 v2 ho0 σ
    rw [f_X0_firstUnseen_L2]
    refine J_iload_n Y 2 dX0_firstUnseen_2 rfl rfl ?_
    refine J_bipush (v := (8 : Int32)) Y dX0_firstUnseen_3 (by decide) ?_
    refine J_icmp_ge (tgt := 23) Y dX0_firstUnseen_5 (by decide) ?_ ?_
    · refine J_sub [2] rfl ?_
      exact j_X0_firstUnseen_L23 X v2 σ
    · refine J_aload_n Y 0 dX0_firstUnseen_8 rfl rfl ?_
      refine J_iload_n Y 1 dX0_firstUnseen_9 rfl rfl ?_
      refine J_iload_n Y 2 dX0_firstUnseen_10 rfl rfl ?_
      refine C_cVi (As := [.int v1, .int v2]) (st := []) rfl X (c_X0_hasSand G o0 v1 v2 ho0 _) (cO_co G _ ho0) rfl rfl wi_X0_hasSand win_X0_hasSand wse_X0_hasSand wml_RX0_56 ⟨Nat.le_of_ble_eq_true rfl, Nat.le_of_ble_eq_true rfl⟩ rfl (Nat.le_of_ble_eq_true rfl) dX0_firstUnseen_11 (fun y11 t11 => ?_)
      refine J_if_eq (tgt := 23) Y dX0_firstUnseen_14 (by decide) ?_ ?_
      · refine J_sub [2] rfl ?_
        exact j_X0_firstUnseen_L23 X v2 t11
      · refine J_iinc (v := v2 + (1 : Int32)) [(2, .int (v2 + (1 : Int32))), (0, .ref (gO G o0)), (1, .int v1)] Y 2 dX0_firstUnseen_17 rfl (congrArg (fun z => _ + z) (by decide)) (by decide) rfl ?_
        refine J_goto (tgt := 2) Y dX0_firstUnseen_20 (by decide) ?_
        refine J_sub [1, 2, 0] rfl ?_
        exact ih o0 v1 (v2 + (1 : Int32)) ho0 t11
set_option maxRecDepth 100000 in
set_option maxHeartbeats 4000000 in
theorem j_X0_firstUnseen {E : JE} {G : JG} (X : JC E 3 cX0_firstUnseen RX0 (some .int) 1 40 G) (o0 : Nat) (v1 : Int32) (ho0 : isCo o0) (σ : ST) : Jg E 3 (JF E vI) [(0, .ref (gO G o0)), (1, .int v1)] 0 [] σ (f_X0_firstUnseen (gT G) o0 v1 σ) := by
  have Y := X.1
  unfold f_X0_firstUnseen
  refine J_iconst (v := (0 : Int32)) Y dX0_firstUnseen_0 (by decide) ?_
  refine J_istore_n [(2, .int (0 : Int32)), (0, .ref (gO G o0)), (1, .int v1)] Y dX0_firstUnseen_1 rfl (by decide) rfl ?_
  refine J_sub [1, 2, 0] rfl ?_
  exact j_X0_firstUnseen_L2 X 1000 o0 v1 (0 : Int32) ho0 σ
theorem c_X0_firstUnseen (G : JG) (o0 : Nat) (v1 : Int32) (ho0 : isCo o0) (σ : ST) : Con (VC G) vI G.1 yX0_firstUnseen cX0_firstUnseen 3 (some .int) 1 40 [.ref (gO G o0), .int v1] σ (f_X0_firstUnseen (gT G) o0 v1 σ) :=
  Con_of (VC_ok G) (by decide +kernel) (Nat.le_of_ble_eq_true rfl) (fun E e1 e2 _ X => j_X0_firstUnseen ⟨X, e1, e2⟩ o0 v1 ho0 σ)
set_option maxRecDepth 100000 in
set_option maxHeartbeats 4000000 in
theorem j_X0_whoIsIn_L28 {E : JE} {G : JG} (X : JC E 4 cX0_whoIsIn RX0 (some .int) 0 0 G) {k4 : Nat → Int32 → Int32 → Int32 → ST → Option (Int32 × ST)} (hk4 : ∀ (o0 : Nat) (v1 : Int32) (v2 : Int32) (v3 : Int32) (ho0 : isCo o0) (σ : ST), Jg E 4 (JF E vI) [(0, .ref (gO G o0)), (1, .int v1), (2, .int v2), (3, .int v3)] 4 [] σ (k4 o0 v1 v2 v3 σ)) (o0 : Nat) (v1 : Int32) (v2 : Int32) (v3 : Int32) (ho0 : isCo o0) (σ : ST) : Jg E 4 (JF E vI) [(0, .ref (gO G o0)), (1, .int v1), (2, .int v2), (3, .int v3)] 28 [] σ (f_X0_whoIsIn_L28 (gT G) k4 o0 v1 v2 v3 σ) := by
  have Y := X.1
  unfold f_X0_whoIsIn_L28
  refine J_iinc (v := v3 + (1 : Int32)) [(3, .int (v3 + (1 : Int32))), (0, .ref (gO G o0)), (1, .int v1), (2, .int v2)] Y 3 dX0_whoIsIn_28 rfl (congrArg (fun z => _ + z) (by decide)) (by decide) rfl ?_
  refine J_goto (tgt := 4) Y dX0_whoIsIn_31 (by decide) ?_
  refine J_sub [1, 2, 3, 0] rfl ?_
  exact hk4 o0 v1 v2 (v3 + (1 : Int32)) ho0 σ
set_option maxRecDepth 100000 in
set_option maxHeartbeats 4000000 in
theorem j_X0_whoIsIn_L4 {E : JE} {G : JG} (X : JC E 4 cX0_whoIsIn RX0 (some .int) 0 0 G) : ∀ (n : Nat) (o0 : Nat) (v1 : Int32) (v2 : Int32) (v3 : Int32) (ho0 : isCo o0) (σ : ST), Jg E 4 (JF E vI) [(0, .ref (gO G o0)), (1, .int v1), (2, .int v2), (3, .int v3)] 4 [] σ (f_X0_whoIsIn_L4 (gT G) n o0 v1 v2 v3 σ) := by
  have Y := X.1
  intro n
  induction n with
  | zero => intro o0 v1 v2 v3 ho0 σ; rw [f_X0_whoIsIn_L4]; exact J_none
  | succ n ih =>
    intro o0 v1 v2 v3 ho0 σ
    rw [f_X0_whoIsIn_L4]
    refine J_iload_n Y 3 dX0_whoIsIn_4 rfl rfl ?_
    refine J_aload_n Y 0 dX0_whoIsIn_5 rfl rfl ?_
    refine C_get 9 X uw_X0 (cO_co G _ ho0) rfl (by decide) rfl wfl_RX0_46 rfl dX0_whoIsIn_6 ?_
    refine J_icmp_ge (tgt := 34) Y dX0_whoIsIn_9 (by decide) ?_ ?_
    · refine J_iload_n Y 2 dX0_whoIsIn_34 rfl rfl ?_
      exact J_ireturn Y dX0_whoIsIn_35
    · refine J_aload_n Y 0 dX0_whoIsIn_12 rfl rfl ?_
      refine C_get 6 X uw_X0 (cO_co G _ ho0) rfl (by decide) rfl wfl_RX0_24 rfl dX0_whoIsIn_13 ?_
      refine J_iload_n Y 3 dX0_whoIsIn_16 rfl rfl ?_
      refine C_ald X (cA_co_6 G _ ho0) dX0_whoIsIn_17 (fun x17 => ?_)
      refine J_iload_n Y 1 dX0_whoIsIn_18 rfl rfl ?_
      refine J_icmp_ne (tgt := 28) Y dX0_whoIsIn_19 (by decide) ?_ ?_
      · exact j_X0_whoIsIn_L28 X (fun o0 v1 v2 v3 ho0 σ => ih o0 v1 v2 v3 ho0 σ) o0 v1 v2 v3 ho0 σ
      · refine J_iload_n Y 2 dX0_whoIsIn_22 rfl rfl ?_
        refine J_iconst (v := (1 : Int32)) Y dX0_whoIsIn_23 (by decide) ?_
        refine J_iload_n Y 3 dX0_whoIsIn_24 rfl rfl ?_
        refine J_ishl Y dX0_whoIsIn_25 ?_
        refine J_ior Y dX0_whoIsIn_26 ?_
        refine J_istore_n [(2, .int (v2 ||| ((1 : Int32) <<< (v3 &&& 31)))), (0, .ref (gO G o0)), (1, .int v1), (3, .int v3)] Y dX0_whoIsIn_27 rfl (by decide) rfl ?_
        refine J_sub [1, 2, 0, 3] rfl ?_
        exact j_X0_whoIsIn_L28 X (fun o0 v1 v2 v3 ho0 σ => ih o0 v1 v2 v3 ho0 σ) o0 v1 (v2 ||| ((1 : Int32) <<< (v3 &&& 31))) v3 ho0 σ
set_option maxRecDepth 100000 in
set_option maxHeartbeats 4000000 in
theorem j_X0_whoIsIn {E : JE} {G : JG} (X : JC E 4 cX0_whoIsIn RX0 (some .int) 0 0 G) (o0 : Nat) (v1 : Int32) (ho0 : isCo o0) (σ : ST) : Jg E 4 (JF E vI) [(0, .ref (gO G o0)), (1, .int v1)] 0 [] σ (f_X0_whoIsIn (gT G) o0 v1 σ) := by
  have Y := X.1
  unfold f_X0_whoIsIn
  refine J_iconst (v := (0 : Int32)) Y dX0_whoIsIn_0 (by decide) ?_
  refine J_istore_n [(2, .int (0 : Int32)), (0, .ref (gO G o0)), (1, .int v1)] Y dX0_whoIsIn_1 rfl (by decide) rfl ?_
  refine J_iconst (v := (0 : Int32)) Y dX0_whoIsIn_2 (by decide) ?_
  refine J_istore_n [(3, .int (0 : Int32)), (2, .int (0 : Int32)), (0, .ref (gO G o0)), (1, .int v1)] Y dX0_whoIsIn_3 rfl (by decide) rfl ?_
  refine J_sub [2, 3, 1, 0] rfl ?_
  exact j_X0_whoIsIn_L4 X 1000 o0 v1 (0 : Int32) (0 : Int32) ho0 σ
theorem c_X0_whoIsIn (G : JG) (o0 : Nat) (v1 : Int32) (ho0 : isCo o0) (σ : ST) : Con (VC G) vI G.1 yX0_whoIsIn cX0_whoIsIn 4 (some .int) 0 0 [.ref (gO G o0), .int v1] σ (f_X0_whoIsIn (gT G) o0 v1 σ) :=
  Con_of (VC_ok G) (by decide +kernel) (Nat.le_of_ble_eq_true rfl) (fun E e1 e2 _ X => j_X0_whoIsIn ⟨X, e1, e2⟩ o0 v1 ho0 σ)
set_option maxRecDepth 100000 in
set_option maxHeartbeats 4000000 in
theorem j_J6_bitCount_0f7a4 {E : JE} {G : JG} (X : JC E 1 cJ6_bitCount_0f7a4 RJ6 (some .int) 0 0 G) (v0 : Int32) (σ : ST) : Jg E 1 (JF E vI) [(0, .int v0)] 0 [] σ (f_J6_bitCount_0f7a4 (gT G) v0 σ) := by
  have Y := X.1
  unfold f_J6_bitCount_0f7a4
  refine J_iload_n Y 0 dJ6_bitCount_0f7a4_0 rfl rfl ?_
  refine J_iload_n Y 0 dJ6_bitCount_0f7a4_1 rfl rfl ?_
  refine J_iconst (v := (1 : Int32)) Y dJ6_bitCount_0f7a4_2 (by decide) ?_
  refine J_iushr Y dJ6_bitCount_0f7a4_3 ?_
  refine J_ldcw (v := (1431655765 : Int32)) Y wcn_RJ6_265 dJ6_bitCount_0f7a4_4 ?_
  refine J_iand Y dJ6_bitCount_0f7a4_7 ?_
  refine J_isub Y dJ6_bitCount_0f7a4_8 ?_
  refine J_istore_n [(0, .int (v0 - (((v0.toUInt32 >>> ((1 : Int32).toUInt32 &&& Int32.toUInt32 31)).toInt32) &&& (1431655765 : Int32))))] Y dJ6_bitCount_0f7a4_9 rfl (by decide) rfl ?_
  refine J_iload_n Y 0 dJ6_bitCount_0f7a4_10 rfl rfl ?_
  refine J_ldcw (v := (858993459 : Int32)) Y wcn_RJ6_266 dJ6_bitCount_0f7a4_11 ?_
  refine J_iand Y dJ6_bitCount_0f7a4_14 ?_
  refine J_iload_n Y 0 dJ6_bitCount_0f7a4_15 rfl rfl ?_
  refine J_iconst (v := (2 : Int32)) Y dJ6_bitCount_0f7a4_16 (by decide) ?_
  refine J_iushr Y dJ6_bitCount_0f7a4_17 ?_
  refine J_ldcw (v := (858993459 : Int32)) Y wcn_RJ6_266 dJ6_bitCount_0f7a4_18 ?_
  refine J_iand Y dJ6_bitCount_0f7a4_21 ?_
  refine J_iadd Y dJ6_bitCount_0f7a4_22 ?_
  refine J_istore_n [(0, .int (((v0 - (((v0.toUInt32 >>> ((1 : Int32).toUInt32 &&& Int32.toUInt32 31)).toInt32) &&& (1431655765 : Int32))) &&& (858993459 : Int32)) + ((((v0 - (((v0.toUInt32 >>> ((1 : Int32).toUInt32 &&& Int32.toUInt32 31)).toInt32) &&& (1431655765 : Int32))).toUInt32 >>> ((2 : Int32).toUInt32 &&& Int32.toUInt32 31)).toInt32) &&& (858993459 : Int32))))] Y dJ6_bitCount_0f7a4_23 rfl (by decide) rfl ?_
  refine J_iload_n Y 0 dJ6_bitCount_0f7a4_24 rfl rfl ?_
  refine J_iload_n Y 0 dJ6_bitCount_0f7a4_25 rfl rfl ?_
  refine J_iconst (v := (4 : Int32)) Y dJ6_bitCount_0f7a4_26 (by decide) ?_
  refine J_iushr Y dJ6_bitCount_0f7a4_27 ?_
  refine J_iadd Y dJ6_bitCount_0f7a4_28 ?_
  refine J_ldcw (v := (252645135 : Int32)) Y wcn_RJ6_267 dJ6_bitCount_0f7a4_29 ?_
  refine J_iand Y dJ6_bitCount_0f7a4_32 ?_
  refine J_istore_n [(0, .int (((((v0 - (((v0.toUInt32 >>> ((1 : Int32).toUInt32 &&& Int32.toUInt32 31)).toInt32) &&& (1431655765 : Int32))) &&& (858993459 : Int32)) + ((((v0 - (((v0.toUInt32 >>> ((1 : Int32).toUInt32 &&& Int32.toUInt32 31)).toInt32) &&& (1431655765 : Int32))).toUInt32 >>> ((2 : Int32).toUInt32 &&& Int32.toUInt32 31)).toInt32) &&& (858993459 : Int32))) + (((((v0 - (((v0.toUInt32 >>> ((1 : Int32).toUInt32 &&& Int32.toUInt32 31)).toInt32) &&& (1431655765 : Int32))) &&& (858993459 : Int32)) + ((((v0 - (((v0.toUInt32 >>> ((1 : Int32).toUInt32 &&& Int32.toUInt32 31)).toInt32) &&& (1431655765 : Int32))).toUInt32 >>> ((2 : Int32).toUInt32 &&& Int32.toUInt32 31)).toInt32) &&& (858993459 : Int32))).toUInt32 >>> ((4 : Int32).toUInt32 &&& Int32.toUInt32 31)).toInt32)) &&& (252645135 : Int32)))] Y dJ6_bitCount_0f7a4_33 rfl (by decide) rfl ?_
  refine J_iload_n Y 0 dJ6_bitCount_0f7a4_34 rfl rfl ?_
  refine J_iload_n Y 0 dJ6_bitCount_0f7a4_35 rfl rfl ?_
  refine J_bipush (v := (8 : Int32)) Y dJ6_bitCount_0f7a4_36 (by decide) ?_
  refine J_iushr Y dJ6_bitCount_0f7a4_38 ?_
  refine J_iadd Y dJ6_bitCount_0f7a4_39 ?_
  refine J_istore_n [(0, .int ((((((v0 - (((v0.toUInt32 >>> ((1 : Int32).toUInt32 &&& Int32.toUInt32 31)).toInt32) &&& (1431655765 : Int32))) &&& (858993459 : Int32)) + ((((v0 - (((v0.toUInt32 >>> ((1 : Int32).toUInt32 &&& Int32.toUInt32 31)).toInt32) &&& (1431655765 : Int32))).toUInt32 >>> ((2 : Int32).toUInt32 &&& Int32.toUInt32 31)).toInt32) &&& (858993459 : Int32))) + (((((v0 - (((v0.toUInt32 >>> ((1 : Int32).toUInt32 &&& Int32.toUInt32 31)).toInt32) &&& (1431655765 : Int32))) &&& (858993459 : Int32)) + ((((v0 - (((v0.toUInt32 >>> ((1 : Int32).toUInt32 &&& Int32.toUInt32 31)).toInt32) &&& (1431655765 : Int32))).toUInt32 >>> ((2 : Int32).toUInt32 &&& Int32.toUInt32 31)).toInt32) &&& (858993459 : Int32))).toUInt32 >>> ((4 : Int32).toUInt32 &&& Int32.toUInt32 31)).toInt32)) &&& (252645135 : Int32)) + (((((((v0 - (((v0.toUInt32 >>> ((1 : Int32).toUInt32 &&& Int32.toUInt32 31)).toInt32) &&& (1431655765 : Int32))) &&& (858993459 : Int32)) + ((((v0 - (((v0.toUInt32 >>> ((1 : Int32).toUInt32 &&& Int32.toUInt32 31)).toInt32) &&& (1431655765 : Int32))).toUInt32 >>> ((2 : Int32).toUInt32 &&& Int32.toUInt32 31)).toInt32) &&& (858993459 : Int32))) + (((((v0 - (((v0.toUInt32 >>> ((1 : Int32).toUInt32 &&& Int32.toUInt32 31)).toInt32) &&& (1431655765 : Int32))) &&& (858993459 : Int32)) + ((((v0 - (((v0.toUInt32 >>> ((1 : Int32).toUInt32 &&& Int32.toUInt32 31)).toInt32) &&& (1431655765 : Int32))).toUInt32 >>> ((2 : Int32).toUInt32 &&& Int32.toUInt32 31)).toInt32) &&& (858993459 : Int32))).toUInt32 >>> ((4 : Int32).toUInt32 &&& Int32.toUInt32 31)).toInt32)) &&& (252645135 : Int32)).toUInt32 >>> ((8 : Int32).toUInt32 &&& Int32.toUInt32 31)).toInt32)))] Y dJ6_bitCount_0f7a4_40 rfl (by decide) rfl ?_
  refine J_iload_n Y 0 dJ6_bitCount_0f7a4_41 rfl rfl ?_
  refine J_iload_n Y 0 dJ6_bitCount_0f7a4_42 rfl rfl ?_
  refine J_bipush (v := (16 : Int32)) Y dJ6_bitCount_0f7a4_43 (by decide) ?_
  refine J_iushr Y dJ6_bitCount_0f7a4_45 ?_
  refine J_iadd Y dJ6_bitCount_0f7a4_46 ?_
  refine J_istore_n [(0, .int (((((((v0 - (((v0.toUInt32 >>> ((1 : Int32).toUInt32 &&& Int32.toUInt32 31)).toInt32) &&& (1431655765 : Int32))) &&& (858993459 : Int32)) + ((((v0 - (((v0.toUInt32 >>> ((1 : Int32).toUInt32 &&& Int32.toUInt32 31)).toInt32) &&& (1431655765 : Int32))).toUInt32 >>> ((2 : Int32).toUInt32 &&& Int32.toUInt32 31)).toInt32) &&& (858993459 : Int32))) + (((((v0 - (((v0.toUInt32 >>> ((1 : Int32).toUInt32 &&& Int32.toUInt32 31)).toInt32) &&& (1431655765 : Int32))) &&& (858993459 : Int32)) + ((((v0 - (((v0.toUInt32 >>> ((1 : Int32).toUInt32 &&& Int32.toUInt32 31)).toInt32) &&& (1431655765 : Int32))).toUInt32 >>> ((2 : Int32).toUInt32 &&& Int32.toUInt32 31)).toInt32) &&& (858993459 : Int32))).toUInt32 >>> ((4 : Int32).toUInt32 &&& Int32.toUInt32 31)).toInt32)) &&& (252645135 : Int32)) + (((((((v0 - (((v0.toUInt32 >>> ((1 : Int32).toUInt32 &&& Int32.toUInt32 31)).toInt32) &&& (1431655765 : Int32))) &&& (858993459 : Int32)) + ((((v0 - (((v0.toUInt32 >>> ((1 : Int32).toUInt32 &&& Int32.toUInt32 31)).toInt32) &&& (1431655765 : Int32))).toUInt32 >>> ((2 : Int32).toUInt32 &&& Int32.toUInt32 31)).toInt32) &&& (858993459 : Int32))) + (((((v0 - (((v0.toUInt32 >>> ((1 : Int32).toUInt32 &&& Int32.toUInt32 31)).toInt32) &&& (1431655765 : Int32))) &&& (858993459 : Int32)) + ((((v0 - (((v0.toUInt32 >>> ((1 : Int32).toUInt32 &&& Int32.toUInt32 31)).toInt32) &&& (1431655765 : Int32))).toUInt32 >>> ((2 : Int32).toUInt32 &&& Int32.toUInt32 31)).toInt32) &&& (858993459 : Int32))).toUInt32 >>> ((4 : Int32).toUInt32 &&& Int32.toUInt32 31)).toInt32)) &&& (252645135 : Int32)).toUInt32 >>> ((8 : Int32).toUInt32 &&& Int32.toUInt32 31)).toInt32)) + ((((((((v0 - (((v0.toUInt32 >>> ((1 : Int32).toUInt32 &&& Int32.toUInt32 31)).toInt32) &&& (1431655765 : Int32))) &&& (858993459 : Int32)) + ((((v0 - (((v0.toUInt32 >>> ((1 : Int32).toUInt32 &&& Int32.toUInt32 31)).toInt32) &&& (1431655765 : Int32))).toUInt32 >>> ((2 : Int32).toUInt32 &&& Int32.toUInt32 31)).toInt32) &&& (858993459 : Int32))) + (((((v0 - (((v0.toUInt32 >>> ((1 : Int32).toUInt32 &&& Int32.toUInt32 31)).toInt32) &&& (1431655765 : Int32))) &&& (858993459 : Int32)) + ((((v0 - (((v0.toUInt32 >>> ((1 : Int32).toUInt32 &&& Int32.toUInt32 31)).toInt32) &&& (1431655765 : Int32))).toUInt32 >>> ((2 : Int32).toUInt32 &&& Int32.toUInt32 31)).toInt32) &&& (858993459 : Int32))).toUInt32 >>> ((4 : Int32).toUInt32 &&& Int32.toUInt32 31)).toInt32)) &&& (252645135 : Int32)) + (((((((v0 - (((v0.toUInt32 >>> ((1 : Int32).toUInt32 &&& Int32.toUInt32 31)).toInt32) &&& (1431655765 : Int32))) &&& (858993459 : Int32)) + ((((v0 - (((v0.toUInt32 >>> ((1 : Int32).toUInt32 &&& Int32.toUInt32 31)).toInt32) &&& (1431655765 : Int32))).toUInt32 >>> ((2 : Int32).toUInt32 &&& Int32.toUInt32 31)).toInt32) &&& (858993459 : Int32))) + (((((v0 - (((v0.toUInt32 >>> ((1 : Int32).toUInt32 &&& Int32.toUInt32 31)).toInt32) &&& (1431655765 : Int32))) &&& (858993459 : Int32)) + ((((v0 - (((v0.toUInt32 >>> ((1 : Int32).toUInt32 &&& Int32.toUInt32 31)).toInt32) &&& (1431655765 : Int32))).toUInt32 >>> ((2 : Int32).toUInt32 &&& Int32.toUInt32 31)).toInt32) &&& (858993459 : Int32))).toUInt32 >>> ((4 : Int32).toUInt32 &&& Int32.toUInt32 31)).toInt32)) &&& (252645135 : Int32)).toUInt32 >>> ((8 : Int32).toUInt32 &&& Int32.toUInt32 31)).toInt32)).toUInt32 >>> ((16 : Int32).toUInt32 &&& Int32.toUInt32 31)).toInt32)))] Y dJ6_bitCount_0f7a4_47 rfl (by decide) rfl ?_
  refine J_iload_n Y 0 dJ6_bitCount_0f7a4_48 rfl rfl ?_
  refine J_bipush (v := (63 : Int32)) Y dJ6_bitCount_0f7a4_49 (by decide) ?_
  refine J_iand Y dJ6_bitCount_0f7a4_51 ?_
  exact J_ireturn Y dJ6_bitCount_0f7a4_52
theorem c_J6_bitCount_0f7a4 (G : JG) (v0 : Int32) (σ : ST) : Con (VC G) vI G.1 yJ6_bitCount_0f7a4 cJ6_bitCount_0f7a4 1 (some .int) 0 0 [.int v0] σ (f_J6_bitCount_0f7a4 (gT G) v0 σ) :=
  Con_of (VC_ok G) (by decide +kernel) (Nat.le_of_ble_eq_true rfl) (fun E e1 e2 _ X => j_J6_bitCount_0f7a4 ⟨X, e1, e2⟩ v0 σ)
set_option maxRecDepth 100000 in
set_option maxHeartbeats 4000000 in
theorem j_X0_howManyHere {E : JE} {G : JG} (X : JC E 1 cX0_howManyHere RX0 (some .int) 1 40 G) (o0 : Nat) (ho0 : isCo o0) (σ : ST) : Jg E 1 (JF E vI) [(0, .ref (gO G o0))] 0 [] σ (f_X0_howManyHere (gT G) o0 σ) := by
  have Y := X.1
  unfold f_X0_howManyHere
  refine J_aload_n Y 0 dX0_howManyHere_0 rfl rfl ?_
  refine J_iconst (v := (-1 : Int32)) Y dX0_howManyHere_1 (by decide) ?_
  refine C_cVi (As := [.int (-1 : Int32)]) (st := []) rfl X (c_X0_whoIsIn G o0 (-1 : Int32) ho0 _) (cO_co G _ ho0) rfl rfl wi_X0_whoIsIn win_X0_whoIsIn wse_X0_whoIsIn wml_RX0_60 ⟨Nat.le_of_ble_eq_true rfl, Nat.le_of_ble_eq_true rfl⟩ rfl (Nat.le_of_ble_eq_true rfl) dX0_howManyHere_2 (fun y2 t2 => ?_)
  refine C_cSi (As := [.int y2]) (st := []) rfl X (c_J6_bitCount_0f7a4 G y2 _) wi_J6_bitCount_0f7a4 wst_J6_bitCount_0f7a4 wml_RX0_64 ⟨Nat.le_of_ble_eq_true rfl, Nat.le_of_ble_eq_true rfl⟩ rfl (Nat.le_of_ble_eq_true rfl) dX0_howManyHere_5 (fun y5 t5 => ?_)
  exact J_ireturn Y dX0_howManyHere_8
theorem c_X0_howManyHere (G : JG) (o0 : Nat) (ho0 : isCo o0) (σ : ST) : Con (VC G) vI G.1 yX0_howManyHere cX0_howManyHere 1 (some .int) 1 40 [.ref (gO G o0)] σ (f_X0_howManyHere (gT G) o0 σ) :=
  Con_of (VC_ok G) (by decide +kernel) (Nat.le_of_ble_eq_true rfl) (fun E e1 e2 _ X => j_X0_howManyHere ⟨X, e1, e2⟩ o0 ho0 σ)
set_option maxRecDepth 100000 in
set_option maxHeartbeats 4000000 in
theorem j_X0_mostLeft_L4 {E : JE} {G : JG} (X : JC E 3 cX0_mostLeft RX0 (some .int) 1 40 G) : ∀ (n : Nat) (o0 : Nat) (v1 : Int32) (v2 : Int32) (ho0 : isCo o0) (σ : ST), Jg E 3 (JF E vI) [(0, .ref (gO G o0)), (1, .int v1), (2, .int v2)] 4 [] σ (f_X0_mostLeft_L4 (gT G) n o0 v1 v2 σ) := by
  have Y := X.1
  intro n
  induction n with
  | zero => intro o0 v1 v2 ho0 σ; rw [f_X0_mostLeft_L4]; exact J_none
  | succ n ih =>
    intro o0 v1 v2 ho0 σ
    rw [f_X0_mostLeft_L4]
    refine J_iload_n Y 2 dX0_mostLeft_4 rfl rfl ?_
    refine J_aload_n Y 0 dX0_mostLeft_5 rfl rfl ?_
    refine C_get 9 X uw_X0 (cO_co G _ ho0) rfl (by decide) rfl wfl_RX0_46 rfl dX0_mostLeft_6 ?_
    refine J_icmp_ge (tgt := 29) Y dX0_mostLeft_9 (by decide) ?_ ?_
    · refine J_iload_n Y 1 dX0_mostLeft_29 rfl rfl ?_
      exact J_ireturn Y dX0_mostLeft_30
    · refine J_iload_n Y 1 dX0_mostLeft_12 rfl rfl ?_
      refine J_aload_n Y 0 dX0_mostLeft_13 rfl rfl ?_
      refine C_get 7 X uw_X0 (cO_co G _ ho0) rfl (by decide) rfl wfl_RX0_27 rfl dX0_mostLeft_14 ?_
      refine J_iload_n Y 2 dX0_mostLeft_17 rfl rfl ?_
      refine C_ald X (cA_co_7 G _ ho0) dX0_mostLeft_18 (fun x18 => ?_)
      refine J_mmax (st := []) Y wml_RX0_69 wst_Lib_Math_max wini_RJ9 wco_Lib_Math_max (Nat.le_of_ble_eq_true rfl) (Nat.le_of_ble_eq_true rfl) dX0_mostLeft_19 ?_
      refine J_istore_n [(1, .int (mxI v1 x18)), (0, .ref (gO G o0)), (2, .int v2)] Y dX0_mostLeft_22 rfl (by decide) rfl ?_
      refine J_iinc (v := v2 + (1 : Int32)) [(2, .int (v2 + (1 : Int32))), (1, .int (mxI v1 x18)), (0, .ref (gO G o0))] Y 2 dX0_mostLeft_23 rfl (congrArg (fun z => _ + z) (by decide)) (by decide) rfl ?_
      refine J_goto (tgt := 4) Y dX0_mostLeft_26 (by decide) ?_
      refine J_sub [2, 1, 0] rfl ?_
      exact ih o0 (mxI v1 x18) (v2 + (1 : Int32)) ho0 σ
set_option maxRecDepth 100000 in
set_option maxHeartbeats 4000000 in
theorem j_X0_mostLeft {E : JE} {G : JG} (X : JC E 3 cX0_mostLeft RX0 (some .int) 1 40 G) (o0 : Nat) (ho0 : isCo o0) (σ : ST) : Jg E 3 (JF E vI) [(0, .ref (gO G o0))] 0 [] σ (f_X0_mostLeft (gT G) o0 σ) := by
  have Y := X.1
  unfold f_X0_mostLeft
  refine J_iconst (v := (0 : Int32)) Y dX0_mostLeft_0 (by decide) ?_
  refine J_istore_n [(1, .int (0 : Int32)), (0, .ref (gO G o0))] Y dX0_mostLeft_1 rfl (by decide) rfl ?_
  refine J_iconst (v := (0 : Int32)) Y dX0_mostLeft_2 (by decide) ?_
  refine J_istore_n [(2, .int (0 : Int32)), (1, .int (0 : Int32)), (0, .ref (gO G o0))] Y dX0_mostLeft_3 rfl (by decide) rfl ?_
  refine J_sub [2, 1, 0] rfl ?_
  exact j_X0_mostLeft_L4 X 1000 o0 (0 : Int32) (0 : Int32) ho0 σ
theorem c_X0_mostLeft (G : JG) (o0 : Nat) (ho0 : isCo o0) (σ : ST) : Con (VC G) vI G.1 yX0_mostLeft cX0_mostLeft 3 (some .int) 1 40 [.ref (gO G o0)] σ (f_X0_mostLeft (gT G) o0 σ) :=
  Con_of (VC_ok G) (by decide +kernel) (Nat.le_of_ble_eq_true rfl) (fun E e1 e2 _ X => j_X0_mostLeft ⟨X, e1, e2⟩ o0 ho0 σ)
set_option maxRecDepth 100000 in
set_option maxHeartbeats 4000000 in
theorem j_X0_allWit_L4 {E : JE} {G : JG} (X : JC E 3 cX0_allWit RX0 (some .int) 0 0 G) : ∀ (n : Nat) (o0 : Nat) (v1 : Int32) (v2 : Int32) (ho0 : isCo o0) (σ : ST), Jg E 3 (JF E vI) [(0, .ref (gO G o0)), (1, .int v1), (2, .int v2)] 4 [] σ (f_X0_allWit_L4 (gT G) n o0 v1 v2 σ) := by
  have Y := X.1
  intro n
  induction n with
  | zero => intro o0 v1 v2 ho0 σ; rw [f_X0_allWit_L4]; exact J_none
  | succ n ih =>
    intro o0 v1 v2 ho0 σ
    rw [f_X0_allWit_L4]
    refine J_iload_n Y 2 dX0_allWit_4 rfl rfl ?_
    refine J_aload_n Y 0 dX0_allWit_5 rfl rfl ?_
    refine C_get 9 X uw_X0 (cO_co G _ ho0) rfl (by decide) rfl wfl_RX0_46 rfl dX0_allWit_6 ?_
    refine J_icmp_ge (tgt := 27) Y dX0_allWit_9 (by decide) ?_ ?_
    · refine J_iload_n Y 1 dX0_allWit_27 rfl rfl ?_
      exact J_ireturn Y dX0_allWit_28
    · refine J_iload_n Y 1 dX0_allWit_12 rfl rfl ?_
      refine J_aload_n Y 0 dX0_allWit_13 rfl rfl ?_
      refine C_get 4 X uw_X0 (cO_co G _ ho0) rfl (by decide) rfl wfl_RX0_18 rfl dX0_allWit_14 ?_
      refine J_iload_n Y 2 dX0_allWit_17 rfl rfl ?_
      refine C_ald X (cA_co_4 G _ ho0) dX0_allWit_18 (fun x18 => ?_)
      refine J_iadd Y dX0_allWit_19 ?_
      refine J_istore_n [(1, .int (v1 + x18)), (0, .ref (gO G o0)), (2, .int v2)] Y dX0_allWit_20 rfl (by decide) rfl ?_
      refine J_iinc (v := v2 + (1 : Int32)) [(2, .int (v2 + (1 : Int32))), (1, .int (v1 + x18)), (0, .ref (gO G o0))] Y 2 dX0_allWit_21 rfl (congrArg (fun z => _ + z) (by decide)) (by decide) rfl ?_
      refine J_goto (tgt := 4) Y dX0_allWit_24 (by decide) ?_
      refine J_sub [2, 1, 0] rfl ?_
      exact ih o0 (v1 + x18) (v2 + (1 : Int32)) ho0 σ
set_option maxRecDepth 100000 in
set_option maxHeartbeats 4000000 in
theorem j_X0_allWit {E : JE} {G : JG} (X : JC E 3 cX0_allWit RX0 (some .int) 0 0 G) (o0 : Nat) (ho0 : isCo o0) (σ : ST) : Jg E 3 (JF E vI) [(0, .ref (gO G o0))] 0 [] σ (f_X0_allWit (gT G) o0 σ) := by
  have Y := X.1
  unfold f_X0_allWit
  refine J_iconst (v := (0 : Int32)) Y dX0_allWit_0 (by decide) ?_
  refine J_istore_n [(1, .int (0 : Int32)), (0, .ref (gO G o0))] Y dX0_allWit_1 rfl (by decide) rfl ?_
  refine J_iconst (v := (0 : Int32)) Y dX0_allWit_2 (by decide) ?_
  refine J_istore_n [(2, .int (0 : Int32)), (1, .int (0 : Int32)), (0, .ref (gO G o0))] Y dX0_allWit_3 rfl (by decide) rfl ?_
  refine J_sub [2, 1, 0] rfl ?_
  exact j_X0_allWit_L4 X 1000 o0 (0 : Int32) (0 : Int32) ho0 σ
theorem c_X0_allWit (G : JG) (o0 : Nat) (ho0 : isCo o0) (σ : ST) : Con (VC G) vI G.1 yX0_allWit cX0_allWit 3 (some .int) 0 0 [.ref (gO G o0)] σ (f_X0_allWit (gT G) o0 σ) :=
  Con_of (VC_ok G) (by decide +kernel) (Nat.le_of_ble_eq_true rfl) (fun E e1 e2 _ X => j_X0_allWit ⟨X, e1, e2⟩ o0 ho0 σ)
set_option maxRecDepth 100000 in
set_option maxHeartbeats 4000000 in
theorem j_X0_grainsOf_L4 {E : JE} {G : JG} (X : JC E 4 cX0_grainsOf RX0 (some .int) 0 0 G) : ∀ (n : Nat) (o0 : Nat) (v1 : Int32) (v2 : Int32) (v3 : Int32) (ho0 : isCo o0) (σ : ST), Jg E 4 (JF E vI) [(0, .ref (gO G o0)), (1, .int v1), (2, .int v2), (3, .int v3)] 4 [] σ (f_X0_grainsOf_L4 (gT G) n o0 v1 v2 v3 σ) := by
  have Y := X.1
  intro n
  induction n with
  | zero => intro o0 v1 v2 v3 ho0 σ; rw [f_X0_grainsOf_L4]; exact J_none
  | succ n ih =>
    intro o0 v1 v2 v3 ho0 σ
    rw [f_X0_grainsOf_L4]
    refine J_iload_n Y 3 dX0_grainsOf_4 rfl rfl ?_
    refine J_bipush (v := (8 : Int32)) Y dX0_grainsOf_5 (by decide) ?_
    refine J_icmp_ge (tgt := 30) Y dX0_grainsOf_7 (by decide) ?_ ?_
    · refine J_iload_n Y 2 dX0_grainsOf_30 rfl rfl ?_
      exact J_ireturn Y dX0_grainsOf_31
    · refine J_iload_n Y 2 dX0_grainsOf_10 rfl rfl ?_
      refine J_aload_n Y 0 dX0_grainsOf_11 rfl rfl ?_
      refine C_get 8 X uw_X0 (cO_co G _ ho0) rfl (by decide) rfl wfl_RX0_30 rfl dX0_grainsOf_12 ?_
      refine J_iload_n Y 1 dX0_grainsOf_15 rfl rfl ?_
      refine J_bipush (v := (8 : Int32)) Y dX0_grainsOf_16 (by decide) ?_
      refine J_imul Y dX0_grainsOf_18 ?_
      refine J_iload_n Y 3 dX0_grainsOf_19 rfl rfl ?_
      refine J_iadd Y dX0_grainsOf_20 ?_
      refine C_ald X (cA_co_8 G _ ho0) dX0_grainsOf_21 (fun x21 => ?_)
      refine J_iadd Y dX0_grainsOf_22 ?_
      refine J_istore_n [(2, .int (v2 + x21)), (0, .ref (gO G o0)), (1, .int v1), (3, .int v3)] Y dX0_grainsOf_23 rfl (by decide) rfl ?_
      refine J_iinc (v := v3 + (1 : Int32)) [(3, .int (v3 + (1 : Int32))), (2, .int (v2 + x21)), (0, .ref (gO G o0)), (1, .int v1)] Y 3 dX0_grainsOf_24 rfl (congrArg (fun z => _ + z) (by decide)) (by decide) rfl ?_
      refine J_goto (tgt := 4) Y dX0_grainsOf_27 (by decide) ?_
      refine J_sub [2, 3, 1, 0] rfl ?_
      exact ih o0 v1 (v2 + x21) (v3 + (1 : Int32)) ho0 σ
set_option maxRecDepth 100000 in
set_option maxHeartbeats 4000000 in
theorem j_X0_grainsOf {E : JE} {G : JG} (X : JC E 4 cX0_grainsOf RX0 (some .int) 0 0 G) (o0 : Nat) (v1 : Int32) (ho0 : isCo o0) (σ : ST) : Jg E 4 (JF E vI) [(0, .ref (gO G o0)), (1, .int v1)] 0 [] σ (f_X0_grainsOf (gT G) o0 v1 σ) := by
  have Y := X.1
  unfold f_X0_grainsOf
  refine J_iconst (v := (0 : Int32)) Y dX0_grainsOf_0 (by decide) ?_
  refine J_istore_n [(2, .int (0 : Int32)), (0, .ref (gO G o0)), (1, .int v1)] Y dX0_grainsOf_1 rfl (by decide) rfl ?_
  refine J_iconst (v := (0 : Int32)) Y dX0_grainsOf_2 (by decide) ?_
  refine J_istore_n [(3, .int (0 : Int32)), (2, .int (0 : Int32)), (0, .ref (gO G o0)), (1, .int v1)] Y dX0_grainsOf_3 rfl (by decide) rfl ?_
  refine J_sub [2, 3, 1, 0] rfl ?_
  exact j_X0_grainsOf_L4 X 1000 o0 v1 (0 : Int32) (0 : Int32) ho0 σ
theorem c_X0_grainsOf (G : JG) (o0 : Nat) (v1 : Int32) (ho0 : isCo o0) (σ : ST) : Con (VC G) vI G.1 yX0_grainsOf cX0_grainsOf 4 (some .int) 0 0 [.ref (gO G o0), .int v1] σ (f_X0_grainsOf (gT G) o0 v1 σ) :=
  Con_of (VC_ok G) (by decide +kernel) (Nat.le_of_ble_eq_true rfl) (fun E e1 e2 _ X => j_X0_grainsOf ⟨X, e1, e2⟩ o0 v1 ho0 σ)
set_option maxRecDepth 100000 in
set_option maxHeartbeats 4000000 in
theorem j_X0_named {E : JE} {G : JG} (X : JC E 4 cX0_named RX0 (some .int) 1 40 G) (o0 : Nat) (v1 : Int32) (v2 : Int32) (v3 : Int32) (ho0 : isCo o0) (σ : ST) : Jg E 4 (JF E vI) [(0, .ref (gO G o0)), (1, .int v1), (2, .int v2), (3, .int v3)] 0 [] σ (f_X0_named (gT G) o0 v1 v2 v3 σ) := by
  have Y := X.1
  unfold f_X0_named
  refine J_iconst (v := (-1 : Int32)) Y dX0_named_0 (by decide) ?_
  refine J_iload_n Y 1 dX0_named_1 rfl rfl ?_
  refine J_isub Y dX0_named_2 ?_
  refine J_ite (fun c3_0 => ?_) (fun c3_0 => ?_)
  · refine J_tin (tgt := 36) (0 : Int32) c3_0 Y dX0_named_3 (by decide) (by decide) rfl (by decide) ?_
    refine J_iload_n Y 3 dX0_named_36 rfl rfl ?_
    exact J_ireturn Y dX0_named_37
  refine J_ite (fun c3_1 => ?_) (fun c3_1 => ?_)
  · refine J_tin (tgt := 38) (1 : Int32) c3_1 Y dX0_named_3 (by decide) (by decide) rfl (by decide) ?_
    refine J_aload_n Y 0 dX0_named_38 rfl rfl ?_
    refine C_get 8 X uw_X0 (cO_co G _ ho0) rfl (by decide) rfl wfl_RX0_30 rfl dX0_named_39 ?_
    refine J_iload_n Y 2 dX0_named_42 rfl rfl ?_
    refine J_bipush (v := (8 : Int32)) Y dX0_named_43 (by decide) ?_
    refine J_imul Y dX0_named_45 ?_
    refine J_iload_n Y 3 dX0_named_46 rfl rfl ?_
    refine J_iadd Y dX0_named_47 ?_
    refine C_ald X (cA_co_8 G _ ho0) dX0_named_48 (fun x48 => ?_)
    exact J_ireturn Y dX0_named_49
  refine J_ite (fun c3_2 => ?_) (fun c3_2 => ?_)
  · refine J_tin (tgt := 50) (2 : Int32) c3_2 Y dX0_named_3 (by decide) (by decide) rfl (by decide) ?_
    refine J_aload_n Y 0 dX0_named_50 rfl rfl ?_
    refine C_get 4 X uw_X0 (cO_co G _ ho0) rfl (by decide) rfl wfl_RX0_18 rfl dX0_named_51 ?_
    refine J_iload_n Y 2 dX0_named_54 rfl rfl ?_
    refine C_ald X (cA_co_4 G _ ho0) dX0_named_55 (fun x55 => ?_)
    exact J_ireturn Y dX0_named_56
  refine J_ite (fun c3_3 => ?_) (fun c3_3 => ?_)
  · refine J_tin (tgt := 57) (3 : Int32) c3_3 Y dX0_named_3 (by decide) (by decide) rfl (by decide) ?_
    refine J_aload_n Y 0 dX0_named_57 rfl rfl ?_
    refine C_get 5 X uw_X0 (cO_co G _ ho0) rfl (by decide) rfl wfl_RX0_21 rfl dX0_named_58 ?_
    refine J_iload_n Y 2 dX0_named_61 rfl rfl ?_
    refine C_ald X (cA_co_5 G _ ho0) dX0_named_62 (fun x62 => ?_)
    refine C_cSi (As := [.int x62]) (st := []) rfl X (c_J6_bitCount_0f7a4 G x62 _) wi_J6_bitCount_0f7a4 wst_J6_bitCount_0f7a4 wml_RX0_64 ⟨Nat.le_of_ble_eq_true rfl, Nat.le_of_ble_eq_true rfl⟩ rfl (Nat.le_of_ble_eq_true rfl) dX0_named_63 (fun y63 t63 => ?_)
    exact J_ireturn Y dX0_named_66
  refine J_ite (fun c3_4 => ?_) (fun c3_4 => ?_)
  · refine J_tin (tgt := 67) (4 : Int32) c3_4 Y dX0_named_3 (by decide) (by decide) rfl (by decide) ?_
    refine J_aload_n Y 0 dX0_named_67 rfl rfl ?_
    refine C_get 10 X uw_X0 (cO_co G _ ho0) rfl (by decide) rfl wfl_RX0_50 rfl dX0_named_68 ?_
    exact J_ireturn Y dX0_named_71
  have e3_0 := lv_neT c3_0 (show ((0 : Int32)).toInt = (0 : Int) by decide)
  have e3_1 := lv_neT c3_1 (show ((1 : Int32)).toInt = (1 : Int) by decide)
  have e3_2 := lv_neT c3_2 (show ((2 : Int32)).toInt = (2 : Int) by decide)
  have e3_3 := lv_neT c3_3 (show ((3 : Int32)).toInt = (3 : Int) by decide)
  have e3_4 := lv_neT c3_4 (show ((4 : Int32)).toInt = (4 : Int) by decide)
  refine J_tout (tgt := 72) Y dX0_named_3 (by omega) (by decide) ?_
  refine J_aload_n Y 0 dX0_named_72 rfl rfl ?_
  refine C_get 3 X uw_X0 (cO_co G _ ho0) rfl (by decide) rfl wfl_RX0_15 rfl dX0_named_73 ?_
  refine J_iload_n Y 2 dX0_named_76 rfl rfl ?_
  refine C_ald X (cA_co_3 G _ ho0) dX0_named_77 (fun x77 => ?_)
  exact J_ireturn Y dX0_named_78
theorem c_X0_named (G : JG) (o0 : Nat) (v1 : Int32) (v2 : Int32) (v3 : Int32) (ho0 : isCo o0) (σ : ST) : Con (VC G) vI G.1 yX0_named cX0_named 4 (some .int) 1 40 [.ref (gO G o0), .int v1, .int v2, .int v3] σ (f_X0_named (gT G) o0 v1 v2 v3 σ) :=
  Con_of (VC_ok G) (by decide +kernel) (Nat.le_of_ble_eq_true rfl) (fun E e1 e2 _ X => j_X0_named ⟨X, e1, e2⟩ o0 v1 v2 v3 ho0 σ)
set_option maxRecDepth 100000 in
set_option maxHeartbeats 4000000 in
theorem j_X3_begin_L16 {E : JE} {G : JG} (X : JC E 2 cX3_begin RX3 (some .int) 0 0 G) (s0 : Int32) (σ : ST) : Jg E 2 (JF E vI) [] 16 [.int s0] σ (f_X3_begin_L16 (gT G) s0 σ) := by
  have Y := X.1
  unfold f_X3_begin_L16
  exact J_ireturn Y dX3_begin_16
set_option maxRecDepth 100000 in
set_option maxHeartbeats 4000000 in
theorem j_X3_begin {E : JE} {G : JG} (X : JC E 2 cX3_begin RX3 (some .int) 0 0 G) (o0 : Nat) (v1 : Int32) (ho0 : o0 < tN (gT G)) (σ : ST) : Jg E 2 (JF E vI) [(0, .ref (tO (gT G) o0)), (1, .int v1)] 0 [] σ (f_X3_begin (gT G) o0 v1 σ) := by
  have Y := X.1
  unfold f_X3_begin
  refine J_iload_n Y 1 dX3_begin_0 rfl rfl ?_
  refine J_if_ne (tgt := 8) Y dX3_begin_1 (by decide) ?_ ?_
  · refine J_aload_n Y 0 dX3_begin_8 rfl rfl ?_
    refine C_get 1 X uw_X3 (cO_tx G _ ho0) rfl (by decide) rfl wfl_RX3_9 rfl dX3_begin_9 ?_
    refine J_iload_n Y 1 dX3_begin_12 rfl rfl ?_
    refine J_iconst (v := (1 : Int32)) Y dX3_begin_13 (by decide) ?_
    refine J_isub Y dX3_begin_14 ?_
    refine C_ald X (cA_te G _ ho0) dX3_begin_15 (fun x15 => ?_)
    refine J_sub [] rfl ?_
    exact j_X3_begin_L16 X x15 σ
  · refine J_iconst (v := (0 : Int32)) Y dX3_begin_4 (by decide) ?_
    refine J_goto (tgt := 16) Y dX3_begin_5 (by decide) ?_
    refine J_sub [] rfl ?_
    exact j_X3_begin_L16 X (0 : Int32) σ
theorem c_X3_begin (G : JG) (o0 : Nat) (v1 : Int32) (ho0 : o0 < tN (gT G)) (σ : ST) : Con (VC G) vI G.1 yX3_begin cX3_begin 2 (some .int) 0 0 [.ref (tO (gT G) o0), .int v1] σ (f_X3_begin (gT G) o0 v1 σ) :=
  Con_of (VC_ok G) (by decide +kernel) (Nat.le_of_ble_eq_true rfl) (fun E e1 e2 _ X => j_X3_begin ⟨X, e1, e2⟩ o0 v1 ho0 σ)
set_option maxRecDepth 100000 in
set_option maxHeartbeats 4000000 in
theorem j_X3_joined_L53 {E : JE} {G : JG} (X : JC E 3 cX3_joined RX3 (some .int) 0 0 G) (s0 : Int32) (σ : ST) : Jg E 3 (JF E vI) [] 53 [.int s0] σ (f_X3_joined_L53 (gT G) s0 σ) := by
  have Y := X.1
  unfold f_X3_joined_L53
  exact J_ireturn Y dX3_joined_53
set_option maxRecDepth 100000 in
set_option maxHeartbeats 4000000 in
theorem j_X3_joined_L48 {E : JE} {G : JG} (X : JC E 3 cX3_joined RX3 (some .int) 0 0 G) (σ : ST) : Jg E 3 (JF E vI) [] 48 [] σ (f_X3_joined_L48 (gT G) σ) := by
  have Y := X.1
  unfold f_X3_joined_L48
  refine J_iconst (v := (1 : Int32)) Y dX3_joined_48 (by decide) ?_
  refine J_goto (tgt := 53) Y dX3_joined_49 (by decide) ?_
  exact j_X3_joined_L53 X (1 : Int32) σ
set_option maxRecDepth 100000 in
set_option maxHeartbeats 4000000 in
theorem j_X3_joined_L67 {E : JE} {G : JG} (X : JC E 3 cX3_joined RX3 (some .int) 0 0 G) (s0 : Int32) (σ : ST) : Jg E 3 (JF E vI) [] 67 [.int s0] σ (f_X3_joined_L67 (gT G) s0 σ) := by
  have Y := X.1
  unfold f_X3_joined_L67
  exact J_ireturn Y dX3_joined_67
set_option maxRecDepth 100000 in
set_option maxHeartbeats 4000000 in
theorem j_X3_joined_L66 {E : JE} {G : JG} (X : JC E 3 cX3_joined RX3 (some .int) 0 0 G) (σ : ST) : Jg E 3 (JF E vI) [] 66 [] σ (f_X3_joined_L66 (gT G) σ) := by
  have Y := X.1
  unfold f_X3_joined_L66
  refine J_iconst (v := (0 : Int32)) Y dX3_joined_66 (by decide) ?_
  exact j_X3_joined_L67 X (0 : Int32) σ
set_option maxRecDepth 100000 in
set_option maxHeartbeats 4000000 in
theorem j_X3_joined_L78 {E : JE} {G : JG} (X : JC E 3 cX3_joined RX3 (some .int) 0 0 G) (s0 : Int32) (σ : ST) : Jg E 3 (JF E vI) [] 78 [.int s0] σ (f_X3_joined_L78 (gT G) s0 σ) := by
  have Y := X.1
  unfold f_X3_joined_L78
  exact J_ireturn Y dX3_joined_78
set_option maxRecDepth 100000 in
set_option maxHeartbeats 4000000 in
theorem j_X3_joined_L89 {E : JE} {G : JG} (X : JC E 3 cX3_joined RX3 (some .int) 0 0 G) (s0 : Int32) (σ : ST) : Jg E 3 (JF E vI) [] 89 [.int s0] σ (f_X3_joined_L89 (gT G) s0 σ) := by
  have Y := X.1
  unfold f_X3_joined_L89
  exact J_ireturn Y dX3_joined_89
set_option maxRecDepth 100000 in
set_option maxHeartbeats 4000000 in
theorem j_X3_joined {E : JE} {G : JG} (X : JC E 3 cX3_joined RX3 (some .int) 0 0 G) (v0 : Int32) (v1 : Int32) (v2 : Int32) (σ : ST) : Jg E 3 (JF E vI) [(0, .int v0), (1, .int v1), (2, .int v2)] 0 [] σ (f_X3_joined (gT G) v0 v1 v2 σ) := by
  have Y := X.1
  unfold f_X3_joined
  refine J_iload_n Y 0 dX3_joined_0 rfl rfl ?_
  refine J_ite (fun c1_m14 => ?_) (fun c1_m14 => ?_)
  · refine J_tin (tgt := 94) (-14 : Int32) c1_m14 Y dX3_joined_1 (by decide) (by decide) rfl (by decide) ?_
    refine J_iload_n Y 1 dX3_joined_94 rfl rfl ?_
    refine J_iload_n Y 2 dX3_joined_95 rfl rfl ?_
    refine J_isub Y dX3_joined_96 ?_
    exact J_ireturn Y dX3_joined_97
  refine J_ite (fun c1_m13 => ?_) (fun c1_m13 => ?_)
  · refine J_tin (tgt := 90) (-13 : Int32) c1_m13 Y dX3_joined_1 (by decide) (by decide) rfl (by decide) ?_
    refine J_iload_n Y 1 dX3_joined_90 rfl rfl ?_
    refine J_iload_n Y 2 dX3_joined_91 rfl rfl ?_
    refine J_iadd Y dX3_joined_92 ?_
    exact J_ireturn Y dX3_joined_93
  refine J_ite (fun c1_m12 => ?_) (fun c1_m12 => ?_)
  · refine J_tin (tgt := 79) (-12 : Int32) c1_m12 Y dX3_joined_1 (by decide) (by decide) rfl (by decide) ?_
    refine J_iload_n Y 1 dX3_joined_79 rfl rfl ?_
    refine J_iload_n Y 2 dX3_joined_80 rfl rfl ?_
    refine J_icmp_ne (tgt := 88) Y dX3_joined_81 (by decide) ?_ ?_
    · refine J_iconst (v := (0 : Int32)) Y dX3_joined_88 (by decide) ?_
      refine J_sub [] rfl ?_
      exact j_X3_joined_L89 X (0 : Int32) σ
    · refine J_iconst (v := (1 : Int32)) Y dX3_joined_84 (by decide) ?_
      refine J_goto (tgt := 89) Y dX3_joined_85 (by decide) ?_
      refine J_sub [] rfl ?_
      exact j_X3_joined_L89 X (1 : Int32) σ
  refine J_ite (fun c1_m11 => ?_) (fun c1_m11 => ?_)
  · refine J_tin (tgt := 68) (-11 : Int32) c1_m11 Y dX3_joined_1 (by decide) (by decide) rfl (by decide) ?_
    refine J_iload_n Y 1 dX3_joined_68 rfl rfl ?_
    refine J_iload_n Y 2 dX3_joined_69 rfl rfl ?_
    refine J_icmp_ge (tgt := 77) Y dX3_joined_70 (by decide) ?_ ?_
    · refine J_iconst (v := (0 : Int32)) Y dX3_joined_77 (by decide) ?_
      refine J_sub [] rfl ?_
      exact j_X3_joined_L78 X (0 : Int32) σ
    · refine J_iconst (v := (1 : Int32)) Y dX3_joined_73 (by decide) ?_
      refine J_goto (tgt := 78) Y dX3_joined_74 (by decide) ?_
      refine J_sub [] rfl ?_
      exact j_X3_joined_L78 X (1 : Int32) σ
  refine J_ite (fun c1_m10 => ?_) (fun c1_m10 => ?_)
  · refine J_tin (tgt := 54) (-10 : Int32) c1_m10 Y dX3_joined_1 (by decide) (by decide) rfl (by decide) ?_
    refine J_iload_n Y 1 dX3_joined_54 rfl rfl ?_
    refine J_if_eq (tgt := 66) Y dX3_joined_55 (by decide) ?_ ?_
    · refine J_sub [] rfl ?_
      exact j_X3_joined_L66 X  σ
    · refine J_iload_n Y 2 dX3_joined_58 rfl rfl ?_
      refine J_if_eq (tgt := 66) Y dX3_joined_59 (by decide) ?_ ?_
      · refine J_sub [] rfl ?_
        exact j_X3_joined_L66 X  σ
      · refine J_iconst (v := (1 : Int32)) Y dX3_joined_62 (by decide) ?_
        refine J_goto (tgt := 67) Y dX3_joined_63 (by decide) ?_
        refine J_sub [] rfl ?_
        exact j_X3_joined_L67 X (1 : Int32) σ
  refine J_ite (fun c1_m9 => ?_) (fun c1_m9 => ?_)
  · refine J_tin (tgt := 40) (-9 : Int32) c1_m9 Y dX3_joined_1 (by decide) (by decide) rfl (by decide) ?_
    refine J_iload_n Y 1 dX3_joined_40 rfl rfl ?_
    refine J_if_ne (tgt := 48) Y dX3_joined_41 (by decide) ?_ ?_
    · refine J_sub [] rfl ?_
      exact j_X3_joined_L48 X  σ
    · refine J_iload_n Y 2 dX3_joined_44 rfl rfl ?_
      refine J_if_eq (tgt := 52) Y dX3_joined_45 (by decide) ?_ ?_
      · refine J_iconst (v := (0 : Int32)) Y dX3_joined_52 (by decide) ?_
        refine J_sub [] rfl ?_
        exact j_X3_joined_L53 X (0 : Int32) σ
      · refine J_sub [] rfl ?_
        exact j_X3_joined_L48 X  σ
  have e1_m14 := lv_neT c1_m14 (show ((-14 : Int32)).toInt = (-14 : Int) by decide)
  have e1_m13 := lv_neT c1_m13 (show ((-13 : Int32)).toInt = (-13 : Int) by decide)
  have e1_m12 := lv_neT c1_m12 (show ((-12 : Int32)).toInt = (-12 : Int) by decide)
  have e1_m11 := lv_neT c1_m11 (show ((-11 : Int32)).toInt = (-11 : Int) by decide)
  have e1_m10 := lv_neT c1_m10 (show ((-10 : Int32)).toInt = (-10 : Int) by decide)
  have e1_m9 := lv_neT c1_m9 (show ((-9 : Int32)).toInt = (-9 : Int) by decide)
  refine J_tout (tgt := 98) Y dX3_joined_1 (by omega) (by decide) ?_
  refine J_iload_n Y 1 dX3_joined_98 rfl rfl ?_
  refine J_iload_n Y 2 dX3_joined_99 rfl rfl ?_
  refine J_imul Y dX3_joined_100 ?_
  exact J_ireturn Y dX3_joined_101
theorem c_X3_joined (G : JG) (v0 : Int32) (v1 : Int32) (v2 : Int32) (σ : ST) : Con (VC G) vI G.1 yX3_joined cX3_joined 3 (some .int) 0 0 [.int v0, .int v1, .int v2] σ (f_X3_joined (gT G) v0 v1 v2 σ) :=
  Con_of (VC_ok G) (by decide +kernel) (Nat.le_of_ble_eq_true rfl) (fun E e1 e2 _ X => j_X3_joined ⟨X, e1, e2⟩ v0 v1 v2 σ)
set_option maxRecDepth 100000 in
set_option maxHeartbeats 4000000 in
theorem j_X4_bounded {E : JE} {G : JG} (X : JC E 3 cX4_bounded RX4 (some .int) 1 40 G) (v0 : Int32) (v1 : Int32) (v2 : Int32) (σ : ST) : Jg E 3 (JF E vI) [(0, .int v0), (1, .int v1), (2, .int v2)] 0 [] σ (f_X4_bounded (gT G) v0 v1 v2 σ) := by
  have Y := X.1
  unfold f_X4_bounded
  refine J_iload_n Y 1 dX4_bounded_0 rfl rfl ?_
  refine J_iload_n Y 0 dX4_bounded_1 rfl rfl ?_
  refine J_iload_n Y 2 dX4_bounded_2 rfl rfl ?_
  refine J_mmin (st := [.int v1]) Y wml_RX4_269 wst_Lib_Math_min wini_RJ9 wco_Lib_Math_min (Nat.le_of_ble_eq_true rfl) (Nat.le_of_ble_eq_true rfl) dX4_bounded_3 ?_
  refine J_mmax (st := []) Y wml_RX4_179 wst_Lib_Math_max wini_RJ9 wco_Lib_Math_max (Nat.le_of_ble_eq_true rfl) (Nat.le_of_ble_eq_true rfl) dX4_bounded_6 ?_
  exact J_ireturn Y dX4_bounded_9
theorem c_X4_bounded (G : JG) (v0 : Int32) (v1 : Int32) (v2 : Int32) (σ : ST) : Con (VC G) vI G.1 yX4_bounded cX4_bounded 3 (some .int) 1 40 [.int v0, .int v1, .int v2] σ (f_X4_bounded (gT G) v0 v1 v2 σ) :=
  Con_of (VC_ok G) (by decide +kernel) (Nat.le_of_ble_eq_true rfl) (fun E e1 e2 _ X => j_X4_bounded ⟨X, e1, e2⟩ v0 v1 v2 σ)
set_option maxRecDepth 100000 in
set_option maxHeartbeats 4000000 in
theorem j_X0_lawSays_L199 {E : JE} {G : JG} (X : JC E 8 cX0_lawSays RX0 (some .int) 2 80 G) {k29 : Nat → Int32 → Int32 → Int32 → Nat → Int32 → Int32 → ST → Option (Int32 × ST)} (hk29 : ∀ (o0 : Nat) (v1 : Int32) (v2 : Int32) (v3 : Int32) (o4 : Nat) (v5 : Int32) (v6 : Int32) (ho0 : isCo o0) (ho4 : o4 < tN (gT G)) (σ : ST), Jg E 8 (JF E vI) [(0, .ref (gO G o0)), (1, .int v1), (2, .int v2), (3, .int v3), (4, .ref (tO (gT G) o4)), (5, .int v5), (6, .int v6)] 29 [] σ (k29 o0 v1 v2 v3 o4 v5 v6 σ)) (o0 : Nat) (v1 : Int32) (v2 : Int32) (v3 : Int32) (o4 : Nat) (v5 : Int32) (v6 : Int32) (ho0 : isCo o0) (ho4 : o4 < tN (gT G)) (σ : ST) : Jg E 8 (JF E vI) [(0, .ref (gO G o0)), (1, .int v1), (2, .int v2), (3, .int v3), (4, .ref (tO (gT G) o4)), (5, .int v5), (6, .int v6)] 199 [] σ (f_X0_lawSays_L199 (gT G) k29 o0 v1 v2 v3 o4 v5 v6 σ) := by
  have Y := X.1
  unfold f_X0_lawSays_L199
  refine J_iinc (v := v6 + (1 : Int32)) [(6, .int (v6 + (1 : Int32))), (0, .ref (gO G o0)), (1, .int v1), (2, .int v2), (3, .int v3), (4, .ref (tO (gT G) o4)), (5, .int v5)] Y 6 dX0_lawSays_199 rfl (congrArg (fun z => _ + z) (by decide)) (by decide) rfl ?_
  refine J_goto (tgt := 29) Y dX0_lawSays_202 (by decide) ?_
  refine J_sub [1, 2, 3, 4, 5, 6, 0] rfl ?_
  exact hk29 o0 v1 v2 v3 o4 v5 (v6 + (1 : Int32)) ho0 ho4 σ
set_option maxRecDepth 100000 in
set_option maxHeartbeats 4000000 in
theorem j_X0_lawSays_L92 {E : JE} {G : JG} (X : JC E 8 cX0_lawSays RX0 (some .int) 2 80 G) {k29 : Nat → Int32 → Int32 → Int32 → Nat → Int32 → Int32 → ST → Option (Int32 × ST)} (hk29 : ∀ (o0 : Nat) (v1 : Int32) (v2 : Int32) (v3 : Int32) (o4 : Nat) (v5 : Int32) (v6 : Int32) (ho0 : isCo o0) (ho4 : o4 < tN (gT G)) (σ : ST), Jg E 8 (JF E vI) [(0, .ref (gO G o0)), (1, .int v1), (2, .int v2), (3, .int v3), (4, .ref (tO (gT G) o4)), (5, .int v5), (6, .int v6)] 29 [] σ (k29 o0 v1 v2 v3 o4 v5 v6 σ)) (o0 : Nat) (v1 : Int32) (v2 : Int32) (v3 : Int32) (o4 : Nat) (v5 : Int32) (v6 : Int32) (s0 : Int32) (s1 : Int32) (ho0 : isCo o0) (ho4 : o4 < tN (gT G)) (σ : ST) : Jg E 8 (JF E vI) [(0, .ref (gO G o0)), (1, .int v1), (2, .int v2), (3, .int v3), (4, .ref (tO (gT G) o4)), (5, .int v5), (6, .int v6)] 92 [.int s0, .int s1, .ref (gA G 2 1)] σ (f_X0_lawSays_L92 (gT G) k29 o0 v1 v2 v3 o4 v5 v6 s0 s1 σ) := by
  have Y := X.1
  unfold f_X0_lawSays_L92
  refine C_ast X (cA_2_1 G _) (cS_2_1 G _) dX0_lawSays_92 (fun t92 => ?_)
  refine J_iinc (v := v5 + (1 : Int32)) [(5, .int (v5 + (1 : Int32))), (0, .ref (gO G o0)), (1, .int v1), (2, .int v2), (3, .int v3), (4, .ref (tO (gT G) o4)), (6, .int v6)] Y 5 dX0_lawSays_93 rfl (congrArg (fun z => _ + z) (by decide)) (by decide) rfl ?_
  refine J_goto (tgt := 199) Y dX0_lawSays_96 (by decide) ?_
  refine J_sub [1, 2, 3, 4, 5, 0, 6] rfl ?_
  exact j_X0_lawSays_L199 X hk29 o0 v1 v2 v3 o4 (v5 + (1 : Int32)) v6 ho0 ho4 t92
set_option maxRecDepth 100000 in
set_option maxHeartbeats 4000000 in
theorem j_X0_lawSays_L156 {E : JE} {G : JG} (X : JC E 8 cX0_lawSays RX0 (some .int) 2 80 G) {k29 : Nat → Int32 → Int32 → Int32 → Nat → Int32 → Int32 → ST → Option (Int32 × ST)} (hk29 : ∀ (o0 : Nat) (v1 : Int32) (v2 : Int32) (v3 : Int32) (o4 : Nat) (v5 : Int32) (v6 : Int32) (ho0 : isCo o0) (ho4 : o4 < tN (gT G)) (σ : ST), Jg E 8 (JF E vI) [(0, .ref (gO G o0)), (1, .int v1), (2, .int v2), (3, .int v3), (4, .ref (tO (gT G) o4)), (5, .int v5), (6, .int v6)] 29 [] σ (k29 o0 v1 v2 v3 o4 v5 v6 σ)) (o0 : Nat) (v1 : Int32) (v2 : Int32) (v3 : Int32) (o4 : Nat) (v5 : Int32) (v6 : Int32) (s0 : Int32) (s1 : Int32) (ho0 : isCo o0) (ho4 : o4 < tN (gT G)) (σ : ST) : Jg E 8 (JF E vI) [(0, .ref (gO G o0)), (1, .int v1), (2, .int v2), (3, .int v3), (4, .ref (tO (gT G) o4)), (5, .int v5), (6, .int v6)] 156 [.int s0, .int s1, .ref (gA G 2 1)] σ (f_X0_lawSays_L156 (gT G) k29 o0 v1 v2 v3 o4 v5 v6 s0 s1 σ) := by
  have Y := X.1
  unfold f_X0_lawSays_L156
  refine C_ast X (cA_2_1 G _) (cS_2_1 G _) dX0_lawSays_156 (fun t156 => ?_)
  refine J_goto (tgt := 199) Y dX0_lawSays_157 (by decide) ?_
  exact j_X0_lawSays_L199 X hk29 o0 v1 v2 v3 o4 v5 v6 ho0 ho4 t156
set_option maxRecDepth 100000 in
set_option maxHeartbeats 4000000 in
theorem j_X0_lawSays_L205 {E : JE} {G : JG} (X : JC E 8 cX0_lawSays RX0 (some .int) 2 80 G) (o0 : Nat) (v1 : Int32) (ho0 : isCo o0) (σ : ST) : Jg E 8 (JF E vI) [(0, .ref (gO G o0)), (1, .int v1)] 205 [] σ (f_X0_lawSays_L205 (gT G) o0 v1 σ) := by
  have Y := X.1
  unfold f_X0_lawSays_L205
  refine J_iload_n Y 1 dX0_lawSays_205 rfl rfl ?_
  refine J_ite (fun c206_0 => ?_) (fun c206_0 => ?_)
  · refine J_look (tgt := 232) (off := 26) Y dX0_lawSays_206 (by decide) (by first | (rw [c206_0]; done) | (rw [c206_0]; rfl)) (by decide) ?_
    refine J_aload_n Y 0 dX0_lawSays_232 rfl rfl ?_
    refine C_get 1 X uw_X0 (cO_co G _ ho0) rfl (by decide) rfl wfl_RX0_37 rfl dX0_lawSays_233 ?_
    refine J_iconst (v := (0 : Int32)) Y dX0_lawSays_236 (by decide) ?_
    refine C_ald X (cA_2_1 G _) dX0_lawSays_237 (fun x237 => ?_)
    refine J_iconst (v := (0 : Int32)) Y dX0_lawSays_238 (by decide) ?_
    refine J_bipush (v := (99 : Int32)) Y dX0_lawSays_239 (by decide) ?_
    refine C_cNi (As := [.int x237, .int (0 : Int32), .int (99 : Int32)]) (st := []) rfl X (c_X4_bounded G x237 (0 : Int32) (99 : Int32) _) wi_X4_bounded wst_X4_bounded (C_n93 X) ⟨Nat.le_of_ble_eq_true rfl, Nat.le_of_ble_eq_true rfl⟩ rfl (Nat.le_of_ble_eq_true rfl) dX0_lawSays_241 (fun y241 t241 => ?_)
    exact J_ireturn Y dX0_lawSays_244
  refine J_ite (fun c206_1 => ?_) (fun c206_1 => ?_)
  · refine J_look (tgt := 245) (off := 39) Y dX0_lawSays_206 (by decide) (by first | (rw [c206_1]; done) | (rw [c206_1]; rfl)) (by decide) ?_
    refine J_aload_n Y 0 dX0_lawSays_245 rfl rfl ?_
    refine C_get 1 X uw_X0 (cO_co G _ ho0) rfl (by decide) rfl wfl_RX0_37 rfl dX0_lawSays_246 ?_
    refine J_iconst (v := (0 : Int32)) Y dX0_lawSays_249 (by decide) ?_
    refine C_ald X (cA_2_1 G _) dX0_lawSays_250 (fun x250 => ?_)
    refine J_bipush (v := (-99 : Int32)) Y dX0_lawSays_251 (by decide) ?_
    refine J_bipush (v := (99 : Int32)) Y dX0_lawSays_253 (by decide) ?_
    refine C_cNi (As := [.int x250, .int (-99 : Int32), .int (99 : Int32)]) (st := []) rfl X (c_X4_bounded G x250 (-99 : Int32) (99 : Int32) _) wi_X4_bounded wst_X4_bounded (C_n93 X) ⟨Nat.le_of_ble_eq_true rfl, Nat.le_of_ble_eq_true rfl⟩ rfl (Nat.le_of_ble_eq_true rfl) dX0_lawSays_255 (fun y255 t255 => ?_)
    exact J_ireturn Y dX0_lawSays_258
  refine J_look (tgt := 259) (off := 53) Y dX0_lawSays_206 (by decide) (by show Op.lookupswitch.offset [(0, 26), (1, 39)] _ _ = _; first | (rw [lv_osw c206_0 (by decide), lv_osw c206_1 (by decide)]; done) | (rw [lv_osw c206_0 (by decide), lv_osw c206_1 (by decide)]; rfl)) (by decide) ?_
  refine J_aload_n Y 0 dX0_lawSays_259 rfl rfl ?_
  refine C_get 1 X uw_X0 (cO_co G _ ho0) rfl (by decide) rfl wfl_RX0_37 rfl dX0_lawSays_260 ?_
  refine J_iconst (v := (0 : Int32)) Y dX0_lawSays_263 (by decide) ?_
  refine C_ald X (cA_2_1 G _) dX0_lawSays_264 (fun x264 => ?_)
  refine J_iconst (v := (0 : Int32)) Y dX0_lawSays_265 (by decide) ?_
  refine J_bipush (v := (9 : Int32)) Y dX0_lawSays_266 (by decide) ?_
  refine C_cNi (As := [.int x264, .int (0 : Int32), .int (9 : Int32)]) (st := []) rfl X (c_X4_bounded G x264 (0 : Int32) (9 : Int32) _) wi_X4_bounded wst_X4_bounded (C_n93 X) ⟨Nat.le_of_ble_eq_true rfl, Nat.le_of_ble_eq_true rfl⟩ rfl (Nat.le_of_ble_eq_true rfl) dX0_lawSays_268 (fun y268 t268 => ?_)
  exact J_ireturn Y dX0_lawSays_271
set_option maxRecDepth 100000 in
set_option maxHeartbeats 4000000 in
theorem j_X0_lawSays_L29 {E : JE} {G : JG} (X : JC E 8 cX0_lawSays RX0 (some .int) 2 80 G) : ∀ (n : Nat) (o0 : Nat) (v1 : Int32) (v2 : Int32) (v3 : Int32) (o4 : Nat) (v5 : Int32) (v6 : Int32) (ho0 : isCo o0) (ho4 : o4 < tN (gT G)) (σ : ST), Jg E 8 (JF E vI) [(0, .ref (gO G o0)), (1, .int v1), (2, .int v2), (3, .int v3), (4, .ref (tO (gT G) o4)), (5, .int v5), (6, .int v6)] 29 [] σ (f_X0_lawSays_L29 (gT G) n o0 v1 v2 v3 o4 v5 v6 σ) := by
  have Y := X.1
  intro n
  induction n with
  | zero => intro o0 v1 v2 v3 o4 v5 v6 ho0 ho4 σ; rw [f_X0_lawSays_L29]; exact J_none
  | succ n ih =>
    intro o0 v1 v2 v3 o4 v5 v6 ho0 ho4 σ
    rw [f_X0_lawSays_L29]
    refine J_iload Y 6 dX0_lawSays_29 rfl ?_
    refine J_aload Y 4 dX0_lawSays_31 rfl ?_
    refine C_get 1 X uw_X3 (cO_tx G _ ho4) rfl (by decide) rfl wfl_RX0_80 rfl dX0_lawSays_33 ?_
    refine J_iload_n Y 1 dX0_lawSays_36 rfl rfl ?_
    refine C_ald X (cA_te G _ ho4) dX0_lawSays_37 (fun x37 => ?_)
    refine J_icmp_ge (tgt := 205) Y dX0_lawSays_38 (by decide) ?_ ?_
    · refine J_sub [0, 1] rfl ?_
      exact j_X0_lawSays_L205 X o0 v1 ho0 σ
    · refine J_aload Y 4 dX0_lawSays_41 rfl ?_
      refine C_get 0 X uw_X3 (cO_tx G _ ho4) rfl (by decide) rfl wfl_RX0_83 rfl dX0_lawSays_43 ?_
      refine J_iload Y 6 dX0_lawSays_46 rfl ?_
      refine C_ald X (cA_tc G _ ho4) dX0_lawSays_48 (fun x48 => ?_)
      refine J_istore [(7, .int x48), (0, .ref (gO G o0)), (1, .int v1), (2, .int v2), (3, .int v3), (4, .ref (tO (gT G) o4)), (5, .int v5), (6, .int v6)] Y dX0_lawSays_49 (by decide) rfl ?_
      refine J_iload Y 0 dX0_lawSays_51 rfl ?_
      refine J_bipush (v := (-6 : Int32)) Y dX0_lawSays_53 (by decide) ?_
      refine J_icmp_lt (tgt := 99) Y dX0_lawSays_55 (by decide) ?_ ?_
      · refine J_iload Y 0 dX0_lawSays_99 rfl ?_
        refine J_bipush (v := (-8 : Int32)) Y dX0_lawSays_101 (by decide) ?_
        refine J_icmp_lt (tgt := 160) Y dX0_lawSays_103 (by decide) ?_ ?_
        · refine J_iload Y 6 dX0_lawSays_160 rfl ?_
          refine J_iconst (v := (1 : Int32)) Y dX0_lawSays_162 (by decide) ?_
          refine J_icmp_le (tgt := 199) Y dX0_lawSays_163 (by decide) ?_ ?_
          · refine J_sub [1, 2, 3, 4, 5, 6, 7] rfl ?_
            exact j_X0_lawSays_L199 X (fun o0 v1 v2 v3 o4 v5 v6 ho0 ho4 σ => ih o0 v1 v2 v3 o4 v5 v6 ho0 ho4 σ) o0 v1 v2 v3 o4 v5 v6 ho0 ho4 σ
          · refine J_iinc (v := v5 + (-1 : Int32)) [(5, .int (v5 + (-1 : Int32))), (7, .int x48), (0, .ref (gO G o0)), (1, .int v1), (2, .int v2), (3, .int v3), (4, .ref (tO (gT G) o4)), (6, .int v6)] Y 6 dX0_lawSays_166 rfl (congrArg (fun z => _ + z) (by decide)) (by decide) rfl ?_
            refine J_aload_n Y 2 dX0_lawSays_169 rfl rfl ?_
            refine C_get 1 X uw_X0 (cO_co G _ ho0) rfl (by decide) rfl wfl_RX0_37 rfl dX0_lawSays_170 ?_
            refine J_iload Y 0 dX0_lawSays_173 rfl ?_
            refine J_iconst (v := (1 : Int32)) Y dX0_lawSays_175 (by decide) ?_
            refine J_isub Y dX0_lawSays_176 ?_
            refine J_iload Y 1 dX0_lawSays_177 rfl ?_
            refine J_aload_n Y 2 dX0_lawSays_179 rfl rfl ?_
            refine C_get 1 X uw_X0 (cO_co G _ ho0) rfl (by decide) rfl wfl_RX0_37 rfl dX0_lawSays_180 ?_
            refine J_iload Y 0 dX0_lawSays_183 rfl ?_
            refine J_iconst (v := (1 : Int32)) Y dX0_lawSays_185 (by decide) ?_
            refine J_isub Y dX0_lawSays_186 ?_
            refine C_ald X (cA_2_1 G _) dX0_lawSays_187 (fun x187 => ?_)
            refine J_aload_n Y 2 dX0_lawSays_188 rfl rfl ?_
            refine C_get 1 X uw_X0 (cO_co G _ ho0) rfl (by decide) rfl wfl_RX0_37 rfl dX0_lawSays_189 ?_
            refine J_iload Y 0 dX0_lawSays_192 rfl ?_
            refine C_ald X (cA_2_1 G _) dX0_lawSays_194 (fun x194 => ?_)
            refine C_cSi (As := [.int x48, .int x187, .int x194]) (st := [.int ((v5 + (-1 : Int32)) - (1 : Int32)), .ref (gA G 2 1)]) rfl X (c_X3_joined G x48 x187 x194 _) wi_X3_joined wst_X3_joined wml_RX0_90 ⟨Nat.le_of_ble_eq_true rfl, Nat.le_of_ble_eq_true rfl⟩ rfl (Nat.le_of_ble_eq_true rfl) dX0_lawSays_195 (fun y195 t195 => ?_)
            refine C_ast X (cA_2_1 G _) (cS_2_1 G _) dX0_lawSays_198 (fun t198 => ?_)
            refine J_sub [2, 3, 4, 5, 6, 0, 7] rfl ?_
            exact j_X0_lawSays_L199 X (fun o0 v1 v2 v3 o4 v5 v6 ho0 ho4 σ => ih o0 v1 v2 v3 o4 v5 v6 ho0 ho4 σ) o0 v1 v2 v3 o4 (v5 + (-1 : Int32)) v6 ho0 ho4 t198
        · refine J_iload Y 6 dX0_lawSays_106 rfl ?_
          refine J_if_le (tgt := 199) Y dX0_lawSays_108 (by decide) ?_ ?_
          · refine J_sub [1, 2, 3, 4, 5, 6, 7] rfl ?_
            exact j_X0_lawSays_L199 X (fun o0 v1 v2 v3 o4 v5 v6 ho0 ho4 σ => ih o0 v1 v2 v3 o4 v5 v6 ho0 ho4 σ) o0 v1 v2 v3 o4 v5 v6 ho0 ho4 σ
          · refine J_aload_n Y 1 dX0_lawSays_111 rfl rfl ?_
            refine C_get 1 X uw_X0 (cO_co G _ ho0) rfl (by decide) rfl wfl_RX0_37 rfl dX0_lawSays_112 ?_
            refine J_iload Y 6 dX0_lawSays_115 rfl ?_
            refine J_iconst (v := (1 : Int32)) Y dX0_lawSays_117 (by decide) ?_
            refine J_isub Y dX0_lawSays_118 ?_
            refine J_iload Y 0 dX0_lawSays_119 rfl ?_
            refine J_bipush (v := (-7 : Int32)) Y dX0_lawSays_121 (by decide) ?_
            refine J_icmp_ne (tgt := 139) Y dX0_lawSays_123 (by decide) ?_ ?_
            · refine J_aload_n Y 1 dX0_lawSays_139 rfl rfl ?_
              refine C_get 1 X uw_X0 (cO_co G _ ho0) rfl (by decide) rfl wfl_RX0_37 rfl dX0_lawSays_140 ?_
              refine J_iload Y 6 dX0_lawSays_143 rfl ?_
              refine J_iconst (v := (1 : Int32)) Y dX0_lawSays_145 (by decide) ?_
              refine J_isub Y dX0_lawSays_146 ?_
              refine C_ald X (cA_2_1 G _) dX0_lawSays_147 (fun x147 => ?_)
              refine J_if_ne (tgt := 155) Y dX0_lawSays_148 (by decide) ?_ ?_
              · refine J_iconst (v := (0 : Int32)) Y dX0_lawSays_155 (by decide) ?_
                refine J_sub [1, 2, 3, 4, 5, 6, 7] rfl ?_
                exact j_X0_lawSays_L156 X (fun o0 v1 v2 v3 o4 v5 v6 ho0 ho4 σ => ih o0 v1 v2 v3 o4 v5 v6 ho0 ho4 σ) o0 v1 v2 v3 o4 v5 v6 (0 : Int32) (v5 - (1 : Int32)) ho0 ho4 σ
              · refine J_iconst (v := (1 : Int32)) Y dX0_lawSays_151 (by decide) ?_
                refine J_goto (tgt := 156) Y dX0_lawSays_152 (by decide) ?_
                refine J_sub [1, 2, 3, 4, 5, 6, 7] rfl ?_
                exact j_X0_lawSays_L156 X (fun o0 v1 v2 v3 o4 v5 v6 ho0 ho4 σ => ih o0 v1 v2 v3 o4 v5 v6 ho0 ho4 σ) o0 v1 v2 v3 o4 v5 v6 (1 : Int32) (v5 - (1 : Int32)) ho0 ho4 σ
            · refine J_aload_n Y 1 dX0_lawSays_126 rfl rfl ?_
              refine C_get 1 X uw_X0 (cO_co G _ ho0) rfl (by decide) rfl wfl_RX0_37 rfl dX0_lawSays_127 ?_
              refine J_iload Y 6 dX0_lawSays_130 rfl ?_
              refine J_iconst (v := (1 : Int32)) Y dX0_lawSays_132 (by decide) ?_
              refine J_isub Y dX0_lawSays_133 ?_
              refine C_ald X (cA_2_1 G _) dX0_lawSays_134 (fun x134 => ?_)
              refine J_ineg Y dX0_lawSays_135 ?_
              refine J_goto (tgt := 156) Y dX0_lawSays_136 (by decide) ?_
              refine J_sub [1, 2, 3, 4, 5, 6, 7] rfl ?_
              exact j_X0_lawSays_L156 X (fun o0 v1 v2 v3 o4 v5 v6 ho0 ho4 σ => ih o0 v1 v2 v3 o4 v5 v6 ho0 ho4 σ) o0 v1 v2 v3 o4 v5 v6 (-x134) (v5 - (1 : Int32)) ho0 ho4 σ
      · refine J_iload Y 6 dX0_lawSays_58 rfl ?_
        refine J_aload_n Y 1 dX0_lawSays_60 rfl rfl ?_
        refine C_get 1 X uw_X0 (cO_co G _ ho0) rfl (by decide) rfl wfl_RX0_37 rfl dX0_lawSays_61 ?_
        refine C_alen (v := (160 : Int32)) X (cA_2_1 G _) (by decide) dX0_lawSays_64 ?_
        refine J_icmp_ge (tgt := 199) Y dX0_lawSays_65 (by decide) ?_ ?_
        · refine J_sub [1, 2, 3, 4, 5, 6, 7] rfl ?_
          exact j_X0_lawSays_L199 X (fun o0 v1 v2 v3 o4 v5 v6 ho0 ho4 σ => ih o0 v1 v2 v3 o4 v5 v6 ho0 ho4 σ) o0 v1 v2 v3 o4 v5 v6 ho0 ho4 σ
        · refine J_aload_n Y 1 dX0_lawSays_68 rfl rfl ?_
          refine C_get 1 X uw_X0 (cO_co G _ ho0) rfl (by decide) rfl wfl_RX0_37 rfl dX0_lawSays_69 ?_
          refine J_iload Y 6 dX0_lawSays_72 rfl ?_
          refine J_iload Y 0 dX0_lawSays_74 rfl ?_
          refine J_if_lt (tgt := 84) Y dX0_lawSays_76 (by decide) ?_ ?_
          · refine J_aload_n Y 1 dX0_lawSays_84 rfl rfl ?_
            refine J_iload Y 0 dX0_lawSays_85 rfl ?_
            refine J_iload_n Y 3 dX0_lawSays_87 rfl rfl ?_
            refine J_iload_n Y 4 dX0_lawSays_88 rfl rfl ?_
            refine C_cVi (As := [.int x48, .int v2, .int v3]) (st := [.int v5, .ref (gA G 2 1)]) rfl X (c_X0_named G o0 x48 v2 v3 ho0 _) (cO_co G _ ho0) rfl rfl wi_X0_named win_X0_named wse_X0_named wml_RX0_86 ⟨Nat.le_of_ble_eq_true rfl, Nat.le_of_ble_eq_true rfl⟩ rfl (Nat.le_of_ble_eq_true rfl) dX0_lawSays_89 (fun y89 t89 => ?_)
            refine J_sub [1, 2, 3, 4, 5, 6, 7] rfl ?_
            exact j_X0_lawSays_L92 X (fun o0 v1 v2 v3 o4 v5 v6 ho0 ho4 σ => ih o0 v1 v2 v3 o4 v5 v6 ho0 ho4 σ) o0 v1 v2 v3 o4 v5 v6 y89 v5 ho0 ho4 t89
          · refine J_iload Y 0 dX0_lawSays_79 rfl ?_
            refine J_goto (tgt := 92) Y dX0_lawSays_81 (by decide) ?_
            refine J_sub [1, 2, 3, 4, 5, 6, 7] rfl ?_
            exact j_X0_lawSays_L92 X (fun o0 v1 v2 v3 o4 v5 v6 ho0 ho4 σ => ih o0 v1 v2 v3 o4 v5 v6 ho0 ho4 σ) o0 v1 v2 v3 o4 v5 v6 x48 v5 ho0 ho4 σ
set_option maxRecDepth 100000 in
set_option maxHeartbeats 4000000 in
theorem j_X0_lawSays {E : JE} {G : JG} (X : JC E 8 cX0_lawSays RX0 (some .int) 2 80 G) (o0 : Nat) (v1 : Int32) (v2 : Int32) (v3 : Int32) (ho0 : isCo o0) (σ : ST) : Jg E 8 (JF E vI) [(0, .ref (gO G o0)), (1, .int v1), (2, .int v2), (3, .int v3)] 0 [] σ (f_X0_lawSays (gT G) o0 v1 v2 v3 σ) := by
  have Y := X.1
  unfold f_X0_lawSays
  refine J_aload_n Y 0 dX0_lawSays_0 rfl rfl ?_
  refine C_get 0 X uw_X0 (cO_co G _ ho0) rfl (by decide) rfl wfl_RX0_33 rfl dX0_lawSays_1 ?_
  refine J_aload_n Y 0 dX0_lawSays_4 rfl rfl ?_
  refine C_get 11 X uw_X0 (cO_co G _ ho0) rfl (by decide) rfl wfl_RX0_53 rfl dX0_lawSays_5 ?_
  refine J_chk (fun h8 => ?_)
  refine J_ite (fun ht8 => ?_) (fun ht8 => ?_)
  · refine C_aalT X h8 ht8 dX0_lawSays_8 ?_
    refine J_astore [(4, .ref (tO (gT G) ((gs o0 11 σ).toNatClampNeg))), (0, .ref (gO G o0)), (1, .int v1), (2, .int v2), (3, .int v3)] Y dX0_lawSays_9 (by decide) rfl ?_
    refine J_aload Y 0 dX0_lawSays_11 rfl ?_
    refine J_ifnn (tgt := 18) Y dX0_lawSays_13 (by decide) ?_
    refine J_iconst (v := (0 : Int32)) Y dX0_lawSays_18 (by decide) ?_
    refine J_istore [(5, .int (0 : Int32)), (4, .ref (tO (gT G) ((gs o0 11 σ).toNatClampNeg))), (0, .ref (gO G o0)), (1, .int v1), (2, .int v2), (3, .int v3)] Y dX0_lawSays_19 (by decide) rfl ?_
    refine J_aload Y 1 dX0_lawSays_21 rfl ?_
    refine J_iload_n Y 3 dX0_lawSays_23 rfl rfl ?_
    refine C_cVi (As := [.int v1]) (st := []) rfl X (c_X3_begin G ((gs o0 11 σ).toNatClampNeg) v1 ht8 _) (cO_tx G _ ht8) rfl rfl wi_X3_begin win_X3_begin wse_X3_begin wml_RX0_75 ⟨Nat.le_of_ble_eq_true rfl, Nat.le_of_ble_eq_true rfl⟩ rfl (Nat.le_of_ble_eq_true rfl) dX0_lawSays_24 (fun y24 t24 => ?_)
    refine J_istore [(6, .int y24), (5, .int (0 : Int32)), (4, .ref (tO (gT G) ((gs o0 11 σ).toNatClampNeg))), (0, .ref (gO G o0)), (1, .int v1), (2, .int v2), (3, .int v3)] Y dX0_lawSays_27 (by decide) rfl ?_
    refine J_sub [3, 4, 5, 6, 2, 1, 0] rfl ?_
    exact j_X0_lawSays_L29 X 1000 o0 v1 v2 v3 ((gs o0 11 σ).toNatClampNeg) (0 : Int32) y24 ho0 ht8 t24
  · refine C_aalN X h8 ht8 dX0_lawSays_8 ?_
    refine J_astoreN [(4, .null), (0, .ref (gO G o0)), (1, .int v1), (2, .int v2), (3, .int v3)] Y dX0_lawSays_9 (by decide) rfl ?_
    refine J_aloadN Y 0 dX0_lawSays_11 rfl ?_
    refine J_ifnnN Y dX0_lawSays_13 ?_
    refine J_iconst (v := (0 : Int32)) Y dX0_lawSays_16 (by decide) ?_
    exact J_ireturn Y dX0_lawSays_17
theorem c_X0_lawSays (G : JG) (o0 : Nat) (v1 : Int32) (v2 : Int32) (v3 : Int32) (ho0 : isCo o0) (σ : ST) : Con (VC G) vI G.1 yX0_lawSays cX0_lawSays 8 (some .int) 2 80 [.ref (gO G o0), .int v1, .int v2, .int v3] σ (f_X0_lawSays (gT G) o0 v1 v2 v3 σ) :=
  Con_of (VC_ok G) (by decide +kernel) (Nat.le_of_ble_eq_true rfl) (fun E e1 e2 _ X => j_X0_lawSays ⟨X, e1, e2⟩ o0 v1 v2 v3 ho0 σ)
set_option maxRecDepth 100000 in
set_option maxHeartbeats 4000000 in
theorem j_X0_gone_L85 {E : JE} {G : JG} (X : JC E 4 cX0_gone RX0 (some .int) 3 120 G) (s0 : Int32) (σ : ST) : Jg E 4 (JF E vI) [] 85 [.int s0] σ (f_X0_gone_L85 (gT G) s0 σ) := by
  have Y := X.1
  unfold f_X0_gone_L85
  exact J_ireturn Y dX0_gone_85
set_option maxRecDepth 100000 in
set_option maxHeartbeats 4000000 in
theorem j_X0_gone_L103 {E : JE} {G : JG} (X : JC E 4 cX0_gone RX0 (some .int) 3 120 G) (s0 : Int32) (σ : ST) : Jg E 4 (JF E vI) [] 103 [.int s0] σ (f_X0_gone_L103 (gT G) s0 σ) := by
  have Y := X.1
  unfold f_X0_gone_L103
  exact J_ireturn Y dX0_gone_103
set_option maxRecDepth 100000 in
set_option maxHeartbeats 4000000 in
theorem j_X0_gone {E : JE} {G : JG} (X : JC E 4 cX0_gone RX0 (some .int) 3 120 G) (o0 : Nat) (v1 : Int32) (v2 : Int32) (ho0 : isCo o0) (σ : ST) : Jg E 4 (JF E vI) [(0, .ref (gO G o0)), (1, .int v1), (2, .int v2)] 0 [] σ (f_X0_gone (gT G) o0 v1 v2 σ) := by
  have Y := X.1
  unfold f_X0_gone
  refine J_aload_n Y 0 dX0_gone_0 rfl rfl ?_
  refine J_iconst (v := (0 : Int32)) Y dX0_gone_1 (by decide) ?_
  refine J_iload_n Y 1 dX0_gone_2 rfl rfl ?_
  refine J_iload_n Y 2 dX0_gone_3 rfl rfl ?_
  refine C_cVi (As := [.int (0 : Int32), .int v1, .int v2]) (st := []) rfl X (c_X0_lawSays G o0 (0 : Int32) v1 v2 ho0 _) (cO_co G _ ho0) rfl rfl wi_X0_lawSays win_X0_lawSays wse_X0_lawSays wml_RX0_96 ⟨Nat.le_of_ble_eq_true rfl, Nat.le_of_ble_eq_true rfl⟩ rfl (Nat.le_of_ble_eq_true rfl) dX0_gone_4 (fun y4 t4 => ?_)
  refine J_istore_n [(3, .int y4), (0, .ref (gO G o0)), (1, .int v1), (2, .int v2)] Y dX0_gone_7 rfl (by decide) rfl ?_
  refine J_aload_n Y 1 dX0_gone_8 rfl rfl ?_
  refine C_get 2 X uw_X0 (cO_co G _ ho0) rfl (by decide) rfl wfl_RX0_9 rfl dX0_gone_9 ?_
  refine J_iload_n Y 2 dX0_gone_12 rfl rfl ?_
  refine C_ald X (cA_co_2 G _ ho0) dX0_gone_13 (fun x13 => ?_)
  refine J_ite (fun c14_1 => ?_) (fun c14_1 => ?_)
  · refine J_tin (tgt := 48) (1 : Int32) c14_1 Y dX0_gone_14 (by decide) (by decide) rfl (by decide) ?_
    refine J_iconst (v := (1 : Int32)) Y dX0_gone_48 (by decide) ?_
    refine J_iload_n Y 0 dX0_gone_49 rfl rfl ?_
    refine J_iconst (v := (2 : Int32)) Y dX0_gone_50 (by decide) ?_
    refine J_idiv Y dX0_gone_51 (by decide) ?_
    refine J_mmax (st := []) Y wml_RX0_69 wst_Lib_Math_max wini_RJ9 wco_Lib_Math_max (Nat.le_of_ble_eq_true rfl) (Nat.le_of_ble_eq_true rfl) dX0_gone_52 ?_
    exact J_ireturn Y dX0_gone_55
  refine J_ite (fun c14_2 => ?_) (fun c14_2 => ?_)
  · refine J_tin (tgt := 56) (2 : Int32) c14_2 Y dX0_gone_14 (by decide) (by decide) rfl (by decide) ?_
    refine J_iload_n Y 0 dX0_gone_56 rfl rfl ?_
    refine J_bipush (v := (10 : Int32)) Y dX0_gone_57 (by decide) ?_
    refine J_iadd Y dX0_gone_59 ?_
    exact J_ireturn Y dX0_gone_60
  refine J_ite (fun c14_3 => ?_) (fun c14_3 => ?_)
  · refine J_tin (tgt := 61) (3 : Int32) c14_3 Y dX0_gone_14 (by decide) (by decide) rfl (by decide) ?_
    refine J_iload_n Y 3 dX0_gone_61 rfl rfl ?_
    refine J_aload_n Y 1 dX0_gone_62 rfl rfl ?_
    refine C_get 3 X uw_X0 (cO_co G _ ho0) rfl (by decide) rfl wfl_RX0_15 rfl dX0_gone_63 ?_
    refine J_iload_n Y 2 dX0_gone_66 rfl rfl ?_
    refine C_ald X (cA_co_3 G _ ho0) dX0_gone_67 (fun x67 => ?_)
    refine J_bipush (v := (8 : Int32)) Y dX0_gone_68 (by decide) ?_
    refine J_irem Y dX0_gone_70 (by decide) ?_
    refine J_icmp_ne (tgt := 78) Y dX0_gone_71 (by decide) ?_ ?_
    · refine J_iconst (v := (1 : Int32)) Y dX0_gone_78 (by decide) ?_
      refine J_iload_n Y 0 dX0_gone_79 rfl rfl ?_
      refine J_iconst (v := (2 : Int32)) Y dX0_gone_80 (by decide) ?_
      refine J_idiv Y dX0_gone_81 (by decide) ?_
      refine J_mmax (st := []) Y wml_RX0_69 wst_Lib_Math_max wini_RJ9 wco_Lib_Math_max (Nat.le_of_ble_eq_true rfl) (Nat.le_of_ble_eq_true rfl) dX0_gone_82 ?_
      refine J_sub [] rfl ?_
      exact j_X0_gone_L85 X (mxI (1 : Int32) (y4 / (2 : Int32))) t4
    · refine J_iconst (v := (1 : Int32)) Y dX0_gone_74 (by decide) ?_
      refine J_goto (tgt := 85) Y dX0_gone_75 (by decide) ?_
      refine J_sub [] rfl ?_
      exact j_X0_gone_L85 X (1 : Int32) t4
  refine J_ite (fun c14_4 => ?_) (fun c14_4 => ?_)
  · refine J_tin (tgt := 86) (4 : Int32) c14_4 Y dX0_gone_14 (by decide) (by decide) rfl (by decide) ?_
    refine J_iload_n Y 3 dX0_gone_86 rfl rfl ?_
    refine J_bipush (v := (7 : Int32)) Y dX0_gone_87 (by decide) ?_
    refine J_icmp_ne (tgt := 97) Y dX0_gone_89 (by decide) ?_ ?_
    · refine J_iload_n Y 0 dX0_gone_97 rfl rfl ?_
      refine J_bipush (v := (10 : Int32)) Y dX0_gone_98 (by decide) ?_
      refine J_iadd Y dX0_gone_100 ?_
      refine J_iconst (v := (3 : Int32)) Y dX0_gone_101 (by decide) ?_
      refine J_idiv Y dX0_gone_102 (by decide) ?_
      refine J_sub [] rfl ?_
      exact j_X0_gone_L103 X ((y4 + (10 : Int32)) / (3 : Int32)) t4
    · refine J_bipush (v := (99 : Int32)) Y dX0_gone_92 (by decide) ?_
      refine J_goto (tgt := 103) Y dX0_gone_94 (by decide) ?_
      refine J_sub [] rfl ?_
      exact j_X0_gone_L103 X (99 : Int32) t4
  refine J_ite (fun c14_5 => ?_) (fun c14_5 => ?_)
  · refine J_tin (tgt := 104) (5 : Int32) c14_5 Y dX0_gone_14 (by decide) (by decide) rfl (by decide) ?_
    refine J_iconst (v := (1 : Int32)) Y dX0_gone_104 (by decide) ?_
    refine J_aload_n Y 1 dX0_gone_105 rfl rfl ?_
    refine C_get 3 X uw_X0 (cO_co G _ ho0) rfl (by decide) rfl wfl_RX0_15 rfl dX0_gone_106 ?_
    refine J_iload_n Y 2 dX0_gone_109 rfl rfl ?_
    refine C_ald X (cA_co_3 G _ ho0) dX0_gone_110 (fun x110 => ?_)
    refine J_mmax (st := []) Y wml_RX0_69 wst_Lib_Math_max wini_RJ9 wco_Lib_Math_max (Nat.le_of_ble_eq_true rfl) (Nat.le_of_ble_eq_true rfl) dX0_gone_111 ?_
    exact J_ireturn Y dX0_gone_114
  have e14_1 := lv_neT c14_1 (show ((1 : Int32)).toInt = (1 : Int) by decide)
  have e14_2 := lv_neT c14_2 (show ((2 : Int32)).toInt = (2 : Int) by decide)
  have e14_3 := lv_neT c14_3 (show ((3 : Int32)).toInt = (3 : Int) by decide)
  have e14_4 := lv_neT c14_4 (show ((4 : Int32)).toInt = (4 : Int) by decide)
  have e14_5 := lv_neT c14_5 (show ((5 : Int32)).toInt = (5 : Int) by decide)
  refine J_tout (tgt := 115) Y dX0_gone_14 (by omega) (by decide) ?_
  refine J_iconst (v := (1 : Int32)) Y dX0_gone_115 (by decide) ?_
  refine J_iload_n Y 0 dX0_gone_116 rfl rfl ?_
  refine J_mmax (st := []) Y wml_RX0_69 wst_Lib_Math_max wini_RJ9 wco_Lib_Math_max (Nat.le_of_ble_eq_true rfl) (Nat.le_of_ble_eq_true rfl) dX0_gone_117 ?_
  exact J_ireturn Y dX0_gone_120
theorem c_X0_gone (G : JG) (o0 : Nat) (v1 : Int32) (v2 : Int32) (ho0 : isCo o0) (σ : ST) : Con (VC G) vI G.1 yX0_gone cX0_gone 4 (some .int) 3 120 [.ref (gO G o0), .int v1, .int v2] σ (f_X0_gone (gT G) o0 v1 v2 σ) :=
  Con_of (VC_ok G) (by decide +kernel) (Nat.le_of_ble_eq_true rfl) (fun E e1 e2 _ X => j_X0_gone ⟨X, e1, e2⟩ o0 v1 v2 ho0 σ)
set_option maxRecDepth 100000 in
set_option maxHeartbeats 4000000 in
theorem j_X0_gains_L69 {E : JE} {G : JG} (X : JC E 5 cX0_gains RX0 (some .int) 3 120 G) (s0 : Int32) (σ : ST) : Jg E 5 (JF E vI) [] 69 [.int s0] σ (f_X0_gains_L69 (gT G) s0 σ) := by
  have Y := X.1
  unfold f_X0_gains_L69
  exact J_ireturn Y dX0_gains_69
set_option maxRecDepth 100000 in
set_option maxHeartbeats 4000000 in
theorem j_X0_gains_L89 {E : JE} {G : JG} (X : JC E 5 cX0_gains RX0 (some .int) 3 120 G) (s0 : Int32) (σ : ST) : Jg E 5 (JF E vI) [] 89 [.int s0] σ (f_X0_gains_L89 (gT G) s0 σ) := by
  have Y := X.1
  unfold f_X0_gains_L89
  exact J_ireturn Y dX0_gains_89
set_option maxRecDepth 100000 in
set_option maxHeartbeats 4000000 in
theorem j_X0_gains {E : JE} {G : JG} (X : JC E 5 cX0_gains RX0 (some .int) 3 120 G) (o0 : Nat) (v1 : Int32) (v2 : Int32) (ho0 : isCo o0) (σ : ST) : Jg E 5 (JF E vI) [(0, .ref (gO G o0)), (1, .int v1), (2, .int v2)] 0 [] σ (f_X0_gains (gT G) o0 v1 v2 σ) := by
  have Y := X.1
  unfold f_X0_gains
  refine J_aload_n Y 0 dX0_gains_0 rfl rfl ?_
  refine J_iconst (v := (1 : Int32)) Y dX0_gains_1 (by decide) ?_
  refine J_iload_n Y 1 dX0_gains_2 rfl rfl ?_
  refine J_iload_n Y 2 dX0_gains_3 rfl rfl ?_
  refine C_cVi (As := [.int (1 : Int32), .int v1, .int v2]) (st := []) rfl X (c_X0_lawSays G o0 (1 : Int32) v1 v2 ho0 _) (cO_co G _ ho0) rfl rfl wi_X0_lawSays win_X0_lawSays wse_X0_lawSays wml_RX0_96 ⟨Nat.le_of_ble_eq_true rfl, Nat.le_of_ble_eq_true rfl⟩ rfl (Nat.le_of_ble_eq_true rfl) dX0_gains_4 (fun y4 t4 => ?_)
  refine J_istore_n [(3, .int y4), (0, .ref (gO G o0)), (1, .int v1), (2, .int v2)] Y dX0_gains_7 rfl (by decide) rfl ?_
  refine J_aload_n Y 1 dX0_gains_8 rfl rfl ?_
  refine J_iload_n Y 2 dX0_gains_9 rfl rfl ?_
  refine J_iload_n Y 3 dX0_gains_10 rfl rfl ?_
  refine C_cVi (As := [.int v1, .int v2]) (st := []) rfl X (c_X0_hasSand G o0 v1 v2 ho0 _) (cO_co G _ ho0) rfl rfl wi_X0_hasSand win_X0_hasSand wse_X0_hasSand wml_RX0_56 ⟨Nat.le_of_ble_eq_true rfl, Nat.le_of_ble_eq_true rfl⟩ rfl (Nat.le_of_ble_eq_true rfl) dX0_gains_11 (fun y11 t11 => ?_)
  refine J_istore [(4, .int y11), (3, .int y4), (0, .ref (gO G o0)), (1, .int v1), (2, .int v2)] Y dX0_gains_14 (by decide) rfl ?_
  refine J_aload_n Y 2 dX0_gains_16 rfl rfl ?_
  refine C_get 2 X uw_X0 (cO_co G _ ho0) rfl (by decide) rfl wfl_RX0_9 rfl dX0_gains_17 ?_
  refine J_iload_n Y 3 dX0_gains_20 rfl rfl ?_
  refine C_ald X (cA_co_2 G _ ho0) dX0_gains_21 (fun x21 => ?_)
  refine J_ite (fun c22_1 => ?_) (fun c22_1 => ?_)
  · refine J_tin (tgt := 52) (1 : Int32) c22_1 Y dX0_gains_22 (by decide) (by decide) rfl (by decide) ?_
    refine J_iload Y 0 dX0_gains_52 rfl ?_
    refine J_if_eq (tgt := 61) Y dX0_gains_54 (by decide) ?_ ?_
    · refine J_iload_n Y 1 dX0_gains_61 rfl rfl ?_
      refine J_aload_n Y 2 dX0_gains_62 rfl rfl ?_
      refine C_get 3 X uw_X0 (cO_co G _ ho0) rfl (by decide) rfl wfl_RX0_15 rfl dX0_gains_63 ?_
      refine J_iload_n Y 3 dX0_gains_66 rfl rfl ?_
      refine C_ald X (cA_co_3 G _ ho0) dX0_gains_67 (fun x67 => ?_)
      refine J_iadd Y dX0_gains_68 ?_
      refine J_sub [] rfl ?_
      exact j_X0_gains_L69 X (y4 + x67) t11
    · refine J_iload_n Y 1 dX0_gains_57 rfl rfl ?_
      refine J_goto (tgt := 69) Y dX0_gains_58 (by decide) ?_
      refine J_sub [] rfl ?_
      exact j_X0_gains_L69 X y4 t11
  refine J_ite (fun c22_2 => ?_) (fun c22_2 => ?_)
  · refine J_tin (tgt := 93) (2 : Int32) c22_2 Y dX0_gains_22 (by decide) (by decide) rfl (by decide) ?_
    refine J_iload_n Y 1 dX0_gains_93 rfl rfl ?_
    exact J_ireturn Y dX0_gains_94
  refine J_ite (fun c22_3 => ?_) (fun c22_3 => ?_)
  · refine J_tin (tgt := 70) (3 : Int32) c22_3 Y dX0_gains_22 (by decide) (by decide) rfl (by decide) ?_
    refine J_iload Y 0 dX0_gains_70 rfl ?_
    refine J_if_eq (tgt := 79) Y dX0_gains_72 (by decide) ?_ ?_
    · refine J_iconst (v := (2 : Int32)) Y dX0_gains_79 (by decide) ?_
      refine J_iload_n Y 1 dX0_gains_80 rfl rfl ?_
      refine J_aload_n Y 2 dX0_gains_81 rfl rfl ?_
      refine C_get 3 X uw_X0 (cO_co G _ ho0) rfl (by decide) rfl wfl_RX0_15 rfl dX0_gains_82 ?_
      refine J_iload_n Y 3 dX0_gains_85 rfl rfl ?_
      refine C_ald X (cA_co_3 G _ ho0) dX0_gains_86 (fun x86 => ?_)
      refine J_iadd Y dX0_gains_87 ?_
      refine J_imul Y dX0_gains_88 ?_
      refine J_sub [] rfl ?_
      exact j_X0_gains_L89 X ((2 : Int32) * (y4 + x86)) t11
    · refine J_iconst (v := (0 : Int32)) Y dX0_gains_75 (by decide) ?_
      refine J_goto (tgt := 89) Y dX0_gains_76 (by decide) ?_
      refine J_sub [] rfl ?_
      exact j_X0_gains_L89 X (0 : Int32) t11
  refine J_ite (fun c22_4 => ?_) (fun c22_4 => ?_)
  · refine J_tin (tgt := 90) (4 : Int32) c22_4 Y dX0_gains_22 (by decide) (by decide) rfl (by decide) ?_
    refine J_iload_n Y 1 dX0_gains_90 rfl rfl ?_
    refine J_ineg Y dX0_gains_91 ?_
    exact J_ireturn Y dX0_gains_92
  have e22_1 := lv_neT c22_1 (show ((1 : Int32)).toInt = (1 : Int) by decide)
  have e22_2 := lv_neT c22_2 (show ((2 : Int32)).toInt = (2 : Int) by decide)
  have e22_3 := lv_neT c22_3 (show ((3 : Int32)).toInt = (3 : Int) by decide)
  have e22_4 := lv_neT c22_4 (show ((4 : Int32)).toInt = (4 : Int) by decide)
  refine J_tout (tgt := 93) Y dX0_gains_22 (by omega) (by decide) ?_
  refine J_iload_n Y 1 dX0_gains_93 rfl rfl ?_
  exact J_ireturn Y dX0_gains_94
theorem c_X0_gains (G : JG) (o0 : Nat) (v1 : Int32) (v2 : Int32) (ho0 : isCo o0) (σ : ST) : Con (VC G) vI G.1 yX0_gains cX0_gains 5 (some .int) 3 120 [.ref (gO G o0), .int v1, .int v2] σ (f_X0_gains (gT G) o0 v1 v2 σ) :=
  Con_of (VC_ok G) (by decide +kernel) (Nat.le_of_ble_eq_true rfl) (fun E e1 e2 _ X => j_X0_gains ⟨X, e1, e2⟩ o0 v1 v2 ho0 σ)
set_option maxRecDepth 100000 in
set_option maxHeartbeats 4000000 in
theorem j_X0_spills_L60 {E : JE} {G : JG} (X : JC E 4 cX0_spills RX0 (some .int) 3 120 G) (s0 : Int32) (σ : ST) : Jg E 4 (JF E vI) [] 60 [.int s0] σ (f_X0_spills_L60 (gT G) s0 σ) := by
  have Y := X.1
  unfold f_X0_spills_L60
  exact J_ireturn Y dX0_spills_60
set_option maxRecDepth 100000 in
set_option maxHeartbeats 4000000 in
theorem j_X0_spills {E : JE} {G : JG} (X : JC E 4 cX0_spills RX0 (some .int) 3 120 G) (o0 : Nat) (v1 : Int32) (v2 : Int32) (ho0 : isCo o0) (σ : ST) : Jg E 4 (JF E vI) [(0, .ref (gO G o0)), (1, .int v1), (2, .int v2)] 0 [] σ (f_X0_spills (gT G) o0 v1 v2 σ) := by
  have Y := X.1
  unfold f_X0_spills
  refine J_aload_n Y 0 dX0_spills_0 rfl rfl ?_
  refine J_iconst (v := (2 : Int32)) Y dX0_spills_1 (by decide) ?_
  refine J_iload_n Y 1 dX0_spills_2 rfl rfl ?_
  refine J_iload_n Y 2 dX0_spills_3 rfl rfl ?_
  refine C_cVi (As := [.int (2 : Int32), .int v1, .int v2]) (st := []) rfl X (c_X0_lawSays G o0 (2 : Int32) v1 v2 ho0 _) (cO_co G _ ho0) rfl rfl wi_X0_lawSays win_X0_lawSays wse_X0_lawSays wml_RX0_96 ⟨Nat.le_of_ble_eq_true rfl, Nat.le_of_ble_eq_true rfl⟩ rfl (Nat.le_of_ble_eq_true rfl) dX0_spills_4 (fun y4 t4 => ?_)
  refine J_istore_n [(3, .int y4), (0, .ref (gO G o0)), (1, .int v1), (2, .int v2)] Y dX0_spills_7 rfl (by decide) rfl ?_
  refine J_aload_n Y 1 dX0_spills_8 rfl rfl ?_
  refine C_get 2 X uw_X0 (cO_co G _ ho0) rfl (by decide) rfl wfl_RX0_9 rfl dX0_spills_9 ?_
  refine J_iload_n Y 2 dX0_spills_12 rfl rfl ?_
  refine C_ald X (cA_co_2 G _ ho0) dX0_spills_13 (fun x13 => ?_)
  refine J_ite (fun c14_2 => ?_) (fun c14_2 => ?_)
  · refine J_tin (tgt := 44) (2 : Int32) c14_2 Y dX0_spills_14 (by decide) (by decide) rfl (by decide) ?_
    refine J_aload_n Y 1 dX0_spills_44 rfl rfl ?_
    refine C_get 10 X uw_X0 (cO_co G _ ho0) rfl (by decide) rfl wfl_RX0_50 rfl dX0_spills_45 ?_
    refine J_iconst (v := (2 : Int32)) Y dX0_spills_48 (by decide) ?_
    refine J_irem Y dX0_spills_49 (by decide) ?_
    refine J_if_ne (tgt := 59) Y dX0_spills_50 (by decide) ?_ ?_
    · refine J_iconst (v := (0 : Int32)) Y dX0_spills_59 (by decide) ?_
      refine J_sub [] rfl ?_
      exact j_X0_spills_L60 X (0 : Int32) t4
    · refine J_iload_n Y 0 dX0_spills_53 rfl rfl ?_
      refine J_iconst (v := (1 : Int32)) Y dX0_spills_54 (by decide) ?_
      refine J_iadd Y dX0_spills_55 ?_
      refine J_goto (tgt := 60) Y dX0_spills_56 (by decide) ?_
      refine J_sub [] rfl ?_
      exact j_X0_spills_L60 X (y4 + (1 : Int32)) t4
  refine J_ite (fun c14_3 => ?_) (fun c14_3 => ?_)
  · refine J_tin (tgt := 63) (3 : Int32) c14_3 Y dX0_spills_14 (by decide) (by decide) rfl (by decide) ?_
    refine J_iload_n Y 0 dX0_spills_63 rfl rfl ?_
    exact J_ireturn Y dX0_spills_64
  refine J_ite (fun c14_4 => ?_) (fun c14_4 => ?_)
  · refine J_tin (tgt := 44) (4 : Int32) c14_4 Y dX0_spills_14 (by decide) (by decide) rfl (by decide) ?_
    refine J_aload_n Y 1 dX0_spills_44 rfl rfl ?_
    refine C_get 10 X uw_X0 (cO_co G _ ho0) rfl (by decide) rfl wfl_RX0_50 rfl dX0_spills_45 ?_
    refine J_iconst (v := (2 : Int32)) Y dX0_spills_48 (by decide) ?_
    refine J_irem Y dX0_spills_49 (by decide) ?_
    refine J_if_ne (tgt := 59) Y dX0_spills_50 (by decide) ?_ ?_
    · refine J_iconst (v := (0 : Int32)) Y dX0_spills_59 (by decide) ?_
      refine J_sub [] rfl ?_
      exact j_X0_spills_L60 X (0 : Int32) t4
    · refine J_iload_n Y 0 dX0_spills_53 rfl rfl ?_
      refine J_iconst (v := (1 : Int32)) Y dX0_spills_54 (by decide) ?_
      refine J_iadd Y dX0_spills_55 ?_
      refine J_goto (tgt := 60) Y dX0_spills_56 (by decide) ?_
      refine J_sub [] rfl ?_
      exact j_X0_spills_L60 X (y4 + (1 : Int32)) t4
  refine J_ite (fun c14_5 => ?_) (fun c14_5 => ?_)
  · refine J_tin (tgt := 61) (5 : Int32) c14_5 Y dX0_spills_14 (by decide) (by decide) rfl (by decide) ?_
    refine J_iconst (v := (0 : Int32)) Y dX0_spills_61 (by decide) ?_
    exact J_ireturn Y dX0_spills_62
  have e14_2 := lv_neT c14_2 (show ((2 : Int32)).toInt = (2 : Int) by decide)
  have e14_3 := lv_neT c14_3 (show ((3 : Int32)).toInt = (3 : Int) by decide)
  have e14_4 := lv_neT c14_4 (show ((4 : Int32)).toInt = (4 : Int) by decide)
  have e14_5 := lv_neT c14_5 (show ((5 : Int32)).toInt = (5 : Int) by decide)
  refine J_tout (tgt := 63) Y dX0_spills_14 (by omega) (by decide) ?_
  refine J_iload_n Y 0 dX0_spills_63 rfl rfl ?_
  exact J_ireturn Y dX0_spills_64
theorem c_X0_spills (G : JG) (o0 : Nat) (v1 : Int32) (v2 : Int32) (ho0 : isCo o0) (σ : ST) : Con (VC G) vI G.1 yX0_spills cX0_spills 4 (some .int) 3 120 [.ref (gO G o0), .int v1, .int v2] σ (f_X0_spills (gT G) o0 v1 v2 σ) :=
  Con_of (VC_ok G) (by decide +kernel) (Nat.le_of_ble_eq_true rfl) (fun E e1 e2 _ X => j_X0_spills ⟨X, e1, e2⟩ o0 v1 v2 ho0 σ)
set_option maxRecDepth 100000 in
set_option maxHeartbeats 4000000 in
theorem j_X4_within_L15 {E : JE} {G : JG} (X : JC E 3 cX4_within RX4 (some .boolean) 0 0 G) (s0 : Int32) (σ : ST) : Jg E 3 (JF E vI) [] 15 [.int s0] σ (f_X4_within_L15 (gT G) s0 σ) := by
  have Y := X.1
  unfold f_X4_within_L15
  exact J_zreturn Y dX4_within_15
set_option maxRecDepth 100000 in
set_option maxHeartbeats 4000000 in
theorem j_X4_within_L14 {E : JE} {G : JG} (X : JC E 3 cX4_within RX4 (some .boolean) 0 0 G) (σ : ST) : Jg E 3 (JF E vI) [] 14 [] σ (f_X4_within_L14 (gT G) σ) := by
  have Y := X.1
  unfold f_X4_within_L14
  refine J_iconst (v := (0 : Int32)) Y dX4_within_14 (by decide) ?_
  exact j_X4_within_L15 X (0 : Int32) σ
set_option maxRecDepth 100000 in
set_option maxHeartbeats 4000000 in
theorem j_X4_within {E : JE} {G : JG} (X : JC E 3 cX4_within RX4 (some .boolean) 0 0 G) (v0 : Int32) (v1 : Int32) (v2 : Int32) (σ : ST) : Jg E 3 (JF E vI) [(0, .int v0), (1, .int v1), (2, .int v2)] 0 [] σ (f_X4_within (gT G) v0 v1 v2 σ) := by
  have Y := X.1
  unfold f_X4_within
  refine J_iload_n Y 0 dX4_within_0 rfl rfl ?_
  refine J_iload_n Y 1 dX4_within_1 rfl rfl ?_
  refine J_icmp_lt (tgt := 14) Y dX4_within_2 (by decide) ?_ ?_
  · refine J_sub [] rfl ?_
    exact j_X4_within_L14 X  σ
  · refine J_iload_n Y 0 dX4_within_5 rfl rfl ?_
    refine J_iload_n Y 2 dX4_within_6 rfl rfl ?_
    refine J_icmp_gt (tgt := 14) Y dX4_within_7 (by decide) ?_ ?_
    · refine J_sub [] rfl ?_
      exact j_X4_within_L14 X  σ
    · refine J_iconst (v := (1 : Int32)) Y dX4_within_10 (by decide) ?_
      refine J_goto (tgt := 15) Y dX4_within_11 (by decide) ?_
      refine J_sub [] rfl ?_
      exact j_X4_within_L15 X (1 : Int32) σ
theorem c_X4_within (G : JG) (v0 : Int32) (v1 : Int32) (v2 : Int32) (σ : ST) : Con (VC G) vI G.1 yX4_within cX4_within 3 (some .boolean) 0 0 [.int v0, .int v1, .int v2] σ (f_X4_within (gT G) v0 v1 v2 σ) :=
  Con_of (VC_ok G) (by decide +kernel) (Nat.le_of_ble_eq_true rfl) (fun E e1 e2 _ X => j_X4_within ⟨X, e1, e2⟩ v0 v1 v2 σ)
set_option maxRecDepth 100000 in
set_option maxHeartbeats 4000000 in
theorem j_X4_isSort {E : JE} {G : JG} (X : JC E 1 cX4_isSort RX4 (some .boolean) 1 40 G) (v0 : Int32) (σ : ST) : Jg E 1 (JF E vI) [(0, .int v0)] 0 [] σ (f_X4_isSort (gT G) v0 σ) := by
  have Y := X.1
  unfold f_X4_isSort
  refine J_iload_n Y 0 dX4_isSort_0 rfl rfl ?_
  refine J_iconst (v := (0 : Int32)) Y dX4_isSort_1 (by decide) ?_
  refine J_bipush (v := (7 : Int32)) Y dX4_isSort_2 (by decide) ?_
  refine C_cSi (As := [.int v0, .int (0 : Int32), .int (7 : Int32)]) (st := []) rfl X (c_X4_within G v0 (0 : Int32) (7 : Int32) _) wi_X4_within wst_X4_within wml_RX4_89 ⟨Nat.le_of_ble_eq_true rfl, Nat.le_of_ble_eq_true rfl⟩ rfl (Nat.le_of_ble_eq_true rfl) dX4_isSort_4 (fun y4 t4 => ?_)
  exact J_zreturn Y dX4_isSort_7
theorem c_X4_isSort (G : JG) (v0 : Int32) (σ : ST) : Con (VC G) vI G.1 yX4_isSort cX4_isSort 1 (some .boolean) 1 40 [.int v0] σ (f_X4_isSort (gT G) v0 σ) :=
  Con_of (VC_ok G) (by decide +kernel) (Nat.le_of_ble_eq_true rfl) (fun E e1 e2 _ X => j_X4_isSort ⟨X, e1, e2⟩ v0 σ)
set_option maxRecDepth 100000 in
set_option maxHeartbeats 4000000 in
theorem j_X0_can_L44 {E : JE} {G : JG} (X : JC E 3 cX0_can RX0 (some .boolean) 2 80 G) (s0 : Int32) (σ : ST) : Jg E 3 (JF E vI) [] 44 [.int s0] σ (f_X0_can_L44 (gT G) s0 σ) := by
  have Y := X.1
  unfold f_X0_can_L44
  exact J_zreturn Y dX0_can_44
set_option maxRecDepth 100000 in
set_option maxHeartbeats 4000000 in
theorem j_X0_can_L43 {E : JE} {G : JG} (X : JC E 3 cX0_can RX0 (some .boolean) 2 80 G) (σ : ST) : Jg E 3 (JF E vI) [] 43 [] σ (f_X0_can_L43 (gT G) σ) := by
  have Y := X.1
  unfold f_X0_can_L43
  refine J_iconst (v := (0 : Int32)) Y dX0_can_43 (by decide) ?_
  exact j_X0_can_L44 X (0 : Int32) σ
set_option maxRecDepth 100000 in
set_option maxHeartbeats 4000000 in
theorem j_X0_can {E : JE} {G : JG} (X : JC E 3 cX0_can RX0 (some .boolean) 2 80 G) (o0 : Nat) (v1 : Int32) (v2 : Int32) (ho0 : isCo o0) (σ : ST) : Jg E 3 (JF E vI) [(0, .ref (gO G o0)), (1, .int v1), (2, .int v2)] 0 [] σ (f_X0_can (gT G) o0 v1 v2 σ) := by
  have Y := X.1
  unfold f_X0_can
  refine J_aload_n Y 0 dX0_can_0 rfl rfl ?_
  refine J_iload_n Y 1 dX0_can_1 rfl rfl ?_
  refine C_cVi (As := [.int v1]) (st := []) rfl X (c_X0_has G o0 v1 ho0 _) (cO_co G _ ho0) rfl rfl wi_X0_has win_X0_has wse_X0_has wml_RX0_99 ⟨Nat.le_of_ble_eq_true rfl, Nat.le_of_ble_eq_true rfl⟩ rfl (Nat.le_of_ble_eq_true rfl) dX0_can_2 (fun y2 t2 => ?_)
  refine J_if_eq (tgt := 43) Y dX0_can_5 (by decide) ?_ ?_
  · refine J_sub [] rfl ?_
    exact j_X0_can_L43 X  t2
  · refine J_iload_n Y 2 dX0_can_8 rfl rfl ?_
    refine C_cNi (As := [.int v2]) (st := []) rfl X (c_X4_isSort G v2 _) wi_X4_isSort wst_X4_isSort (C_n103 X) ⟨Nat.le_of_ble_eq_true rfl, Nat.le_of_ble_eq_true rfl⟩ rfl (Nat.le_of_ble_eq_true rfl) dX0_can_9 (fun y9 t9 => ?_)
    refine J_if_eq (tgt := 43) Y dX0_can_12 (by decide) ?_ ?_
    · refine J_sub [] rfl ?_
      exact j_X0_can_L43 X  t9
    · refine J_aload_n Y 0 dX0_can_15 rfl rfl ?_
      refine C_get 6 X uw_X0 (cO_co G _ ho0) rfl (by decide) rfl wfl_RX0_24 rfl dX0_can_16 ?_
      refine J_iload_n Y 1 dX0_can_19 rfl rfl ?_
      refine C_ald X (cA_co_6 G _ ho0) dX0_can_20 (fun x20 => ?_)
      refine J_iconst (v := (-1 : Int32)) Y dX0_can_21 (by decide) ?_
      refine J_icmp_ne (tgt := 43) Y dX0_can_22 (by decide) ?_ ?_
      · refine J_sub [] rfl ?_
        exact j_X0_can_L43 X  t9
      · refine J_aload_n Y 0 dX0_can_25 rfl rfl ?_
        refine C_get 8 X uw_X0 (cO_co G _ ho0) rfl (by decide) rfl wfl_RX0_30 rfl dX0_can_26 ?_
        refine J_iload_n Y 1 dX0_can_29 rfl rfl ?_
        refine J_bipush (v := (8 : Int32)) Y dX0_can_30 (by decide) ?_
        refine J_imul Y dX0_can_32 ?_
        refine J_iload_n Y 2 dX0_can_33 rfl rfl ?_
        refine J_iadd Y dX0_can_34 ?_
        refine C_ald X (cA_co_8 G _ ho0) dX0_can_35 (fun x35 => ?_)
        refine J_if_le (tgt := 43) Y dX0_can_36 (by decide) ?_ ?_
        · refine J_sub [] rfl ?_
          exact j_X0_can_L43 X  t9
        · refine J_iconst (v := (1 : Int32)) Y dX0_can_39 (by decide) ?_
          refine J_goto (tgt := 44) Y dX0_can_40 (by decide) ?_
          refine J_sub [] rfl ?_
          exact j_X0_can_L44 X (1 : Int32) t9
theorem c_X0_can (G : JG) (o0 : Nat) (v1 : Int32) (v2 : Int32) (ho0 : isCo o0) (σ : ST) : Con (VC G) vI G.1 yX0_can cX0_can 3 (some .boolean) 2 80 [.ref (gO G o0), .int v1, .int v2] σ (f_X0_can (gT G) o0 v1 v2 σ) :=
  Con_of (VC_ok G) (by decide +kernel) (Nat.le_of_ble_eq_true rfl) (fun E e1 e2 _ X => j_X0_can ⟨X, e1, e2⟩ o0 v1 v2 ho0 σ)
set_option maxRecDepth 100000 in
set_option maxHeartbeats 4000000 in
theorem j_X0_take_L140 {E : JE} {G : JG} (X : JC E 9 cX0_take RX0 none 4 160 G) (o0 : Nat) (v1 : Int32) (v2 : Int32) (v3 : Int32) (v4 : Int32) (ho0 : isCo o0) (σ : ST) : Jg E 9 (JF E vV) [(0, .ref (gO G o0)), (1, .int v1), (2, .int v2), (3, .int v3), (4, .int v4)] 140 [] σ (f_X0_take_L140 (gT G) o0 v1 v2 v3 v4 σ) := by
  have Y := X.1
  unfold f_X0_take_L140
  refine J_aload_n Y 0 dX0_take_140 rfl rfl ?_
  refine C_get 4 X uw_X0 (cO_co G _ ho0) rfl (by decide) rfl wfl_RX0_18 rfl dX0_take_141 ?_
  refine J_iload_n Y 1 dX0_take_144 rfl rfl ?_
  refine J_iload Y 4 dX0_take_145 rfl ?_
  refine C_ast X (cA_co_4 G _ ho0) (cS_co_4 G _ ho0) dX0_take_147 (fun t147 => ?_)
  refine J_aload_n Y 0 dX0_take_148 rfl rfl ?_
  refine C_get 5 X uw_X0 (cO_co G _ ho0) rfl (by decide) rfl wfl_RX0_21 rfl dX0_take_149 ?_
  refine J_iload_n Y 1 dX0_take_152 rfl rfl ?_
  refine J_dup2 Y dX0_take_153 rfl rfl ?_
  refine C_ald X (cA_co_5 G _ ho0) dX0_take_154 (fun x154 => ?_)
  refine J_iconst (v := (1 : Int32)) Y dX0_take_155 (by decide) ?_
  refine J_iload_n Y 2 dX0_take_156 rfl rfl ?_
  refine J_ishl Y dX0_take_157 ?_
  refine J_ior Y dX0_take_158 ?_
  refine C_ast X (cA_co_5 G _ ho0) (cS_co_5 G _ ho0) dX0_take_159 (fun t159 => ?_)
  refine J_aload_n Y 0 dX0_take_160 rfl rfl ?_
  refine C_get 6 X uw_X0 (cO_co G _ ho0) rfl (by decide) rfl wfl_RX0_24 rfl dX0_take_161 ?_
  refine J_iload_n Y 1 dX0_take_164 rfl rfl ?_
  refine J_iload_n Y 2 dX0_take_165 rfl rfl ?_
  refine C_ast X (cA_co_6 G _ ho0) (cS_co_6 G _ ho0) dX0_take_166 (fun t166 => ?_)
  refine J_aload_n Y 0 dX0_take_167 rfl rfl ?_
  refine C_get 7 X uw_X0 (cO_co G _ ho0) rfl (by decide) rfl wfl_RX0_27 rfl dX0_take_168 ?_
  refine J_iload_n Y 1 dX0_take_171 rfl rfl ?_
  refine J_iload_n Y 3 dX0_take_172 rfl rfl ?_
  refine C_ast X (cA_co_7 G _ ho0) (cS_co_7 G _ ho0) dX0_take_173 (fun t173 => ?_)
  exact J_return Y dX0_take_174
set_option maxRecDepth 100000 in
set_option maxHeartbeats 4000000 in
theorem j_X0_take_L61 {E : JE} {G : JG} (X : JC E 9 cX0_take RX0 none 4 160 G) (o0 : Nat) (v1 : Int32) (v2 : Int32) (v3 : Int32) (v4 : Int32) (v5 : Int32) (v6 : Int32) (s0 : Int32) (ho0 : isCo o0) (σ : ST) : Jg E 9 (JF E vV) [(0, .ref (gO G o0)), (1, .int v1), (2, .int v2), (3, .int v3), (4, .int v4), (5, .int v5), (6, .int v6)] 61 [.int s0] σ (f_X0_take_L61 (gT G) o0 v1 v2 v3 v4 v5 v6 s0 σ) := by
  have Y := X.1
  unfold f_X0_take_L61
  refine J_istore [(7, .int s0), (0, .ref (gO G o0)), (1, .int v1), (2, .int v2), (3, .int v3), (4, .int v4), (5, .int v5), (6, .int v6)] Y dX0_take_61 (by decide) rfl ?_
  refine J_aload_n Y 1 dX0_take_63 rfl rfl ?_
  refine C_get 8 X uw_X0 (cO_co G _ ho0) rfl (by decide) rfl wfl_RX0_30 rfl dX0_take_64 ?_
  refine J_iload Y 7 dX0_take_67 rfl ?_
  refine J_dup2 Y dX0_take_69 rfl rfl ?_
  refine C_ald X (cA_co_8 G _ ho0) dX0_take_70 (fun x70 => ?_)
  refine J_iconst (v := (1 : Int32)) Y dX0_take_71 (by decide) ?_
  refine J_isub Y dX0_take_72 ?_
  refine C_ast X (cA_co_8 G _ ho0) (cS_co_8 G _ ho0) dX0_take_73 (fun t73 => ?_)
  refine J_iload Y 0 dX0_take_74 rfl ?_
  refine J_iload_n Y 2 dX0_take_76 rfl rfl ?_
  refine J_icmp_eq (tgt := 140) Y dX0_take_77 (by decide) ?_ ?_
  · refine J_sub [1, 2, 3, 4, 5] rfl ?_
    exact j_X0_take_L140 X o0 v1 v2 v3 v4 ho0 t73
  · refine J_iload Y 0 dX0_take_80 rfl ?_
    refine J_bipush (v := (8 : Int32)) Y dX0_take_82 (by decide) ?_
    refine J_imul Y dX0_take_84 ?_
    refine J_iload_n Y 3 dX0_take_85 rfl rfl ?_
    refine J_iadd Y dX0_take_86 ?_
    refine J_istore [(8, .int ((s0 * (8 : Int32)) + v2)), (7, .int s0), (0, .ref (gO G o0)), (1, .int v1), (2, .int v2), (3, .int v3), (4, .int v4), (5, .int v5), (6, .int v6)] Y dX0_take_87 (by decide) rfl ?_
    refine J_iload Y 7 dX0_take_89 rfl ?_
    refine J_aload_n Y 2 dX0_take_91 rfl rfl ?_
    refine C_get 8 X uw_X0 (cO_co G _ ho0) rfl (by decide) rfl wfl_RX0_30 rfl dX0_take_92 ?_
    refine J_iload Y 8 dX0_take_95 rfl ?_
    refine C_ald X (cA_co_8 G _ ho0) dX0_take_97 (fun x97 => ?_)
    refine J_bipush (v := (9 : Int32)) Y dX0_take_98 (by decide) ?_
    refine J_aload_n Y 2 dX0_take_100 rfl rfl ?_
    refine C_get 8 X uw_X0 (cO_co G _ ho0) rfl (by decide) rfl wfl_RX0_30 rfl dX0_take_101 ?_
    refine J_iload Y 0 dX0_take_104 rfl ?_
    refine C_ald X (cA_co_8 G _ ho0) dX0_take_106 (fun x106 => ?_)
    refine J_isub Y dX0_take_107 ?_
    refine J_mmin (st := [.int v5]) Y wml_RX0_115 wst_Lib_Math_min wini_RJ9 wco_Lib_Math_min (Nat.le_of_ble_eq_true rfl) (Nat.le_of_ble_eq_true rfl) dX0_take_108 ?_
    refine J_mmin (st := []) Y wml_RX0_115 wst_Lib_Math_min wini_RJ9 wco_Lib_Math_min (Nat.le_of_ble_eq_true rfl) (Nat.le_of_ble_eq_true rfl) dX0_take_111 ?_
    refine J_istore [(5, .int (mnI v5 (mnI x97 ((9 : Int32) - x106)))), (8, .int ((s0 * (8 : Int32)) + v2)), (7, .int s0), (0, .ref (gO G o0)), (1, .int v1), (2, .int v2), (3, .int v3), (4, .int v4), (6, .int v6)] Y dX0_take_114 (by decide) rfl ?_
    refine J_aload_n Y 3 dX0_take_116 rfl rfl ?_
    refine C_get 8 X uw_X0 (cO_co G _ ho0) rfl (by decide) rfl wfl_RX0_30 rfl dX0_take_117 ?_
    refine J_iload Y 8 dX0_take_120 rfl ?_
    refine J_dup2 Y dX0_take_122 rfl rfl ?_
    refine C_ald X (cA_co_8 G _ ho0) dX0_take_123 (fun x123 => ?_)
    refine J_iload Y 0 dX0_take_124 rfl ?_
    refine J_isub Y dX0_take_126 ?_
    refine C_ast X (cA_co_8 G _ ho0) (cS_co_8 G _ ho0) dX0_take_127 (fun t127 => ?_)
    refine J_aload_n Y 3 dX0_take_128 rfl rfl ?_
    refine C_get 8 X uw_X0 (cO_co G _ ho0) rfl (by decide) rfl wfl_RX0_30 rfl dX0_take_129 ?_
    refine J_iload Y 1 dX0_take_132 rfl ?_
    refine J_dup2 Y dX0_take_134 rfl rfl ?_
    refine C_ald X (cA_co_8 G _ ho0) dX0_take_135 (fun x135 => ?_)
    refine J_iload Y 0 dX0_take_136 rfl ?_
    refine J_iadd Y dX0_take_138 ?_
    refine C_ast X (cA_co_8 G _ ho0) (cS_co_8 G _ ho0) dX0_take_139 (fun t139 => ?_)
    refine J_sub [3, 4, 5, 6, 7] rfl ?_
    exact j_X0_take_L140 X o0 v1 v2 v3 v4 ho0 t139
set_option maxRecDepth 100000 in
set_option maxHeartbeats 4000000 in
theorem j_X0_take {E : JE} {G : JG} (X : JC E 9 cX0_take RX0 none 4 160 G) (o0 : Nat) (v1 : Int32) (v2 : Int32) (ho0 : isCo o0) (σ : ST) : Jg E 9 (JF E vV) [(0, .ref (gO G o0)), (1, .int v1), (2, .int v2)] 0 [] σ (f_X0_take (gT G) o0 v1 v2 σ) := by
  have Y := X.1
  unfold f_X0_take
  refine J_aload_n Y 0 dX0_take_0 rfl rfl ?_
  refine J_iload_n Y 1 dX0_take_1 rfl rfl ?_
  refine J_iload_n Y 2 dX0_take_2 rfl rfl ?_
  refine C_cVi (As := [.int v1, .int v2]) (st := []) rfl X (c_X0_gone G o0 v1 v2 ho0 _) (cO_co G _ ho0) rfl rfl wi_X0_gone win_X0_gone wse_X0_gone wml_RX0_106 ⟨Nat.le_of_ble_eq_true rfl, Nat.le_of_ble_eq_true rfl⟩ rfl (Nat.le_of_ble_eq_true rfl) dX0_take_3 (fun y3 t3 => ?_)
  refine J_istore_n [(3, .int y3), (0, .ref (gO G o0)), (1, .int v1), (2, .int v2)] Y dX0_take_6 rfl (by decide) rfl ?_
  refine J_aload_n Y 1 dX0_take_7 rfl rfl ?_
  refine C_get 4 X uw_X0 (cO_co G _ ho0) rfl (by decide) rfl wfl_RX0_18 rfl dX0_take_8 ?_
  refine J_iload_n Y 2 dX0_take_11 rfl rfl ?_
  refine C_ald X (cA_co_4 G _ ho0) dX0_take_12 (fun x12 => ?_)
  refine J_aload_n Y 1 dX0_take_13 rfl rfl ?_
  refine J_iload_n Y 2 dX0_take_14 rfl rfl ?_
  refine J_iload_n Y 3 dX0_take_15 rfl rfl ?_
  refine C_cVi (As := [.int v1, .int v2]) (st := [.int x12]) rfl X (c_X0_gains G o0 v1 v2 ho0 _) (cO_co G _ ho0) rfl rfl wi_X0_gains win_X0_gains wse_X0_gains wml_RX0_109 ⟨Nat.le_of_ble_eq_true rfl, Nat.le_of_ble_eq_true rfl⟩ rfl (Nat.le_of_ble_eq_true rfl) dX0_take_16 (fun y16 t16 => ?_)
  refine J_iadd Y dX0_take_19 ?_
  refine J_iconst (v := (0 : Int32)) Y dX0_take_20 (by decide) ?_
  refine J_bipush (v := (99 : Int32)) Y dX0_take_21 (by decide) ?_
  refine C_cNi (As := [.int (x12 + y16), .int (0 : Int32), .int (99 : Int32)]) (st := []) rfl X (c_X4_bounded G (x12 + y16) (0 : Int32) (99 : Int32) _) wi_X4_bounded wst_X4_bounded (C_n93 X) ⟨Nat.le_of_ble_eq_true rfl, Nat.le_of_ble_eq_true rfl⟩ rfl (Nat.le_of_ble_eq_true rfl) dX0_take_23 (fun y23 t23 => ?_)
  refine J_istore [(4, .int y23), (3, .int y3), (0, .ref (gO G o0)), (1, .int v1), (2, .int v2)] Y dX0_take_26 (by decide) rfl ?_
  refine J_aload_n Y 2 dX0_take_28 rfl rfl ?_
  refine J_iload_n Y 3 dX0_take_29 rfl rfl ?_
  refine J_iload_n Y 4 dX0_take_30 rfl rfl ?_
  refine C_cVi (As := [.int v1, .int v2]) (st := []) rfl X (c_X0_spills G o0 v1 v2 ho0 _) (cO_co G _ ho0) rfl rfl wi_X0_spills win_X0_spills wse_X0_spills wml_RX0_112 ⟨Nat.le_of_ble_eq_true rfl, Nat.le_of_ble_eq_true rfl⟩ rfl (Nat.le_of_ble_eq_true rfl) dX0_take_31 (fun y31 t31 => ?_)
  refine J_istore [(5, .int y31), (4, .int y23), (3, .int y3), (0, .ref (gO G o0)), (1, .int v1), (2, .int v2)] Y dX0_take_34 (by decide) rfl ?_
  refine J_iload_n Y 4 dX0_take_36 rfl rfl ?_
  refine J_bipush (v := (8 : Int32)) Y dX0_take_37 (by decide) ?_
  refine J_imul Y dX0_take_39 ?_
  refine J_iload_n Y 5 dX0_take_40 rfl rfl ?_
  refine J_iadd Y dX0_take_41 ?_
  refine J_istore [(6, .int ((v1 * (8 : Int32)) + v2)), (5, .int y31), (4, .int y23), (3, .int y3), (0, .ref (gO G o0)), (1, .int v1), (2, .int v2)] Y dX0_take_42 (by decide) rfl ?_
  refine J_iload_n Y 5 dX0_take_44 rfl rfl ?_
  refine J_iconst (v := (1 : Int32)) Y dX0_take_45 (by decide) ?_
  refine J_iadd Y dX0_take_46 ?_
  refine J_aload_n Y 4 dX0_take_47 rfl rfl ?_
  refine C_get 9 X uw_X0 (cO_co G _ ho0) rfl (by decide) rfl wfl_RX0_46 rfl dX0_take_48 ?_
  refine J_icmp_ge (tgt := 60) Y dX0_take_51 (by decide) ?_ ?_
  · refine J_iconst (v := (0 : Int32)) Y dX0_take_60 (by decide) ?_
    refine J_sub [4, 5, 6, 3, 2, 1, 0] rfl ?_
    exact j_X0_take_L61 X o0 v1 v2 y3 y23 y31 ((v1 * (8 : Int32)) + v2) (0 : Int32) ho0 t31
  · refine J_iload_n Y 5 dX0_take_54 rfl rfl ?_
    refine J_iconst (v := (1 : Int32)) Y dX0_take_55 (by decide) ?_
    refine J_iadd Y dX0_take_56 ?_
    refine J_goto (tgt := 61) Y dX0_take_57 (by decide) ?_
    refine J_sub [4, 5, 6, 3, 2, 1, 0] rfl ?_
    exact j_X0_take_L61 X o0 v1 v2 y3 y23 y31 ((v1 * (8 : Int32)) + v2) (v1 + (1 : Int32)) ho0 t31
theorem c_X0_take (G : JG) (o0 : Nat) (v1 : Int32) (v2 : Int32) (ho0 : isCo o0) (σ : ST) : Con (VC G) vV G.1 yX0_take cX0_take 9 none 4 160 [.ref (gO G o0), .int v1, .int v2] σ (f_X0_take (gT G) o0 v1 v2 σ) :=
  Con_of (VC_ok G) (by decide +kernel) (Nat.le_of_ble_eq_true rfl) (fun E e1 e2 _ X => j_X0_take ⟨X, e1, e2⟩ o0 v1 v2 ho0 σ)
set_option maxRecDepth 100000 in
set_option maxHeartbeats 4000000 in
theorem j_X0_tries_L19 {E : JE} {G : JG} (X : JC E 2 cX0_tries RX0 (some .boolean) 5 200 G) (σ : ST) : Jg E 2 (JF E vI) [] 19 [] σ (f_X0_tries_L19 (gT G) σ) := by
  have Y := X.1
  unfold f_X0_tries_L19
  refine J_iconst (v := (0 : Int32)) Y dX0_tries_19 (by decide) ?_
  exact J_zreturn Y dX0_tries_20
set_option maxRecDepth 100000 in
set_option maxHeartbeats 4000000 in
theorem j_X0_tries {E : JE} {G : JG} (X : JC E 2 cX0_tries RX0 (some .boolean) 5 200 G) (o0 : Nat) (v1 : Int32) (ho0 : isCo o0) (σ : ST) : Jg E 2 (JF E vI) [(0, .ref (gO G o0)), (1, .int v1)] 0 [] σ (f_X0_tries (gT G) o0 v1 σ) := by
  have Y := X.1
  unfold f_X0_tries
  refine J_iload_n Y 1 dX0_tries_0 rfl rfl ?_
  refine J_if_lt (tgt := 19) Y dX0_tries_1 (by decide) ?_ ?_
  · refine J_sub [] rfl ?_
    exact j_X0_tries_L19 X  σ
  · refine J_aload_n Y 0 dX0_tries_4 rfl rfl ?_
    refine J_iload_n Y 1 dX0_tries_5 rfl rfl ?_
    refine J_bipush (v := (10 : Int32)) Y dX0_tries_6 (by decide) ?_
    refine J_idiv Y dX0_tries_8 (by decide) ?_
    refine J_iload_n Y 1 dX0_tries_9 rfl rfl ?_
    refine J_bipush (v := (10 : Int32)) Y dX0_tries_10 (by decide) ?_
    refine J_irem Y dX0_tries_12 (by decide) ?_
    refine C_cVi (As := [.int (v1 / (10 : Int32)), .int (v1 - v1 / (10 : Int32) * (10 : Int32))]) (st := []) rfl X (c_X0_can G o0 (v1 / (10 : Int32)) (v1 - v1 / (10 : Int32) * (10 : Int32)) ho0 _) (cO_co G _ ho0) rfl rfl wi_X0_can win_X0_can wse_X0_can wml_RX0_118 ⟨Nat.le_of_ble_eq_true rfl, Nat.le_of_ble_eq_true rfl⟩ rfl (Nat.le_of_ble_eq_true rfl) dX0_tries_13 (fun y13 t13 => ?_)
    refine J_if_ne (tgt := 21) Y dX0_tries_16 (by decide) ?_ ?_
    · refine J_aload_n Y 0 dX0_tries_21 rfl rfl ?_
      refine J_iload_n Y 1 dX0_tries_22 rfl rfl ?_
      refine J_bipush (v := (10 : Int32)) Y dX0_tries_23 (by decide) ?_
      refine J_idiv Y dX0_tries_25 (by decide) ?_
      refine J_iload_n Y 1 dX0_tries_26 rfl rfl ?_
      refine J_bipush (v := (10 : Int32)) Y dX0_tries_27 (by decide) ?_
      refine J_irem Y dX0_tries_29 (by decide) ?_
      refine C_cVv (As := [.int (v1 / (10 : Int32)), .int (v1 - v1 / (10 : Int32) * (10 : Int32))]) (st := []) rfl X (c_X0_take G o0 (v1 / (10 : Int32)) (v1 - v1 / (10 : Int32) * (10 : Int32)) ho0 _) (cO_co G _ ho0) rfl rfl wi_X0_take win_X0_take wse_X0_take wml_RX0_121 ⟨Nat.le_of_ble_eq_true rfl, Nat.le_of_ble_eq_true rfl⟩ rfl (Nat.le_of_ble_eq_true rfl) dX0_tries_30 (fun t30 => ?_)
      refine J_iconst (v := (1 : Int32)) Y dX0_tries_33 (by decide) ?_
      exact J_zreturn Y dX0_tries_34
    · refine J_sub [] rfl ?_
      exact j_X0_tries_L19 X  t13
theorem c_X0_tries (G : JG) (o0 : Nat) (v1 : Int32) (ho0 : isCo o0) (σ : ST) : Con (VC G) vI G.1 yX0_tries cX0_tries 2 (some .boolean) 5 200 [.ref (gO G o0), .int v1] σ (f_X0_tries (gT G) o0 v1 σ) :=
  Con_of (VC_ok G) (by decide +kernel) (Nat.le_of_ble_eq_true rfl) (fun E e1 e2 _ X => j_X0_tries ⟨X, e1, e2⟩ o0 v1 ho0 σ)
set_option maxRecDepth 100000 in
set_option maxHeartbeats 4000000 in
theorem j_X0_pass_L61 {E : JE} {G : JG} (X : JC E 3 cX0_pass RX0 (some .int) 0 0 G) {k4 : Nat → Int32 → Int32 → ST → Option (Int32 × ST)} (hk4 : ∀ (o0 : Nat) (v1 : Int32) (v2 : Int32) (ho0 : isCo o0) (σ : ST), Jg E 3 (JF E vI) [(0, .ref (gO G o0)), (1, .int v1), (2, .int v2)] 4 [] σ (k4 o0 v1 v2 σ)) (o0 : Nat) (v1 : Int32) (v2 : Int32) (ho0 : isCo o0) (σ : ST) : Jg E 3 (JF E vI) [(0, .ref (gO G o0)), (1, .int v1), (2, .int v2)] 61 [] σ (f_X0_pass_L61 (gT G) k4 o0 v1 v2 σ) := by
  have Y := X.1
  unfold f_X0_pass_L61
  refine J_iinc (v := v2 + (1 : Int32)) [(2, .int (v2 + (1 : Int32))), (0, .ref (gO G o0)), (1, .int v1)] Y 2 dX0_pass_61 rfl (congrArg (fun z => _ + z) (by decide)) (by decide) rfl ?_
  refine J_goto (tgt := 4) Y dX0_pass_64 (by decide) ?_
  refine J_sub [1, 2, 0] rfl ?_
  exact hk4 o0 v1 (v2 + (1 : Int32)) ho0 σ
set_option maxRecDepth 100000 in
set_option maxHeartbeats 4000000 in
theorem j_X0_pass_L67 {E : JE} {G : JG} (X : JC E 3 cX0_pass RX0 (some .int) 0 0 G) (o0 : Nat) (v1 : Int32) (ho0 : isCo o0) (σ : ST) : Jg E 3 (JF E vI) [(0, .ref (gO G o0)), (1, .int v1)] 67 [] σ (f_X0_pass_L67 (gT G) o0 v1 σ) := by
  have Y := X.1
  unfold f_X0_pass_L67
  refine J_aload_n Y 0 dX0_pass_67 rfl rfl ?_
  refine J_dup Y dX0_pass_68 rfl ?_
  refine C_get 10 X uw_X0 (cO_co G _ ho0) rfl (by decide) rfl wfl_RX0_50 rfl dX0_pass_69 ?_
  refine J_iconst (v := (1 : Int32)) Y dX0_pass_72 (by decide) ?_
  refine J_iadd Y dX0_pass_73 ?_
  refine C_put 10 o0 (ty := .int) X uw_X0 tyX0 tyX0_ok nmX0 (cO_co G _ ho0) rfl (by decide) rfl wfl_RX0_50 rfl rfl (by decide +kernel) rfl (Nat.le_of_ble_eq_true rfl) (cF_co_10 G _ _ ho0) dX0_pass_74 (fun t74 => ?_)
  refine J_iload_n Y 1 dX0_pass_77 rfl rfl ?_
  exact J_ireturn Y dX0_pass_78
set_option maxRecDepth 100000 in
set_option maxHeartbeats 4000000 in
theorem j_X0_pass_L4 {E : JE} {G : JG} (X : JC E 3 cX0_pass RX0 (some .int) 0 0 G) : ∀ (n : Nat) (o0 : Nat) (v1 : Int32) (v2 : Int32) (ho0 : isCo o0) (σ : ST), Jg E 3 (JF E vI) [(0, .ref (gO G o0)), (1, .int v1), (2, .int v2)] 4 [] σ (f_X0_pass_L4 (gT G) n o0 v1 v2 σ) := by
  have Y := X.1
  intro n
  induction n with
  | zero => intro o0 v1 v2 ho0 σ; rw [f_X0_pass_L4]; exact J_none
  | succ n ih =>
    intro o0 v1 v2 ho0 σ
    rw [f_X0_pass_L4]
    refine J_iload_n Y 2 dX0_pass_4 rfl rfl ?_
    refine J_aload_n Y 0 dX0_pass_5 rfl rfl ?_
    refine C_get 9 X uw_X0 (cO_co G _ ho0) rfl (by decide) rfl wfl_RX0_46 rfl dX0_pass_6 ?_
    refine J_icmp_ge (tgt := 67) Y dX0_pass_9 (by decide) ?_ ?_
    · refine J_sub [0, 1] rfl ?_
      exact j_X0_pass_L67 X o0 v1 ho0 σ
    · refine J_aload_n Y 0 dX0_pass_12 rfl rfl ?_
      refine C_get 6 X uw_X0 (cO_co G _ ho0) rfl (by decide) rfl wfl_RX0_24 rfl dX0_pass_13 ?_
      refine J_iload_n Y 2 dX0_pass_16 rfl rfl ?_
      refine C_ald X (cA_co_6 G _ ho0) dX0_pass_17 (fun x17 => ?_)
      refine J_iconst (v := (-1 : Int32)) Y dX0_pass_18 (by decide) ?_
      refine J_icmp_eq (tgt := 61) Y dX0_pass_19 (by decide) ?_ ?_
      · exact j_X0_pass_L61 X (fun o0 v1 v2 ho0 σ => ih o0 v1 v2 ho0 σ) o0 v1 v2 ho0 σ
      · refine J_aload_n Y 0 dX0_pass_22 rfl rfl ?_
        refine C_get 7 X uw_X0 (cO_co G _ ho0) rfl (by decide) rfl wfl_RX0_27 rfl dX0_pass_23 ?_
        refine J_iload_n Y 2 dX0_pass_26 rfl rfl ?_
        refine J_dup2 Y dX0_pass_27 rfl rfl ?_
        refine C_ald X (cA_co_7 G _ ho0) dX0_pass_28 (fun x28 => ?_)
        refine J_iconst (v := (1 : Int32)) Y dX0_pass_29 (by decide) ?_
        refine J_isub Y dX0_pass_30 ?_
        refine C_ast X (cA_co_7 G _ ho0) (cS_co_7 G _ ho0) dX0_pass_31 (fun t31 => ?_)
        refine J_aload_n Y 0 dX0_pass_32 rfl rfl ?_
        refine C_get 7 X uw_X0 (cO_co G _ ho0) rfl (by decide) rfl wfl_RX0_27 rfl dX0_pass_33 ?_
        refine J_iload_n Y 2 dX0_pass_36 rfl rfl ?_
        refine C_ald X (cA_co_7 G _ ho0) dX0_pass_37 (fun x37 => ?_)
        refine J_if_gt (tgt := 61) Y dX0_pass_38 (by decide) ?_ ?_
        · exact j_X0_pass_L61 X (fun o0 v1 v2 ho0 σ => ih o0 v1 v2 ho0 σ) o0 v1 v2 ho0 t31
        · refine J_aload_n Y 0 dX0_pass_41 rfl rfl ?_
          refine C_get 7 X uw_X0 (cO_co G _ ho0) rfl (by decide) rfl wfl_RX0_27 rfl dX0_pass_42 ?_
          refine J_iload_n Y 2 dX0_pass_45 rfl rfl ?_
          refine J_iconst (v := (0 : Int32)) Y dX0_pass_46 (by decide) ?_
          refine C_ast X (cA_co_7 G _ ho0) (cS_co_7 G _ ho0) dX0_pass_47 (fun t47 => ?_)
          refine J_aload_n Y 0 dX0_pass_48 rfl rfl ?_
          refine C_get 6 X uw_X0 (cO_co G _ ho0) rfl (by decide) rfl wfl_RX0_24 rfl dX0_pass_49 ?_
          refine J_iload_n Y 2 dX0_pass_52 rfl rfl ?_
          refine J_iconst (v := (-1 : Int32)) Y dX0_pass_53 (by decide) ?_
          refine C_ast X (cA_co_6 G _ ho0) (cS_co_6 G _ ho0) dX0_pass_54 (fun t54 => ?_)
          refine J_iload_n Y 1 dX0_pass_55 rfl rfl ?_
          refine J_iconst (v := (1 : Int32)) Y dX0_pass_56 (by decide) ?_
          refine J_iload_n Y 2 dX0_pass_57 rfl rfl ?_
          refine J_ishl Y dX0_pass_58 ?_
          refine J_ior Y dX0_pass_59 ?_
          refine J_istore_n [(1, .int (v1 ||| ((1 : Int32) <<< (v2 &&& 31)))), (0, .ref (gO G o0)), (2, .int v2)] Y dX0_pass_60 rfl (by decide) rfl ?_
          refine J_sub [1, 0, 2] rfl ?_
          exact j_X0_pass_L61 X (fun o0 v1 v2 ho0 σ => ih o0 v1 v2 ho0 σ) o0 (v1 ||| ((1 : Int32) <<< (v2 &&& 31))) v2 ho0 t54
set_option maxRecDepth 100000 in
set_option maxHeartbeats 4000000 in
theorem j_X0_pass {E : JE} {G : JG} (X : JC E 3 cX0_pass RX0 (some .int) 0 0 G) (o0 : Nat) (ho0 : isCo o0) (σ : ST) : Jg E 3 (JF E vI) [(0, .ref (gO G o0))] 0 [] σ (f_X0_pass (gT G) o0 σ) := by
  have Y := X.1
  unfold f_X0_pass
  refine J_iconst (v := (0 : Int32)) Y dX0_pass_0 (by decide) ?_
  refine J_istore_n [(1, .int (0 : Int32)), (0, .ref (gO G o0))] Y dX0_pass_1 rfl (by decide) rfl ?_
  refine J_iconst (v := (0 : Int32)) Y dX0_pass_2 (by decide) ?_
  refine J_istore_n [(2, .int (0 : Int32)), (1, .int (0 : Int32)), (0, .ref (gO G o0))] Y dX0_pass_3 rfl (by decide) rfl ?_
  refine J_sub [2, 1, 0] rfl ?_
  exact j_X0_pass_L4 X 1000 o0 (0 : Int32) (0 : Int32) ho0 σ
theorem c_X0_pass (G : JG) (o0 : Nat) (ho0 : isCo o0) (σ : ST) : Con (VC G) vI G.1 yX0_pass cX0_pass 3 (some .int) 0 0 [.ref (gO G o0)] σ (f_X0_pass (gT G) o0 σ) :=
  Con_of (VC_ok G) (by decide +kernel) (Nat.le_of_ble_eq_true rfl) (fun E e1 e2 _ X => j_X0_pass ⟨X, e1, e2⟩ o0 ho0 σ)
