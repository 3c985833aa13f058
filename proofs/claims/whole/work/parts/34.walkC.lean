set_option maxRecDepth 100000 in
set_option maxHeartbeats 4000000 in
theorem j_X4_which_L108 {E : JE} {G : JG} (X : JC E 7 cX4_which RX4 (some .int) 4 160 G) {k42 : Int32 → Int32 → Int32 → Int32 → Int32 → ST → Option (Int32 × ST)} (hk42 : ∀ (v1 : Int32) (v2 : Int32) (v3 : Int32) (v4 : Int32) (v5 : Int32) (σ : ST), Jg E 7 (JF E vI) [(0, .ref (gO G 0)), (1, .int v1), (2, .int v2), (3, .int v3), (4, .int v4), (5, .int v5)] 42 [] σ (k42 v1 v2 v3 v4 v5 σ)) (v1 : Int32) (v2 : Int32) (v3 : Int32) (v4 : Int32) (v5 : Int32) (σ : ST) : Jg E 7 (JF E vI) [(0, .ref (gO G 0)), (1, .int v1), (2, .int v2), (3, .int v3), (4, .int v4), (5, .int v5)] 108 [] σ (f_X4_which_L108 (gT G) k42 v1 v2 v3 v4 v5 σ) := by
  have Y := X.1
  unfold f_X4_which_L108
  refine J_iinc (v := v5 + (1 : Int32)) [(5, .int (v5 + (1 : Int32))), (0, .ref (gO G 0)), (1, .int v1), (2, .int v2), (3, .int v3), (4, .int v4)] Y 5 dX4_which_108 rfl (congrArg (fun z => _ + z) (by decide)) (by decide) rfl ?_
  refine J_goto (tgt := 42) Y dX4_which_111 (by decide) ?_
  refine J_sub [1, 2, 3, 4, 5, 0] rfl ?_
  exact hk42 v1 v2 v3 v4 (v5 + (1 : Int32)) σ
set_option maxRecDepth 100000 in
set_option maxHeartbeats 4000000 in
theorem j_X4_which_L101 {E : JE} {G : JG} (X : JC E 7 cX4_which RX4 (some .int) 4 160 G) {k42 : Int32 → Int32 → Int32 → Int32 → Int32 → ST → Option (Int32 × ST)} (hk42 : ∀ (v1 : Int32) (v2 : Int32) (v3 : Int32) (v4 : Int32) (v5 : Int32) (σ : ST), Jg E 7 (JF E vI) [(0, .ref (gO G 0)), (1, .int v1), (2, .int v2), (3, .int v3), (4, .int v4), (5, .int v5)] 42 [] σ (k42 v1 v2 v3 v4 v5 σ)) (v1 : Int32) (v2 : Int32) (v5 : Int32) (v6 : Int32) (σ : ST) : Jg E 7 (JF E vI) [(0, .ref (gO G 0)), (1, .int v1), (2, .int v2), (5, .int v5), (6, .int v6)] 101 [] σ (f_X4_which_L101 (gT G) k42 v1 v2 v5 v6 σ) := by
  have Y := X.1
  unfold f_X4_which_L101
  refine J_iload Y 3 dX4_which_101 rfl ?_
  refine J_istore_n [(3, .int v5), (0, .ref (gO G 0)), (1, .int v1), (2, .int v2), (5, .int v5), (6, .int v6)] Y dX4_which_103 rfl (by decide) rfl ?_
  refine J_iload Y 5 dX4_which_104 rfl ?_
  refine J_istore [(4, .int v6), (3, .int v5), (0, .ref (gO G 0)), (1, .int v1), (2, .int v2), (5, .int v5), (6, .int v6)] Y dX4_which_106 (by decide) rfl ?_
  refine J_sub [2, 3, 4, 1, 0, 5] rfl ?_
  exact j_X4_which_L108 X hk42 v1 v2 v5 v6 v5 σ
set_option maxRecDepth 100000 in
set_option maxHeartbeats 4000000 in
theorem j_X4_which_L124 {E : JE} {G : JG} (X : JC E 7 cX4_which RX4 (some .int) 4 160 G) (s0 : Int32) (σ : ST) : Jg E 7 (JF E vI) [] 124 [.int s0] σ (f_X4_which_L124 (gT G) s0 σ) := by
  have Y := X.1
  unfold f_X4_which_L124
  exact J_ireturn Y dX4_which_124
set_option maxRecDepth 100000 in
set_option maxHeartbeats 4000000 in
theorem j_X4_which_L114 {E : JE} {G : JG} (X : JC E 7 cX4_which RX4 (some .int) 4 160 G) (v2 : Int32) (v3 : Int32) (v4 : Int32) (σ : ST) : Jg E 7 (JF E vI) [(2, .int v2), (3, .int v3), (4, .int v4)] 114 [] σ (f_X4_which_L114 (gT G) v2 v3 v4 σ) := by
  have Y := X.1
  unfold f_X4_which_L114
  refine J_iload_n Y 0 dX4_which_114 rfl rfl ?_
  refine J_if_ne (tgt := 122) Y dX4_which_115 (by decide) ?_ ?_
  · refine J_iload Y 2 dX4_which_122 rfl ?_
    refine J_sub [] rfl ?_
    exact j_X4_which_L124 X v4 σ
  · refine J_iload_n Y 1 dX4_which_118 rfl rfl ?_
    refine J_goto (tgt := 124) Y dX4_which_119 (by decide) ?_
    refine J_sub [] rfl ?_
    exact j_X4_which_L124 X v3 σ
set_option maxRecDepth 100000 in
set_option maxHeartbeats 4000000 in
theorem j_X4_which_L42 {E : JE} {G : JG} (X : JC E 7 cX4_which RX4 (some .int) 4 160 G) : ∀ (n : Nat) (v1 : Int32) (v2 : Int32) (v3 : Int32) (v4 : Int32) (v5 : Int32) (σ : ST), Jg E 7 (JF E vI) [(0, .ref (gO G 0)), (1, .int v1), (2, .int v2), (3, .int v3), (4, .int v4), (5, .int v5)] 42 [] σ (f_X4_which_L42 (gT G) n v1 v2 v3 v4 v5 σ) := by
  have Y := X.1
  intro n
  induction n with
  | zero => intro v1 v2 v3 v4 v5 σ; rw [f_X4_which_L42]; exact J_none
  | succ n ih =>
    intro v1 v2 v3 v4 v5 σ
    rw [f_X4_which_L42]
    refine J_iload Y 5 dX4_which_42 rfl ?_
    refine J_bipush (v := (8 : Int32)) Y dX4_which_44 (by decide) ?_
    refine J_icmp_ge (tgt := 114) Y dX4_which_46 (by decide) ?_ ?_
    · refine J_sub [2, 3, 4] rfl ?_
      exact j_X4_which_L114 X v2 v3 v4 σ
    · refine J_aload_n Y 0 dX4_which_49 rfl rfl ?_
      refine C_get 3 X uw_X4 (cO_0 G _) rfl (by decide) rfl wfl_RX4_58 rfl dX4_which_50 ?_
      refine J_iload_n Y 1 dX4_which_53 rfl rfl ?_
      refine J_iload Y 5 dX4_which_54 rfl ?_
      refine C_cVi (As := [.int v1, .int v5]) (st := []) rfl X (c_X0_can G 2 v1 v5 (Or.inl rfl) _) (cO_co G _ (Or.inl rfl)) rfl rfl wi_X0_can win_X0_can wse_X0_can wml_RX4_147 ⟨Nat.le_of_ble_eq_true rfl, Nat.le_of_ble_eq_true rfl⟩ rfl (Nat.le_of_ble_eq_true rfl) dX4_which_56 (fun y56 t56 => ?_)
      refine J_if_eq (tgt := 108) Y dX4_which_59 (by decide) ?_ ?_
      · exact j_X4_which_L108 X (fun v1 v2 v3 v4 v5 σ => ih v1 v2 v3 v4 v5 σ) v1 v2 v3 v4 v5 t56
      · refine J_aload_n Y 0 dX4_which_62 rfl rfl ?_
        refine C_get 3 X uw_X4 (cO_0 G _) rfl (by decide) rfl wfl_RX4_58 rfl dX4_which_63 ?_
        refine C_get 4 X uw_X0 (cO_co G _ (Or.inl rfl)) rfl (by decide) rfl wfl_RX4_119 rfl dX4_which_66 ?_
        refine J_iload_n Y 1 dX4_which_69 rfl rfl ?_
        refine C_ald X (cA_co_4 G _ (Or.inl rfl)) dX4_which_70 (fun x70 => ?_)
        refine J_aload_n Y 0 dX4_which_71 rfl rfl ?_
        refine C_get 3 X uw_X4 (cO_0 G _) rfl (by decide) rfl wfl_RX4_58 rfl dX4_which_72 ?_
        refine J_iload_n Y 1 dX4_which_75 rfl rfl ?_
        refine J_iload Y 5 dX4_which_76 rfl ?_
        refine C_cVi (As := [.int v1, .int v5]) (st := [.int x70]) rfl X (c_X0_gains G 2 v1 v5 (Or.inl rfl) _) (cO_co G _ (Or.inl rfl)) rfl rfl wi_X0_gains win_X0_gains wse_X0_gains wml_RX4_141 ⟨Nat.le_of_ble_eq_true rfl, Nat.le_of_ble_eq_true rfl⟩ rfl (Nat.le_of_ble_eq_true rfl) dX4_which_78 (fun y78 t78 => ?_)
        refine J_iadd Y dX4_which_81 ?_
        refine J_iconst (v := (0 : Int32)) Y dX4_which_82 (by decide) ?_
        refine J_bipush (v := (99 : Int32)) Y dX4_which_83 (by decide) ?_
        refine C_cSi (As := [.int (x70 + y78), .int (0 : Int32), .int (99 : Int32)]) (st := []) rfl X (c_X4_bounded G (x70 + y78) (0 : Int32) (99 : Int32) _) wi_X4_bounded wst_X4_bounded wml_RX4_187 ⟨Nat.le_of_ble_eq_true rfl, Nat.le_of_ble_eq_true rfl⟩ rfl (Nat.le_of_ble_eq_true rfl) dX4_which_85 (fun y85 t85 => ?_)
        refine J_istore [(6, .int y85), (0, .ref (gO G 0)), (1, .int v1), (2, .int v2), (3, .int v3), (4, .int v4), (5, .int v5)] Y dX4_which_88 (by decide) rfl ?_
        refine J_iload_n Y 4 dX4_which_90 rfl rfl ?_
        refine J_if_lt (tgt := 101) Y dX4_which_91 (by decide) ?_ ?_
        · refine J_sub [1, 2, 3, 6, 0] rfl ?_
          exact j_X4_which_L101 X (fun v1 v2 v3 v4 v5 σ => ih v1 v2 v3 v4 v5 σ) v1 v2 v5 y85 t85
        · refine J_iload Y 0 dX4_which_94 rfl ?_
          refine J_iload Y 5 dX4_which_96 rfl ?_
          refine J_icmp_le (tgt := 108) Y dX4_which_98 (by decide) ?_ ?_
          · refine J_sub [1, 2, 3, 4, 5, 6] rfl ?_
            exact j_X4_which_L108 X (fun v1 v2 v3 v4 v5 σ => ih v1 v2 v3 v4 v5 σ) v1 v2 v3 v4 v5 t85
          · refine J_sub [1, 2, 3, 6, 0] rfl ?_
            exact j_X4_which_L101 X (fun v1 v2 v3 v4 v5 σ => ih v1 v2 v3 v4 v5 σ) v1 v2 v5 y85 t85
set_option maxRecDepth 100000 in
set_option maxHeartbeats 4000000 in
theorem j_X4_which {E : JE} {G : JG} (X : JC E 7 cX4_which RX4 (some .int) 4 160 G) (v1 : Int32) (v2 : Int32) (σ : ST) : Jg E 7 (JF E vI) [(0, .ref (gO G 0)), (1, .int v1), (2, .int v2)] 0 [] σ (f_X4_which (gT G) v1 v2 σ) := by
  have Y := X.1
  unfold f_X4_which
  refine J_aload_n Y 0 dX4_which_0 rfl rfl ?_
  refine C_get 3 X uw_X4 (cO_0 G _) rfl (by decide) rfl wfl_RX4_58 rfl dX4_which_1 ?_
  refine J_iload_n Y 1 dX4_which_4 rfl rfl ?_
  refine C_cVi (As := [.int v1]) (st := []) rfl X (c_X0_has G 2 v1 (Or.inl rfl) _) (cO_co G _ (Or.inl rfl)) rfl rfl wi_X0_has win_X0_has wse_X0_has wml_RX4_100 ⟨Nat.le_of_ble_eq_true rfl, Nat.le_of_ble_eq_true rfl⟩ rfl (Nat.le_of_ble_eq_true rfl) dX4_which_5 (fun y5 t5 => ?_)
  refine J_if_ne (tgt := 14) Y dX4_which_8 (by decide) ?_ ?_
  · refine J_iload_n Y 2 dX4_which_14 rfl rfl ?_
    refine J_iconst (v := (0 : Int32)) Y dX4_which_15 (by decide) ?_
    refine J_iconst (v := (1 : Int32)) Y dX4_which_16 (by decide) ?_
    refine C_cSi (As := [.int v2, .int (0 : Int32), .int (1 : Int32)]) (st := []) rfl X (c_X4_within G v2 (0 : Int32) (1 : Int32) _) wi_X4_within wst_X4_within wml_RX4_89 ⟨Nat.le_of_ble_eq_true rfl, Nat.le_of_ble_eq_true rfl⟩ rfl (Nat.le_of_ble_eq_true rfl) dX4_which_17 (fun y17 t17 => ?_)
    refine J_if_ne (tgt := 26) Y dX4_which_20 (by decide) ?_ ?_
    · refine J_iconst (v := (-1 : Int32)) Y dX4_which_26 (by decide) ?_
      refine J_istore_n [(3, .int (-1 : Int32)), (0, .ref (gO G 0)), (1, .int v1), (2, .int v2)] Y dX4_which_27 rfl (by decide) rfl ?_
      refine J_aload_n Y 1 dX4_which_28 rfl rfl ?_
      refine C_get 3 X uw_X4 (cO_0 G _) rfl (by decide) rfl wfl_RX4_58 rfl dX4_which_29 ?_
      refine C_get 4 X uw_X0 (cO_co G _ (Or.inl rfl)) rfl (by decide) rfl wfl_RX4_119 rfl dX4_which_32 ?_
      refine J_iload_n Y 2 dX4_which_35 rfl rfl ?_
      refine C_ald X (cA_co_4 G _ (Or.inl rfl)) dX4_which_36 (fun x36 => ?_)
      refine J_istore [(4, .int x36), (3, .int (-1 : Int32)), (0, .ref (gO G 0)), (1, .int v1), (2, .int v2)] Y dX4_which_37 (by decide) rfl ?_
      refine J_iconst (v := (0 : Int32)) Y dX4_which_39 (by decide) ?_
      refine J_istore [(5, .int (0 : Int32)), (4, .int x36), (3, .int (-1 : Int32)), (0, .ref (gO G 0)), (1, .int v1), (2, .int v2)] Y dX4_which_40 (by decide) rfl ?_
      refine J_sub [3, 4, 5, 2, 1, 0] rfl ?_
      exact j_X4_which_L42 X 1000 v1 v2 (-1 : Int32) x36 (0 : Int32) t17
    · refine J_bipush (v := (-7 : Int32)) Y dX4_which_23 (by decide) ?_
      exact J_ireturn Y dX4_which_25
  · refine J_bipush (v := (-5 : Int32)) Y dX4_which_11 (by decide) ?_
    exact J_ireturn Y dX4_which_13
theorem c_X4_which (G : JG) (v1 : Int32) (v2 : Int32) (σ : ST) : Con (VC G) vI G.1 yX4_which cX4_which 7 (some .int) 4 160 [.ref (gO G 0), .int v1, .int v2] σ (f_X4_which (gT G) v1 v2 σ) :=
  Con_of (VC_ok G) (by decide +kernel) (Nat.le_of_ble_eq_true rfl) (fun E e1 e2 _ X => j_X4_which ⟨X, e1, e2⟩ v1 v2 σ)
set_option maxRecDepth 100000 in
set_option maxHeartbeats 4000000 in
theorem j_X4_tourMinutes_L73 {E : JE} {G : JG} (X : JC E 4 cX4_tourMinutes RX4 (some .int) 5 200 G) {k13 : Int32 → Int32 → ST → Option (Int32 × ST)} (hk13 : ∀ (v1 : Int32) (v2 : Int32) (σ : ST), Jg E 4 (JF E vI) [(0, .ref (gO G 0)), (1, .int v1), (2, .int v2)] 13 [] σ (k13 v1 v2 σ)) (v1 : Int32) (v2 : Int32) (σ : ST) : Jg E 4 (JF E vI) [(0, .ref (gO G 0)), (1, .int v1), (2, .int v2)] 73 [] σ (f_X4_tourMinutes_L73 (gT G) k13 v1 v2 σ) := by
  have Y := X.1
  unfold f_X4_tourMinutes_L73
  refine J_aload_n Y 0 dX4_tourMinutes_73 rfl rfl ?_
  refine C_get 4 X uw_X4 (cO_0 G _) rfl (by decide) rfl wfl_RX4_62 rfl dX4_tourMinutes_74 ?_
  refine C_cVi (As := []) (st := []) rfl X (c_X0_pass G 3 (Or.inr (Or.inl rfl)) _) (cO_co G _ (Or.inr (Or.inl rfl))) rfl rfl wi_X0_pass win_X0_pass wse_X0_pass wml_RX4_155 ⟨Nat.le_of_ble_eq_true rfl, Nat.le_of_ble_eq_true rfl⟩ rfl (Nat.le_of_ble_eq_true rfl) dX4_tourMinutes_77 (fun y77 t77 => ?_)
  refine J_pop Y dX4_tourMinutes_80 rfl ?_
  refine J_iinc (v := v2 + (1 : Int32)) [(2, .int (v2 + (1 : Int32))), (0, .ref (gO G 0)), (1, .int v1)] Y 2 dX4_tourMinutes_81 rfl (congrArg (fun z => _ + z) (by decide)) (by decide) rfl ?_
  refine J_goto (tgt := 13) Y dX4_tourMinutes_84 (by decide) ?_
  refine J_sub [1, 2, 0] rfl ?_
  exact hk13 v1 (v2 + (1 : Int32)) t77
set_option maxRecDepth 100000 in
set_option maxHeartbeats 4000000 in
theorem j_X4_tourMinutes_L13 {E : JE} {G : JG} (X : JC E 4 cX4_tourMinutes RX4 (some .int) 5 200 G) : ∀ (n : Nat) (v1 : Int32) (v2 : Int32) (σ : ST), Jg E 4 (JF E vI) [(0, .ref (gO G 0)), (1, .int v1), (2, .int v2)] 13 [] σ (f_X4_tourMinutes_L13 (gT G) n v1 v2 σ) := by
  have Y := X.1
  intro n
  induction n with
  | zero => intro v1 v2 σ; rw [f_X4_tourMinutes_L13]; exact J_none
  | succ n ih =>
    intro v1 v2 σ
    rw [f_X4_tourMinutes_L13]
    refine J_iload_n Y 2 dX4_tourMinutes_13 rfl rfl ?_
    refine J_sipush (v := (200 : Int32)) Y dX4_tourMinutes_14 (by decide) ?_
    refine J_icmp_gt (tgt := 87) Y dX4_tourMinutes_17 (by decide) ?_ ?_
    · refine J_iconst (v := (-1 : Int32)) Y dX4_tourMinutes_87 (by decide) ?_
      exact J_ireturn Y dX4_tourMinutes_88
    · refine J_aload_n Y 0 dX4_tourMinutes_20 rfl rfl ?_
      refine C_get 4 X uw_X4 (cO_0 G _) rfl (by decide) rfl wfl_RX4_62 rfl dX4_tourMinutes_21 ?_
      refine C_get 6 X uw_X0 (cO_co G _ (Or.inr (Or.inl rfl))) rfl (by decide) rfl wfl_RX4_131 rfl dX4_tourMinutes_24 ?_
      refine J_iload_n Y 1 dX4_tourMinutes_27 rfl rfl ?_
      refine C_ald X (cA_co_6 G _ (Or.inr (Or.inl rfl))) dX4_tourMinutes_28 (fun x28 => ?_)
      refine J_iconst (v := (-1 : Int32)) Y dX4_tourMinutes_29 (by decide) ?_
      refine J_icmp_ne (tgt := 73) Y dX4_tourMinutes_30 (by decide) ?_ ?_
      · exact j_X4_tourMinutes_L73 X (fun v1 v2 σ => ih v1 v2 σ) v1 v2 σ
      · refine J_aload_n Y 0 dX4_tourMinutes_33 rfl rfl ?_
        refine C_get 4 X uw_X4 (cO_0 G _) rfl (by decide) rfl wfl_RX4_62 rfl dX4_tourMinutes_34 ?_
        refine J_iload_n Y 1 dX4_tourMinutes_37 rfl rfl ?_
        refine C_cVi (As := [.int v1]) (st := []) rfl X (c_X0_firstUnseen G 3 v1 (Or.inr (Or.inl rfl)) _) (cO_co G _ (Or.inr (Or.inl rfl))) rfl rfl wi_X0_firstUnseen win_X0_firstUnseen wse_X0_firstUnseen wml_RX4_196 ⟨Nat.le_of_ble_eq_true rfl, Nat.le_of_ble_eq_true rfl⟩ rfl (Nat.le_of_ble_eq_true rfl) dX4_tourMinutes_38 (fun y38 t38 => ?_)
        refine J_istore_n [(3, .int y38), (0, .ref (gO G 0)), (1, .int v1), (2, .int v2)] Y dX4_tourMinutes_41 rfl (by decide) rfl ?_
        refine J_iload_n Y 0 dX4_tourMinutes_42 rfl rfl ?_
        refine J_bipush (v := (8 : Int32)) Y dX4_tourMinutes_43 (by decide) ?_
        refine J_icmp_ne (tgt := 50) Y dX4_tourMinutes_45 (by decide) ?_ ?_
        · refine J_aload_n Y 1 dX4_tourMinutes_50 rfl rfl ?_
          refine C_get 4 X uw_X4 (cO_0 G _) rfl (by decide) rfl wfl_RX4_62 rfl dX4_tourMinutes_51 ?_
          refine J_iload_n Y 2 dX4_tourMinutes_54 rfl rfl ?_
          refine J_iload_n Y 0 dX4_tourMinutes_55 rfl rfl ?_
          refine C_cVi (As := [.int v1, .int y38]) (st := []) rfl X (c_X0_can G 3 v1 y38 (Or.inr (Or.inl rfl)) _) (cO_co G _ (Or.inr (Or.inl rfl))) rfl rfl wi_X0_can win_X0_can wse_X0_can wml_RX4_147 ⟨Nat.le_of_ble_eq_true rfl, Nat.le_of_ble_eq_true rfl⟩ rfl (Nat.le_of_ble_eq_true rfl) dX4_tourMinutes_56 (fun y56 t56 => ?_)
          refine J_if_ne (tgt := 64) Y dX4_tourMinutes_59 (by decide) ?_ ?_
          · refine J_aload_n Y 1 dX4_tourMinutes_64 rfl rfl ?_
            refine C_get 4 X uw_X4 (cO_0 G _) rfl (by decide) rfl wfl_RX4_62 rfl dX4_tourMinutes_65 ?_
            refine J_iload_n Y 2 dX4_tourMinutes_68 rfl rfl ?_
            refine J_iload_n Y 0 dX4_tourMinutes_69 rfl rfl ?_
            refine C_cVv (As := [.int v1, .int y38]) (st := []) rfl X (c_X0_take G 3 v1 y38 (Or.inr (Or.inl rfl)) _) (cO_co G _ (Or.inr (Or.inl rfl))) rfl rfl wi_X0_take win_X0_take wse_X0_take wml_RX4_151 ⟨Nat.le_of_ble_eq_true rfl, Nat.le_of_ble_eq_true rfl⟩ rfl (Nat.le_of_ble_eq_true rfl) dX4_tourMinutes_70 (fun t70 => ?_)
            refine J_sub [1, 2, 3] rfl ?_
            exact j_X4_tourMinutes_L73 X (fun v1 v2 σ => ih v1 v2 σ) v1 v2 t70
          · refine J_iconst (v := (-1 : Int32)) Y dX4_tourMinutes_62 (by decide) ?_
            exact J_ireturn Y dX4_tourMinutes_63
        · refine J_iload_n Y 3 dX4_tourMinutes_48 rfl rfl ?_
          exact J_ireturn Y dX4_tourMinutes_49
set_option maxRecDepth 100000 in
set_option maxHeartbeats 4000000 in
theorem j_X4_tourMinutes {E : JE} {G : JG} (X : JC E 4 cX4_tourMinutes RX4 (some .int) 5 200 G) (v1 : Int32) (σ : ST) : Jg E 4 (JF E vI) [(0, .ref (gO G 0)), (1, .int v1)] 0 [] σ (f_X4_tourMinutes (gT G) v1 σ) := by
  have Y := X.1
  unfold f_X4_tourMinutes
  refine J_aload_n Y 0 dX4_tourMinutes_0 rfl rfl ?_
  refine C_get 4 X uw_X4 (cO_0 G _) rfl (by decide) rfl wfl_RX4_62 rfl dX4_tourMinutes_1 ?_
  refine J_aload_n Y 0 dX4_tourMinutes_4 rfl rfl ?_
  refine C_get 3 X uw_X4 (cO_0 G _) rfl (by decide) rfl wfl_RX4_58 rfl dX4_tourMinutes_5 ?_
  refine C_cVv (As := [.ref (gO G 2)]) (st := []) rfl X (c_X0_becomes G 3 2 (Or.inr (Or.inl rfl)) (Or.inl rfl) _) (cO_co G _ (Or.inr (Or.inl rfl))) rfl rfl wi_X0_becomes win_X0_becomes wse_X0_becomes wml_RX4_168 ⟨Nat.le_of_ble_eq_true rfl, Nat.le_of_ble_eq_true rfl⟩ rfl (Nat.le_of_ble_eq_true rfl) dX4_tourMinutes_8 (fun t8 => ?_)
  refine J_iconst (v := (0 : Int32)) Y dX4_tourMinutes_11 (by decide) ?_
  refine J_istore_n [(2, .int (0 : Int32)), (0, .ref (gO G 0)), (1, .int v1)] Y dX4_tourMinutes_12 rfl (by decide) rfl ?_
  refine J_sub [1, 2, 0] rfl ?_
  exact j_X4_tourMinutes_L13 X 1000 v1 (0 : Int32) t8
theorem c_X4_tourMinutes (G : JG) (v1 : Int32) (σ : ST) : Con (VC G) vI G.1 yX4_tourMinutes cX4_tourMinutes 4 (some .int) 5 200 [.ref (gO G 0), .int v1] σ (f_X4_tourMinutes (gT G) v1 σ) :=
  Con_of (VC_ok G) (by decide +kernel) (Nat.le_of_ble_eq_true rfl) (fun E e1 e2 _ X => j_X4_tourMinutes ⟨X, e1, e2⟩ v1 σ)
set_option maxRecDepth 100000 in
set_option maxHeartbeats 4000000 in
theorem j_X4_tour_L74 {E : JE} {G : JG} (X : JC E 5 cX4_tour RX4 (some .int) 6 240 G) {k31 : Int32 → Int32 → Int32 → Int32 → ST → Option (Int32 × ST)} (hk31 : ∀ (v1 : Int32) (v2 : Int32) (v3 : Int32) (v4 : Int32) (σ : ST), Jg E 5 (JF E vI) [(0, .ref (gO G 0)), (1, .int v1), (2, .int v2), (3, .int v3), (4, .int v4)] 31 [] σ (k31 v1 v2 v3 v4 σ)) (v1 : Int32) (v2 : Int32) (v3 : Int32) (v4 : Int32) (σ : ST) : Jg E 5 (JF E vI) [(0, .ref (gO G 0)), (1, .int v1), (2, .int v2), (3, .int v3), (4, .int v4)] 74 [] σ (f_X4_tour_L74 (gT G) k31 v1 v2 v3 v4 σ) := by
  have Y := X.1
  unfold f_X4_tour_L74
  refine J_iinc (v := v4 + (1 : Int32)) [(4, .int (v4 + (1 : Int32))), (0, .ref (gO G 0)), (1, .int v1), (2, .int v2), (3, .int v3)] Y 4 dX4_tour_74 rfl (congrArg (fun z => _ + z) (by decide)) (by decide) rfl ?_
  refine J_goto (tgt := 31) Y dX4_tour_77 (by decide) ?_
  refine J_sub [1, 2, 3, 4, 0] rfl ?_
  exact hk31 v1 v2 v3 (v4 + (1 : Int32)) σ
set_option maxRecDepth 100000 in
set_option maxHeartbeats 4000000 in
theorem j_X4_tour_L93 {E : JE} {G : JG} (X : JC E 5 cX4_tour RX4 (some .int) 6 240 G) (s0 : Int32) (σ : ST) : Jg E 5 (JF E vI) [] 93 [.int s0] σ (f_X4_tour_L93 (gT G) s0 σ) := by
  have Y := X.1
  unfold f_X4_tour_L93
  exact J_ireturn Y dX4_tour_93
set_option maxRecDepth 100000 in
set_option maxHeartbeats 4000000 in
theorem j_X4_tour_L80 {E : JE} {G : JG} (X : JC E 5 cX4_tour RX4 (some .int) 6 240 G) (v1 : Int32) (v2 : Int32) (v3 : Int32) (σ : ST) : Jg E 5 (JF E vI) [(0, .ref (gO G 0)), (1, .int v1), (2, .int v2), (3, .int v3)] 80 [] σ (f_X4_tour_L80 (gT G) v1 v2 v3 σ) := by
  have Y := X.1
  unfold f_X4_tour_L80
  refine J_iload_n Y 2 dX4_tour_80 rfl rfl ?_
  refine J_if_ne (tgt := 88) Y dX4_tour_81 (by decide) ?_ ?_
  · refine J_aload_n Y 0 dX4_tour_88 rfl rfl ?_
    refine J_iload_n Y 1 dX4_tour_89 rfl rfl ?_
    refine C_cVi (As := [.int v1]) (st := []) rfl X (c_X4_tourMinutes G v1 _) (cO_0 G _) rfl rfl wi_X4_tourMinutes win_X4_tourMinutes wse_X4_tourMinutes wml_RX4_193 ⟨Nat.le_of_ble_eq_true rfl, Nat.le_of_ble_eq_true rfl⟩ rfl (Nat.le_of_ble_eq_true rfl) dX4_tour_90 (fun y90 t90 => ?_)
    refine J_sub [] rfl ?_
    exact j_X4_tour_L93 X y90 t90
  · refine J_iload_n Y 3 dX4_tour_84 rfl rfl ?_
    refine J_goto (tgt := 93) Y dX4_tour_85 (by decide) ?_
    refine J_sub [] rfl ?_
    exact j_X4_tour_L93 X v3 σ
set_option maxRecDepth 100000 in
set_option maxHeartbeats 4000000 in
theorem j_X4_tour_L31 {E : JE} {G : JG} (X : JC E 5 cX4_tour RX4 (some .int) 6 240 G) : ∀ (n : Nat) (v1 : Int32) (v2 : Int32) (v3 : Int32) (v4 : Int32) (σ : ST), Jg E 5 (JF E vI) [(0, .ref (gO G 0)), (1, .int v1), (2, .int v2), (3, .int v3), (4, .int v4)] 31 [] σ (f_X4_tour_L31 (gT G) n v1 v2 v3 v4 σ) := by
  have Y := X.1
  intro n
  induction n with
  | zero => intro v1 v2 v3 v4 σ; rw [f_X4_tour_L31]; exact J_none
  | succ n ih =>
    intro v1 v2 v3 v4 σ
    rw [f_X4_tour_L31]
    refine J_iload Y 4 dX4_tour_31 rfl ?_
    refine J_bipush (v := (8 : Int32)) Y dX4_tour_33 (by decide) ?_
    refine J_icmp_ge (tgt := 80) Y dX4_tour_35 (by decide) ?_ ?_
    · refine J_sub [0, 1, 2, 3] rfl ?_
      exact j_X4_tour_L80 X v1 v2 v3 σ
    · refine J_aload_n Y 0 dX4_tour_38 rfl rfl ?_
      refine C_get 3 X uw_X4 (cO_0 G _) rfl (by decide) rfl wfl_RX4_58 rfl dX4_tour_39 ?_
      refine J_iload_n Y 1 dX4_tour_42 rfl rfl ?_
      refine J_iload Y 4 dX4_tour_43 rfl ?_
      refine C_cVi (As := [.int v1, .int v4]) (st := []) rfl X (c_X0_hasSand G 2 v1 v4 (Or.inl rfl) _) (cO_co G _ (Or.inl rfl)) rfl rfl wi_X0_hasSand win_X0_hasSand wse_X0_hasSand wml_RX4_190 ⟨Nat.le_of_ble_eq_true rfl, Nat.le_of_ble_eq_true rfl⟩ rfl (Nat.le_of_ble_eq_true rfl) dX4_tour_45 (fun y45 t45 => ?_)
      refine J_if_ne (tgt := 74) Y dX4_tour_48 (by decide) ?_ ?_
      · exact j_X4_tour_L74 X (fun v1 v2 v3 v4 σ => ih v1 v2 v3 v4 σ) v1 v2 v3 v4 t45
      · refine J_aload_n Y 0 dX4_tour_51 rfl rfl ?_
        refine C_get 3 X uw_X4 (cO_0 G _) rfl (by decide) rfl wfl_RX4_58 rfl dX4_tour_52 ?_
        refine C_get 8 X uw_X0 (cO_co G _ (Or.inl rfl)) rfl (by decide) rfl wfl_RX4_116 rfl dX4_tour_55 ?_
        refine J_iload_n Y 1 dX4_tour_58 rfl rfl ?_
        refine J_bipush (v := (8 : Int32)) Y dX4_tour_59 (by decide) ?_
        refine J_imul Y dX4_tour_61 ?_
        refine J_iload Y 4 dX4_tour_62 rfl ?_
        refine J_iadd Y dX4_tour_64 ?_
        refine C_ald X (cA_co_8 G _ (Or.inl rfl)) dX4_tour_65 (fun x65 => ?_)
        refine J_if_gt (tgt := 71) Y dX4_tour_66 (by decide) ?_ ?_
        · refine J_iinc (v := v3 + (1 : Int32)) [(3, .int (v3 + (1 : Int32))), (0, .ref (gO G 0)), (1, .int v1), (2, .int v2), (4, .int v4)] Y 3 dX4_tour_71 rfl (congrArg (fun z => _ + z) (by decide)) (by decide) rfl ?_
          refine J_sub [1, 2, 3, 0, 4] rfl ?_
          exact j_X4_tour_L74 X (fun v1 v2 v3 v4 σ => ih v1 v2 v3 v4 σ) v1 v2 (v3 + (1 : Int32)) v4 t45
        · refine J_iconst (v := (-1 : Int32)) Y dX4_tour_69 (by decide) ?_
          exact J_ireturn Y dX4_tour_70
set_option maxRecDepth 100000 in
set_option maxHeartbeats 4000000 in
theorem j_X4_tour {E : JE} {G : JG} (X : JC E 5 cX4_tour RX4 (some .int) 6 240 G) (v1 : Int32) (v2 : Int32) (σ : ST) : Jg E 5 (JF E vI) [(0, .ref (gO G 0)), (1, .int v1), (2, .int v2)] 0 [] σ (f_X4_tour (gT G) v1 v2 σ) := by
  have Y := X.1
  unfold f_X4_tour
  refine J_aload_n Y 0 dX4_tour_0 rfl rfl ?_
  refine C_get 3 X uw_X4 (cO_0 G _) rfl (by decide) rfl wfl_RX4_58 rfl dX4_tour_1 ?_
  refine J_iload_n Y 1 dX4_tour_4 rfl rfl ?_
  refine C_cVi (As := [.int v1]) (st := []) rfl X (c_X0_has G 2 v1 (Or.inl rfl) _) (cO_co G _ (Or.inl rfl)) rfl rfl wi_X0_has win_X0_has wse_X0_has wml_RX4_100 ⟨Nat.le_of_ble_eq_true rfl, Nat.le_of_ble_eq_true rfl⟩ rfl (Nat.le_of_ble_eq_true rfl) dX4_tour_5 (fun y5 t5 => ?_)
  refine J_if_ne (tgt := 14) Y dX4_tour_8 (by decide) ?_ ?_
  · refine J_iload_n Y 2 dX4_tour_14 rfl rfl ?_
    refine J_iconst (v := (0 : Int32)) Y dX4_tour_15 (by decide) ?_
    refine J_iconst (v := (1 : Int32)) Y dX4_tour_16 (by decide) ?_
    refine C_cSi (As := [.int v2, .int (0 : Int32), .int (1 : Int32)]) (st := []) rfl X (c_X4_within G v2 (0 : Int32) (1 : Int32) _) wi_X4_within wst_X4_within wml_RX4_89 ⟨Nat.le_of_ble_eq_true rfl, Nat.le_of_ble_eq_true rfl⟩ rfl (Nat.le_of_ble_eq_true rfl) dX4_tour_17 (fun y17 t17 => ?_)
    refine J_if_ne (tgt := 26) Y dX4_tour_20 (by decide) ?_ ?_
    · refine J_iconst (v := (0 : Int32)) Y dX4_tour_26 (by decide) ?_
      refine J_istore_n [(3, .int (0 : Int32)), (0, .ref (gO G 0)), (1, .int v1), (2, .int v2)] Y dX4_tour_27 rfl (by decide) rfl ?_
      refine J_iconst (v := (0 : Int32)) Y dX4_tour_28 (by decide) ?_
      refine J_istore [(4, .int (0 : Int32)), (3, .int (0 : Int32)), (0, .ref (gO G 0)), (1, .int v1), (2, .int v2)] Y dX4_tour_29 (by decide) rfl ?_
      refine J_sub [2, 3, 4, 1, 0] rfl ?_
      exact j_X4_tour_L31 X 1000 v1 v2 (0 : Int32) (0 : Int32) t17
    · refine J_bipush (v := (-7 : Int32)) Y dX4_tour_23 (by decide) ?_
      exact J_ireturn Y dX4_tour_25
  · refine J_bipush (v := (-5 : Int32)) Y dX4_tour_11 (by decide) ?_
    exact J_ireturn Y dX4_tour_13
theorem c_X4_tour (G : JG) (v1 : Int32) (v2 : Int32) (σ : ST) : Con (VC G) vI G.1 yX4_tour cX4_tour 5 (some .int) 6 240 [.ref (gO G 0), .int v1, .int v2] σ (f_X4_tour (gT G) v1 v2 σ) :=
  Con_of (VC_ok G) (by decide +kernel) (Nat.le_of_ble_eq_true rfl) (fun E e1 e2 _ X => j_X4_tour ⟨X, e1, e2⟩ v1 v2 σ)
set_option maxRecDepth 100000 in
set_option maxHeartbeats 4000000 in
theorem j_X4_witSharing_L63 {E : JE} {G : JG} (X : JC E 4 cX4_witSharing RX4 (some .int) 5 200 G) {k31 : Int32 → Int32 → ST → Option (Int32 × ST)} (hk31 : ∀ (v2 : Int32) (v3 : Int32) (σ : ST), Jg E 4 (JF E vI) [(0, .ref (gO G 0)), (2, .int v2), (3, .int v3)] 31 [] σ (k31 v2 v3 σ)) (v2 : Int32) (v3 : Int32) (σ : ST) : Jg E 4 (JF E vI) [(0, .ref (gO G 0)), (2, .int v2), (3, .int v3)] 63 [] σ (f_X4_witSharing_L63 (gT G) k31 v2 v3 σ) := by
  have Y := X.1
  unfold f_X4_witSharing_L63
  refine J_iinc (v := v3 + (1 : Int32)) [(3, .int (v3 + (1 : Int32))), (0, .ref (gO G 0)), (2, .int v2)] Y 2 dX4_witSharing_63 rfl (congrArg (fun z => _ + z) (by decide)) (by decide) rfl ?_
  refine J_goto (tgt := 31) Y dX4_witSharing_66 (by decide) ?_
  refine J_sub [1, 2, 0] rfl ?_
  exact hk31 v2 (v3 + (1 : Int32)) σ
set_option maxRecDepth 100000 in
set_option maxHeartbeats 4000000 in
theorem j_X4_witSharing_L69 {E : JE} {G : JG} (X : JC E 4 cX4_witSharing RX4 (some .int) 5 200 G) (σ : ST) : Jg E 4 (JF E vI) [(0, .ref (gO G 0))] 69 [] σ (f_X4_witSharing_L69 (gT G) σ) := by
  have Y := X.1
  unfold f_X4_witSharing_L69
  refine J_aload_n Y 0 dX4_witSharing_69 rfl rfl ?_
  refine C_get 4 X uw_X4 (cO_0 G _) rfl (by decide) rfl wfl_RX4_62 rfl dX4_witSharing_70 ?_
  refine C_cVi (As := []) (st := []) rfl X (c_X0_allWit G 3 (Or.inr (Or.inl rfl)) _) (cO_co G _ (Or.inr (Or.inl rfl))) rfl rfl wi_X0_allWit win_X0_allWit wse_X0_allWit wml_RX4_199 ⟨Nat.le_of_ble_eq_true rfl, Nat.le_of_ble_eq_true rfl⟩ rfl (Nat.le_of_ble_eq_true rfl) dX4_witSharing_73 (fun y73 t73 => ?_)
  exact J_ireturn Y dX4_witSharing_76
set_option maxRecDepth 100000 in
set_option maxHeartbeats 4000000 in
theorem j_X4_witSharing_L31 {E : JE} {G : JG} (X : JC E 4 cX4_witSharing RX4 (some .int) 5 200 G) : ∀ (n : Nat) (v2 : Int32) (v3 : Int32) (σ : ST), Jg E 4 (JF E vI) [(0, .ref (gO G 0)), (2, .int v2), (3, .int v3)] 31 [] σ (f_X4_witSharing_L31 (gT G) n v2 v3 σ) := by
  have Y := X.1
  intro n
  induction n with
  | zero => intro v2 v3 σ; rw [f_X4_witSharing_L31]; exact J_none
  | succ n ih =>
    intro v2 v3 σ
    rw [f_X4_witSharing_L31]
    refine J_iload_n Y 2 dX4_witSharing_31 rfl rfl ?_
    refine J_aload_n Y 0 dX4_witSharing_32 rfl rfl ?_
    refine C_get 4 X uw_X4 (cO_0 G _) rfl (by decide) rfl wfl_RX4_62 rfl dX4_witSharing_33 ?_
    refine C_get 9 X uw_X0 (cO_co G _ (Or.inr (Or.inl rfl))) rfl (by decide) rfl wfl_RX4_79 rfl dX4_witSharing_36 ?_
    refine J_icmp_ge (tgt := 69) Y dX4_witSharing_39 (by decide) ?_ ?_
    · refine J_sub [0] rfl ?_
      exact j_X4_witSharing_L69 X  σ
    · refine J_aload_n Y 0 dX4_witSharing_42 rfl rfl ?_
      refine C_get 4 X uw_X4 (cO_0 G _) rfl (by decide) rfl wfl_RX4_62 rfl dX4_witSharing_43 ?_
      refine J_iload_n Y 2 dX4_witSharing_46 rfl rfl ?_
      refine J_iload_n Y 1 dX4_witSharing_47 rfl rfl ?_
      refine C_cVi (As := [.int v3, .int v2]) (st := []) rfl X (c_X0_can G 3 v3 v2 (Or.inr (Or.inl rfl)) _) (cO_co G _ (Or.inr (Or.inl rfl))) rfl rfl wi_X0_can win_X0_can wse_X0_can wml_RX4_147 ⟨Nat.le_of_ble_eq_true rfl, Nat.le_of_ble_eq_true rfl⟩ rfl (Nat.le_of_ble_eq_true rfl) dX4_witSharing_48 (fun y48 t48 => ?_)
      refine J_if_eq (tgt := 63) Y dX4_witSharing_51 (by decide) ?_ ?_
      · exact j_X4_witSharing_L63 X (fun v2 v3 σ => ih v2 v3 σ) v2 v3 t48
      · refine J_aload_n Y 0 dX4_witSharing_54 rfl rfl ?_
        refine C_get 4 X uw_X4 (cO_0 G _) rfl (by decide) rfl wfl_RX4_62 rfl dX4_witSharing_55 ?_
        refine J_iload_n Y 2 dX4_witSharing_58 rfl rfl ?_
        refine J_iload_n Y 1 dX4_witSharing_59 rfl rfl ?_
        refine C_cVv (As := [.int v3, .int v2]) (st := []) rfl X (c_X0_take G 3 v3 v2 (Or.inr (Or.inl rfl)) _) (cO_co G _ (Or.inr (Or.inl rfl))) rfl rfl wi_X0_take win_X0_take wse_X0_take wml_RX4_151 ⟨Nat.le_of_ble_eq_true rfl, Nat.le_of_ble_eq_true rfl⟩ rfl (Nat.le_of_ble_eq_true rfl) dX4_witSharing_60 (fun t60 => ?_)
        exact j_X4_witSharing_L63 X (fun v2 v3 σ => ih v2 v3 σ) v2 v3 t60
set_option maxRecDepth 100000 in
set_option maxHeartbeats 4000000 in
theorem j_X4_witSharing {E : JE} {G : JG} (X : JC E 4 cX4_witSharing RX4 (some .int) 5 200 G) (v1 : Int32) (v2 : Int32) (σ : ST) : Jg E 4 (JF E vI) [(0, .ref (gO G 0)), (1, .int v1), (2, .int v2)] 0 [] σ (f_X4_witSharing (gT G) v1 v2 σ) := by
  have Y := X.1
  unfold f_X4_witSharing
  refine J_aload_n Y 0 dX4_witSharing_0 rfl rfl ?_
  refine C_get 4 X uw_X4 (cO_0 G _) rfl (by decide) rfl wfl_RX4_62 rfl dX4_witSharing_1 ?_
  refine J_aload_n Y 0 dX4_witSharing_4 rfl rfl ?_
  refine C_get 3 X uw_X4 (cO_0 G _) rfl (by decide) rfl wfl_RX4_58 rfl dX4_witSharing_5 ?_
  refine C_cVv (As := [.ref (gO G 2)]) (st := []) rfl X (c_X0_becomes G 3 2 (Or.inr (Or.inl rfl)) (Or.inl rfl) _) (cO_co G _ (Or.inr (Or.inl rfl))) rfl rfl wi_X0_becomes win_X0_becomes wse_X0_becomes wml_RX4_168 ⟨Nat.le_of_ble_eq_true rfl, Nat.le_of_ble_eq_true rfl⟩ rfl (Nat.le_of_ble_eq_true rfl) dX4_witSharing_8 (fun t8 => ?_)
  refine J_aload_n Y 0 dX4_witSharing_11 rfl rfl ?_
  refine C_get 4 X uw_X4 (cO_0 G _) rfl (by decide) rfl wfl_RX4_62 rfl dX4_witSharing_12 ?_
  refine C_get 8 X uw_X0 (cO_co G _ (Or.inr (Or.inl rfl))) rfl (by decide) rfl wfl_RX4_116 rfl dX4_witSharing_15 ?_
  refine J_iload_n Y 1 dX4_witSharing_18 rfl rfl ?_
  refine J_bipush (v := (8 : Int32)) Y dX4_witSharing_19 (by decide) ?_
  refine J_imul Y dX4_witSharing_21 ?_
  refine J_iload_n Y 2 dX4_witSharing_22 rfl rfl ?_
  refine J_iadd Y dX4_witSharing_23 ?_
  refine J_dup2 Y dX4_witSharing_24 rfl rfl ?_
  refine C_ald X (cA_co_8 G _ (Or.inr (Or.inl rfl))) dX4_witSharing_25 (fun x25 => ?_)
  refine J_iconst (v := (1 : Int32)) Y dX4_witSharing_26 (by decide) ?_
  refine J_iadd Y dX4_witSharing_27 ?_
  refine C_ast X (cA_co_8 G _ (Or.inr (Or.inl rfl))) (cS_co_8 G _ (Or.inr (Or.inl rfl))) dX4_witSharing_28 (fun t28 => ?_)
  refine J_iconst (v := (0 : Int32)) Y dX4_witSharing_29 (by decide) ?_
  refine J_istore_n [(3, .int (0 : Int32)), (0, .ref (gO G 0)), (1, .int v1), (2, .int v2)] Y dX4_witSharing_30 rfl (by decide) rfl ?_
  refine J_sub [1, 3, 0] rfl ?_
  exact j_X4_witSharing_L31 X 1000 v2 (0 : Int32) t28
theorem c_X4_witSharing (G : JG) (v1 : Int32) (v2 : Int32) (σ : ST) : Con (VC G) vI G.1 yX4_witSharing cX4_witSharing 4 (some .int) 5 200 [.ref (gO G 0), .int v1, .int v2] σ (f_X4_witSharing (gT G) v1 v2 σ) :=
  Con_of (VC_ok G) (by decide +kernel) (Nat.le_of_ble_eq_true rfl) (fun E e1 e2 _ X => j_X4_witSharing ⟨X, e1, e2⟩ v1 v2 σ)
set_option maxRecDepth 100000 in
set_option maxHeartbeats 4000000 in
theorem j_X4_share_L16 {E : JE} {G : JG} (X : JC E 7 cX4_share RX4 (some .int) 6 240 G) (σ : ST) : Jg E 7 (JF E vI) [] 16 [] σ (f_X4_share_L16 (gT G) σ) := by
  have Y := X.1
  unfold f_X4_share_L16
  refine J_bipush (v := (-2 : Int32)) Y dX4_share_16 (by decide) ?_
  exact J_ireturn Y dX4_share_18
set_option maxRecDepth 100000 in
set_option maxHeartbeats 4000000 in
theorem j_X4_share_L92 {E : JE} {G : JG} (X : JC E 7 cX4_share RX4 (some .int) 6 240 G) {k33 : Int32 → Int32 → Int32 → Int32 → Int32 → ST → Option (Int32 × ST)} (hk33 : ∀ (v1 : Int32) (v2 : Int32) (v3 : Int32) (v4 : Int32) (v5 : Int32) (σ : ST), Jg E 7 (JF E vI) [(0, .ref (gO G 0)), (1, .int v1), (2, .int v2), (3, .int v3), (4, .int v4), (5, .int v5)] 33 [] σ (k33 v1 v2 v3 v4 v5 σ)) (v1 : Int32) (v2 : Int32) (v3 : Int32) (v4 : Int32) (v5 : Int32) (σ : ST) : Jg E 7 (JF E vI) [(0, .ref (gO G 0)), (1, .int v1), (2, .int v2), (3, .int v3), (4, .int v4), (5, .int v5)] 92 [] σ (f_X4_share_L92 (gT G) k33 v1 v2 v3 v4 v5 σ) := by
  have Y := X.1
  unfold f_X4_share_L92
  refine J_iinc (v := v5 + (1 : Int32)) [(5, .int (v5 + (1 : Int32))), (0, .ref (gO G 0)), (1, .int v1), (2, .int v2), (3, .int v3), (4, .int v4)] Y 5 dX4_share_92 rfl (congrArg (fun z => _ + z) (by decide)) (by decide) rfl ?_
  refine J_goto (tgt := 33) Y dX4_share_95 (by decide) ?_
  refine J_sub [1, 2, 3, 4, 5, 0] rfl ?_
  exact hk33 v1 v2 v3 v4 (v5 + (1 : Int32)) σ
set_option maxRecDepth 100000 in
set_option maxHeartbeats 4000000 in
theorem j_X4_share_L85 {E : JE} {G : JG} (X : JC E 7 cX4_share RX4 (some .int) 6 240 G) {k33 : Int32 → Int32 → Int32 → Int32 → Int32 → ST → Option (Int32 × ST)} (hk33 : ∀ (v1 : Int32) (v2 : Int32) (v3 : Int32) (v4 : Int32) (v5 : Int32) (σ : ST), Jg E 7 (JF E vI) [(0, .ref (gO G 0)), (1, .int v1), (2, .int v2), (3, .int v3), (4, .int v4), (5, .int v5)] 33 [] σ (k33 v1 v2 v3 v4 v5 σ)) (v1 : Int32) (v2 : Int32) (v5 : Int32) (v6 : Int32) (σ : ST) : Jg E 7 (JF E vI) [(0, .ref (gO G 0)), (1, .int v1), (2, .int v2), (5, .int v5), (6, .int v6)] 85 [] σ (f_X4_share_L85 (gT G) k33 v1 v2 v5 v6 σ) := by
  have Y := X.1
  unfold f_X4_share_L85
  refine J_iload Y 3 dX4_share_85 rfl ?_
  refine J_istore_n [(3, .int v5), (0, .ref (gO G 0)), (1, .int v1), (2, .int v2), (5, .int v5), (6, .int v6)] Y dX4_share_87 rfl (by decide) rfl ?_
  refine J_iload Y 5 dX4_share_88 rfl ?_
  refine J_istore [(4, .int v6), (3, .int v5), (0, .ref (gO G 0)), (1, .int v1), (2, .int v2), (5, .int v5), (6, .int v6)] Y dX4_share_90 (by decide) rfl ?_
  refine J_sub [2, 3, 4, 1, 0, 5] rfl ?_
  exact j_X4_share_L92 X hk33 v1 v2 v5 v6 v5 σ
set_option maxRecDepth 100000 in
set_option maxHeartbeats 4000000 in
theorem j_X4_share_L108 {E : JE} {G : JG} (X : JC E 7 cX4_share RX4 (some .int) 6 240 G) (s0 : Int32) (σ : ST) : Jg E 7 (JF E vI) [] 108 [.int s0] σ (f_X4_share_L108 (gT G) s0 σ) := by
  have Y := X.1
  unfold f_X4_share_L108
  exact J_ireturn Y dX4_share_108
set_option maxRecDepth 100000 in
set_option maxHeartbeats 4000000 in
theorem j_X4_share_L98 {E : JE} {G : JG} (X : JC E 7 cX4_share RX4 (some .int) 6 240 G) (v2 : Int32) (v3 : Int32) (v4 : Int32) (σ : ST) : Jg E 7 (JF E vI) [(2, .int v2), (3, .int v3), (4, .int v4)] 98 [] σ (f_X4_share_L98 (gT G) v2 v3 v4 σ) := by
  have Y := X.1
  unfold f_X4_share_L98
  refine J_iload_n Y 0 dX4_share_98 rfl rfl ?_
  refine J_if_ne (tgt := 106) Y dX4_share_99 (by decide) ?_ ?_
  · refine J_iload Y 2 dX4_share_106 rfl ?_
    refine J_sub [] rfl ?_
    exact j_X4_share_L108 X v4 σ
  · refine J_iload_n Y 1 dX4_share_102 rfl rfl ?_
    refine J_goto (tgt := 108) Y dX4_share_103 (by decide) ?_
    refine J_sub [] rfl ?_
    exact j_X4_share_L108 X v3 σ
set_option maxRecDepth 100000 in
set_option maxHeartbeats 4000000 in
theorem j_X4_share_L33 {E : JE} {G : JG} (X : JC E 7 cX4_share RX4 (some .int) 6 240 G) : ∀ (n : Nat) (v1 : Int32) (v2 : Int32) (v3 : Int32) (v4 : Int32) (v5 : Int32) (σ : ST), Jg E 7 (JF E vI) [(0, .ref (gO G 0)), (1, .int v1), (2, .int v2), (3, .int v3), (4, .int v4), (5, .int v5)] 33 [] σ (f_X4_share_L33 (gT G) n v1 v2 v3 v4 v5 σ) := by
  have Y := X.1
  intro n
  induction n with
  | zero => intro v1 v2 v3 v4 v5 σ; rw [f_X4_share_L33]; exact J_none
  | succ n ih =>
    intro v1 v2 v3 v4 v5 σ
    rw [f_X4_share_L33]
    refine J_iload Y 5 dX4_share_33 rfl ?_
    refine J_aload_n Y 0 dX4_share_35 rfl rfl ?_
    refine C_get 3 X uw_X4 (cO_0 G _) rfl (by decide) rfl wfl_RX4_58 rfl dX4_share_36 ?_
    refine C_get 9 X uw_X0 (cO_co G _ (Or.inl rfl)) rfl (by decide) rfl wfl_RX4_79 rfl dX4_share_39 ?_
    refine J_icmp_ge (tgt := 98) Y dX4_share_42 (by decide) ?_ ?_
    · refine J_sub [2, 3, 4] rfl ?_
      exact j_X4_share_L98 X v2 v3 v4 σ
    · refine J_aload_n Y 0 dX4_share_45 rfl rfl ?_
      refine C_get 3 X uw_X4 (cO_0 G _) rfl (by decide) rfl wfl_RX4_58 rfl dX4_share_46 ?_
      refine C_get 8 X uw_X0 (cO_co G _ (Or.inl rfl)) rfl (by decide) rfl wfl_RX4_116 rfl dX4_share_49 ?_
      refine J_iload Y 5 dX4_share_52 rfl ?_
      refine J_bipush (v := (8 : Int32)) Y dX4_share_54 (by decide) ?_
      refine J_imul Y dX4_share_56 ?_
      refine J_iload_n Y 1 dX4_share_57 rfl rfl ?_
      refine J_iadd Y dX4_share_58 ?_
      refine C_ald X (cA_co_8 G _ (Or.inl rfl)) dX4_share_59 (fun x59 => ?_)
      refine J_bipush (v := (9 : Int32)) Y dX4_share_60 (by decide) ?_
      refine J_icmp_ge (tgt := 92) Y dX4_share_62 (by decide) ?_ ?_
      · exact j_X4_share_L92 X (fun v1 v2 v3 v4 v5 σ => ih v1 v2 v3 v4 v5 σ) v1 v2 v3 v4 v5 σ
      · refine J_aload_n Y 0 dX4_share_65 rfl rfl ?_
        refine J_iload Y 5 dX4_share_66 rfl ?_
        refine J_iload_n Y 1 dX4_share_68 rfl rfl ?_
        refine C_cVi (As := [.int v5, .int v1]) (st := []) rfl X (c_X4_witSharing G v5 v1 _) (cO_0 G _) rfl rfl wi_X4_witSharing win_X4_witSharing wse_X4_witSharing wml_RX4_202 ⟨Nat.le_of_ble_eq_true rfl, Nat.le_of_ble_eq_true rfl⟩ rfl (Nat.le_of_ble_eq_true rfl) dX4_share_69 (fun y69 t69 => ?_)
        refine J_istore [(6, .int y69), (0, .ref (gO G 0)), (1, .int v1), (2, .int v2), (3, .int v3), (4, .int v4), (5, .int v5)] Y dX4_share_72 (by decide) rfl ?_
        refine J_iload_n Y 4 dX4_share_74 rfl rfl ?_
        refine J_if_lt (tgt := 85) Y dX4_share_75 (by decide) ?_ ?_
        · refine J_sub [1, 2, 3, 6, 0] rfl ?_
          exact j_X4_share_L85 X (fun v1 v2 v3 v4 v5 σ => ih v1 v2 v3 v4 v5 σ) v1 v2 v5 y69 t69
        · refine J_iload Y 0 dX4_share_78 rfl ?_
          refine J_iload Y 5 dX4_share_80 rfl ?_
          refine J_icmp_le (tgt := 92) Y dX4_share_82 (by decide) ?_ ?_
          · refine J_sub [1, 2, 3, 4, 5, 6] rfl ?_
            exact j_X4_share_L92 X (fun v1 v2 v3 v4 v5 σ => ih v1 v2 v3 v4 v5 σ) v1 v2 v3 v4 v5 t69
          · refine J_sub [1, 2, 3, 6, 0] rfl ?_
            exact j_X4_share_L85 X (fun v1 v2 v3 v4 v5 σ => ih v1 v2 v3 v4 v5 σ) v1 v2 v5 y69 t69
set_option maxRecDepth 100000 in
set_option maxHeartbeats 4000000 in
theorem j_X4_share {E : JE} {G : JG} (X : JC E 7 cX4_share RX4 (some .int) 6 240 G) (v1 : Int32) (v2 : Int32) (σ : ST) : Jg E 7 (JF E vI) [(0, .ref (gO G 0)), (1, .int v1), (2, .int v2)] 0 [] σ (f_X4_share (gT G) v1 v2 σ) := by
  have Y := X.1
  unfold f_X4_share
  refine J_iload_n Y 1 dX4_share_0 rfl rfl ?_
  refine C_cSi (As := [.int v1]) (st := []) rfl X (c_X4_isSort G v1 _) wi_X4_isSort wst_X4_isSort wml_RX4_103 ⟨Nat.le_of_ble_eq_true rfl, Nat.le_of_ble_eq_true rfl⟩ rfl (Nat.le_of_ble_eq_true rfl) dX4_share_1 (fun y1 t1 => ?_)
  refine J_if_eq (tgt := 16) Y dX4_share_4 (by decide) ?_ ?_
  · refine J_sub [] rfl ?_
    exact j_X4_share_L16 X  t1
  · refine J_iload_n Y 2 dX4_share_7 rfl rfl ?_
    refine J_iconst (v := (0 : Int32)) Y dX4_share_8 (by decide) ?_
    refine J_iconst (v := (1 : Int32)) Y dX4_share_9 (by decide) ?_
    refine C_cSi (As := [.int v2, .int (0 : Int32), .int (1 : Int32)]) (st := []) rfl X (c_X4_within G v2 (0 : Int32) (1 : Int32) _) wi_X4_within wst_X4_within wml_RX4_89 ⟨Nat.le_of_ble_eq_true rfl, Nat.le_of_ble_eq_true rfl⟩ rfl (Nat.le_of_ble_eq_true rfl) dX4_share_10 (fun y10 t10 => ?_)
    refine J_if_ne (tgt := 19) Y dX4_share_13 (by decide) ?_ ?_
    · refine J_iconst (v := (-1 : Int32)) Y dX4_share_19 (by decide) ?_
      refine J_istore_n [(3, .int (-1 : Int32)), (0, .ref (gO G 0)), (1, .int v1), (2, .int v2)] Y dX4_share_20 rfl (by decide) rfl ?_
      refine J_aload_n Y 1 dX4_share_21 rfl rfl ?_
      refine C_get 3 X uw_X4 (cO_0 G _) rfl (by decide) rfl wfl_RX4_58 rfl dX4_share_22 ?_
      refine C_cVi (As := []) (st := []) rfl X (c_X0_allWit G 2 (Or.inl rfl) _) (cO_co G _ (Or.inl rfl)) rfl rfl wi_X0_allWit win_X0_allWit wse_X0_allWit wml_RX4_199 ⟨Nat.le_of_ble_eq_true rfl, Nat.le_of_ble_eq_true rfl⟩ rfl (Nat.le_of_ble_eq_true rfl) dX4_share_25 (fun y25 t25 => ?_)
      refine J_istore [(4, .int y25), (3, .int (-1 : Int32)), (0, .ref (gO G 0)), (1, .int v1), (2, .int v2)] Y dX4_share_28 (by decide) rfl ?_
      refine J_iconst (v := (0 : Int32)) Y dX4_share_30 (by decide) ?_
      refine J_istore [(5, .int (0 : Int32)), (4, .int y25), (3, .int (-1 : Int32)), (0, .ref (gO G 0)), (1, .int v1), (2, .int v2)] Y dX4_share_31 (by decide) rfl ?_
      refine J_sub [3, 4, 5, 2, 1, 0] rfl ?_
      exact j_X4_share_L33 X 1000 v1 v2 (-1 : Int32) y25 (0 : Int32) t25
    · refine J_sub [] rfl ?_
      exact j_X4_share_L16 X  t10
theorem c_X4_share (G : JG) (v1 : Int32) (v2 : Int32) (σ : ST) : Con (VC G) vI G.1 yX4_share cX4_share 7 (some .int) 6 240 [.ref (gO G 0), .int v1, .int v2] σ (f_X4_share (gT G) v1 v2 σ) :=
  Con_of (VC_ok G) (by decide +kernel) (Nat.le_of_ble_eq_true rfl) (fun E e1 e2 _ X => j_X4_share ⟨X, e1, e2⟩ v1 v2 σ)
set_option maxRecDepth 100000 in
set_option maxHeartbeats 4000000 in
theorem j_X4_lowest_L54 {E : JE} {G : JG} (X : JC E 7 cX4_lowest RX4 (some .long) 1 40 G) (v5 : Int32) (s0 : Int32) (σ : ST) : Jg E 7 (JF E vL) [(5, .int v5)] 54 [.int s0] σ (f_X4_lowest_L54 (gT G) v5 s0 σ) := by
  have Y := X.1
  unfold f_X4_lowest_L54
  refine J_iload Y 0 dX4_lowest_54 rfl ?_
  refine J_idv (fun h56 => ?_)
  refine J_idiv Y dX4_lowest_56 h56 ?_
  refine J_i2l Y dX4_lowest_57 ?_
  exact J_lreturn Y dX4_lowest_58
set_option maxRecDepth 100000 in
set_option maxHeartbeats 4000000 in
theorem j_X4_lowest_L37 {E : JE} {G : JG} (X : JC E 7 cX4_lowest RX4 (some .long) 1 40 G) (v0 : Int32) (v1 : Int32) (v2 : Int32) (v4 : Int32) (σ : ST) : Jg E 7 (JF E vL) [(0, .int v0), (1, .int v1), (2, .int v2), (4, .int v4)] 37 [] σ (f_X4_lowest_L37 (gT G) v0 v1 v2 v4 σ) := by
  have Y := X.1
  unfold f_X4_lowest_L37
  refine J_iconst (v := (1 : Int32)) Y dX4_lowest_37 (by decide) ?_
  refine J_iload Y 3 dX4_lowest_38 rfl ?_
  refine J_mmax (st := []) Y wml_RX4_179 wst_Lib_Math_max wini_RJ9 wco_Lib_Math_max (Nat.le_of_ble_eq_true rfl) (Nat.le_of_ble_eq_true rfl) dX4_lowest_40 ?_
  refine J_istore [(5, .int (mxI (1 : Int32) v4)), (0, .int v0), (1, .int v1), (2, .int v2), (4, .int v4)] Y dX4_lowest_43 (by decide) rfl ?_
  refine J_iload_n Y 3 dX4_lowest_45 rfl rfl ?_
  refine J_if_ne (tgt := 53) Y dX4_lowest_46 (by decide) ?_ ?_
  · refine J_iload_n Y 2 dX4_lowest_53 rfl rfl ?_
    refine J_sub [0] rfl ?_
    exact j_X4_lowest_L54 X (mxI (1 : Int32) v4) v1 σ
  · refine J_iload_n Y 1 dX4_lowest_49 rfl rfl ?_
    refine J_goto (tgt := 54) Y dX4_lowest_50 (by decide) ?_
    refine J_sub [0] rfl ?_
    exact j_X4_lowest_L54 X (mxI (1 : Int32) v4) v0 σ
set_option maxRecDepth 100000 in
set_option maxHeartbeats 4000000 in
theorem j_X4_lowest_L8 {E : JE} {G : JG} (X : JC E 7 cX4_lowest RX4 (some .long) 1 40 G) : ∀ (n : Nat) (v0 : Int32) (v1 : Int32) (v2 : Int32) (v3 : Int32) (v4 : Int32) (v5 : Int32) (σ : ST), Jg E 7 (JF E vL) [(0, .int v0), (1, .int v1), (2, .int v2), (3, .int v3), (4, .int v4), (5, .int v5)] 8 [] σ (f_X4_lowest_L8 (gT G) n v0 v1 v2 v3 v4 v5 σ) := by
  have Y := X.1
  intro n
  induction n with
  | zero => intro v0 v1 v2 v3 v4 v5 σ; rw [f_X4_lowest_L8]; exact J_none
  | succ n ih =>
    intro v0 v1 v2 v3 v4 v5 σ
    rw [f_X4_lowest_L8]
    refine J_iload Y 5 dX4_lowest_8 rfl ?_
    refine J_bipush (v := (100 : Int32)) Y dX4_lowest_10 (by decide) ?_
    refine J_icmp_ge (tgt := 37) Y dX4_lowest_12 (by decide) ?_ ?_
    · refine J_sub [0, 1, 2, 4] rfl ?_
      exact j_X4_lowest_L37 X v0 v1 v2 v4 σ
    · refine J_iload_n Y 3 dX4_lowest_15 rfl rfl ?_
      refine J_if_eq (tgt := 37) Y dX4_lowest_16 (by decide) ?_ ?_
      · refine J_sub [0, 1, 2, 4] rfl ?_
        exact j_X4_lowest_L37 X v0 v1 v2 v4 σ
      · refine J_iload Y 4 dX4_lowest_19 rfl ?_
        refine J_iload_n Y 3 dX4_lowest_21 rfl rfl ?_
        refine J_idv (fun h22 => ?_)
        refine J_irem Y dX4_lowest_22 h22 ?_
        refine J_istore [(6, .int (v4 - v4 / v3 * v3)), (0, .int v0), (1, .int v1), (2, .int v2), (3, .int v3), (4, .int v4), (5, .int v5)] Y dX4_lowest_23 (by decide) rfl ?_
        refine J_iload_n Y 4 dX4_lowest_25 rfl rfl ?_
        refine J_istore [(4, .int v3), (6, .int (v4 - v4 / v3 * v3)), (0, .int v0), (1, .int v1), (2, .int v2), (3, .int v3), (5, .int v5)] Y dX4_lowest_26 (by decide) rfl ?_
        refine J_iload Y 1 dX4_lowest_28 rfl ?_
        refine J_istore_n [(3, .int (v4 - v4 / v3 * v3)), (4, .int v3), (6, .int (v4 - v4 / v3 * v3)), (0, .int v0), (1, .int v1), (2, .int v2), (5, .int v5)] Y dX4_lowest_30 rfl (by decide) rfl ?_
        refine J_iinc (v := v5 + (1 : Int32)) [(5, .int (v5 + (1 : Int32))), (3, .int (v4 - v4 / v3 * v3)), (4, .int v3), (6, .int (v4 - v4 / v3 * v3)), (0, .int v0), (1, .int v1), (2, .int v2)] Y 6 dX4_lowest_31 rfl (congrArg (fun z => _ + z) (by decide)) (by decide) rfl ?_
        refine J_goto (tgt := 8) Y dX4_lowest_34 (by decide) ?_
        refine J_sub [4, 5, 6, 1, 2, 0] rfl ?_
        exact ih v0 v1 v2 (v4 - v4 / v3 * v3) v3 (v5 + (1 : Int32)) σ
set_option maxRecDepth 100000 in
set_option maxHeartbeats 4000000 in
theorem j_X4_lowest {E : JE} {G : JG} (X : JC E 7 cX4_lowest RX4 (some .long) 1 40 G) (v0 : Int32) (v1 : Int32) (v2 : Int32) (σ : ST) : Jg E 7 (JF E vL) [(0, .int v0), (1, .int v1), (2, .int v2)] 0 [] σ (f_X4_lowest (gT G) v0 v1 v2 σ) := by
  have Y := X.1
  unfold f_X4_lowest
  refine J_iload_n Y 0 dX4_lowest_0 rfl rfl ?_
  refine J_istore_n [(3, .int v0), (0, .int v0), (1, .int v1), (2, .int v2)] Y dX4_lowest_1 rfl (by decide) rfl ?_
  refine J_iload_n Y 2 dX4_lowest_2 rfl rfl ?_
  refine J_istore [(4, .int v1), (3, .int v0), (0, .int v0), (1, .int v1), (2, .int v2)] Y dX4_lowest_3 (by decide) rfl ?_
  refine J_iconst (v := (0 : Int32)) Y dX4_lowest_5 (by decide) ?_
  refine J_istore [(5, .int (0 : Int32)), (4, .int v1), (3, .int v0), (0, .int v0), (1, .int v1), (2, .int v2)] Y dX4_lowest_6 (by decide) rfl ?_
  refine J_sub [3, 4, 5, 2, 1, 0] rfl ?_
  exact j_X4_lowest_L8 X 1000 v0 v1 v2 v0 v1 (0 : Int32) σ
theorem c_X4_lowest (G : JG) (v0 : Int32) (v1 : Int32) (v2 : Int32) (σ : ST) : Con (VC G) vL G.1 yX4_lowest cX4_lowest 7 (some .long) 1 40 [.int v0, .int v1, .int v2] σ (f_X4_lowest (gT G) v0 v1 v2 σ) :=
  Con_of (VC_ok G) (by decide +kernel) (Nat.le_of_ble_eq_true rfl) (fun E e1 e2 _ X => j_X4_lowest ⟨X, e1, e2⟩ v0 v1 v2 σ)
set_option maxRecDepth 100000 in
set_option maxHeartbeats 4000000 in
theorem j_X4_box_L20 {E : JE} {G : JG} (X : JC E 5 cX4_box RX4 (some .long) 2 80 G) (σ : ST) : Jg E 5 (JF E vL) [] 20 [] σ (f_X4_box_L20 (gT G) σ) := by
  have Y := X.1
  unfold f_X4_box_L20
  refine J_ldc2 (v := (-4611686018427387904 : Int64)) Y wcl_RX4_205 dX4_box_20 ?_
  exact J_lreturn Y dX4_box_23
set_option maxRecDepth 100000 in
set_option maxHeartbeats 4000000 in
theorem j_X4_box_L82 {E : JE} {G : JG} (X : JC E 5 cX4_box RX4 (some .long) 2 80 G) (z0 : Int64) (σ : ST) : Jg E 5 (JF E vL) [] 82 [.long z0] σ (f_X4_box_L82 (gT G) z0 σ) := by
  have Y := X.1
  unfold f_X4_box_L82
  exact J_lreturn Y dX4_box_82
set_option maxRecDepth 100000 in
set_option maxHeartbeats 4000000 in
theorem j_X4_box_L59 {E : JE} {G : JG} (X : JC E 5 cX4_box RX4 (some .long) 2 80 G) (v1 : Int32) (v2 : Int32) (v3 : Int32) (σ : ST) : Jg E 5 (JF E vL) [(0, .ref (gO G 0)), (1, .int v1), (2, .int v2), (3, .int v3)] 59 [] σ (f_X4_box_L59 (gT G) v1 v2 v3 σ) := by
  have Y := X.1
  unfold f_X4_box_L59
  refine J_iload_n Y 3 dX4_box_59 rfl rfl ?_
  refine J_if_ne (tgt := 69) Y dX4_box_60 (by decide) ?_ ?_
  · refine J_aload_n Y 0 dX4_box_69 rfl rfl ?_
    refine C_get 3 X uw_X4 (cO_0 G _) rfl (by decide) rfl wfl_RX4_58 rfl dX4_box_70 ?_
    refine J_iload_n Y 1 dX4_box_73 rfl rfl ?_
    refine C_cVi (As := [.int v1]) (st := []) rfl X (c_X0_grainsOf G 2 v1 (Or.inl rfl) _) (cO_co G _ (Or.inl rfl)) rfl rfl wi_X0_grainsOf win_X0_grainsOf wse_X0_grainsOf wml_RX4_207 ⟨Nat.le_of_ble_eq_true rfl, Nat.le_of_ble_eq_true rfl⟩ rfl (Nat.le_of_ble_eq_true rfl) dX4_box_74 (fun y74 t74 => ?_)
    refine J_iload_n Y 3 dX4_box_77 rfl rfl ?_
    refine J_iload_n Y 2 dX4_box_78 rfl rfl ?_
    refine C_cSl (As := [.int y74, .int v3, .int v2]) (st := []) rfl X (c_X4_lowest G y74 v3 v2 _) wi_X4_lowest wst_X4_lowest wml_RX4_210 ⟨Nat.le_of_ble_eq_true rfl, Nat.le_of_ble_eq_true rfl⟩ rfl (Nat.le_of_ble_eq_true rfl) dX4_box_79 (fun y79 t79 => ?_)
    refine J_sub [] rfl ?_
    exact j_X4_box_L82 X y79 t79
  · refine J_ldc2 (v := (-4611686018427387904 : Int64)) Y wcl_RX4_205 dX4_box_63 ?_
    refine J_goto (tgt := 82) Y dX4_box_66 (by decide) ?_
    refine J_sub [] rfl ?_
    exact j_X4_box_L82 X (-4611686018427387904 : Int64) σ
set_option maxRecDepth 100000 in
set_option maxHeartbeats 4000000 in
theorem j_X4_box_L29 {E : JE} {G : JG} (X : JC E 5 cX4_box RX4 (some .long) 2 80 G) : ∀ (n : Nat) (v1 : Int32) (v2 : Int32) (v3 : Int32) (v4 : Int32) (σ : ST), Jg E 5 (JF E vL) [(0, .ref (gO G 0)), (1, .int v1), (2, .int v2), (3, .int v3), (4, .int v4)] 29 [] σ (f_X4_box_L29 (gT G) n v1 v2 v3 v4 σ) := by
  have Y := X.1
  intro n
  induction n with
  | zero => intro v1 v2 v3 v4 σ; rw [f_X4_box_L29]; exact J_none
  | succ n ih =>
    intro v1 v2 v3 v4 σ
    rw [f_X4_box_L29]
    refine J_iload Y 4 dX4_box_29 rfl ?_
    refine J_aload_n Y 0 dX4_box_31 rfl rfl ?_
    refine C_get 3 X uw_X4 (cO_0 G _) rfl (by decide) rfl wfl_RX4_58 rfl dX4_box_32 ?_
    refine C_get 9 X uw_X0 (cO_co G _ (Or.inl rfl)) rfl (by decide) rfl wfl_RX4_79 rfl dX4_box_35 ?_
    refine J_icmp_ge (tgt := 59) Y dX4_box_38 (by decide) ?_ ?_
    · refine J_sub [0, 1, 2, 3] rfl ?_
      exact j_X4_box_L59 X v1 v2 v3 σ
    · refine J_iload_n Y 3 dX4_box_41 rfl rfl ?_
      refine J_aload_n Y 0 dX4_box_42 rfl rfl ?_
      refine C_get 3 X uw_X4 (cO_0 G _) rfl (by decide) rfl wfl_RX4_58 rfl dX4_box_43 ?_
      refine J_iload Y 4 dX4_box_46 rfl ?_
      refine C_cVi (As := [.int v4]) (st := [.int v3]) rfl X (c_X0_grainsOf G 2 v4 (Or.inl rfl) _) (cO_co G _ (Or.inl rfl)) rfl rfl wi_X0_grainsOf win_X0_grainsOf wse_X0_grainsOf wml_RX4_207 ⟨Nat.le_of_ble_eq_true rfl, Nat.le_of_ble_eq_true rfl⟩ rfl (Nat.le_of_ble_eq_true rfl) dX4_box_48 (fun y48 t48 => ?_)
      refine J_iadd Y dX4_box_51 ?_
      refine J_istore_n [(3, .int (v3 + y48)), (0, .ref (gO G 0)), (1, .int v1), (2, .int v2), (4, .int v4)] Y dX4_box_52 rfl (by decide) rfl ?_
      refine J_iinc (v := v4 + (1 : Int32)) [(4, .int (v4 + (1 : Int32))), (3, .int (v3 + y48)), (0, .ref (gO G 0)), (1, .int v1), (2, .int v2)] Y 4 dX4_box_53 rfl (congrArg (fun z => _ + z) (by decide)) (by decide) rfl ?_
      refine J_goto (tgt := 29) Y dX4_box_56 (by decide) ?_
      refine J_sub [2, 3, 4, 1, 0] rfl ?_
      exact ih v1 v2 (v3 + y48) (v4 + (1 : Int32)) t48
set_option maxRecDepth 100000 in
set_option maxHeartbeats 4000000 in
theorem j_X4_box {E : JE} {G : JG} (X : JC E 5 cX4_box RX4 (some .long) 2 80 G) (v1 : Int32) (v2 : Int32) (σ : ST) : Jg E 5 (JF E vL) [(0, .ref (gO G 0)), (1, .int v1), (2, .int v2)] 0 [] σ (f_X4_box (gT G) v1 v2 σ) := by
  have Y := X.1
  unfold f_X4_box
  refine J_aload_n Y 0 dX4_box_0 rfl rfl ?_
  refine C_get 3 X uw_X4 (cO_0 G _) rfl (by decide) rfl wfl_RX4_58 rfl dX4_box_1 ?_
  refine J_iload_n Y 1 dX4_box_4 rfl rfl ?_
  refine C_cVi (As := [.int v1]) (st := []) rfl X (c_X0_has G 2 v1 (Or.inl rfl) _) (cO_co G _ (Or.inl rfl)) rfl rfl wi_X0_has win_X0_has wse_X0_has wml_RX4_100 ⟨Nat.le_of_ble_eq_true rfl, Nat.le_of_ble_eq_true rfl⟩ rfl (Nat.le_of_ble_eq_true rfl) dX4_box_5 (fun y5 t5 => ?_)
  refine J_if_eq (tgt := 20) Y dX4_box_8 (by decide) ?_ ?_
  · refine J_sub [] rfl ?_
    exact j_X4_box_L20 X  t5
  · refine J_iload_n Y 2 dX4_box_11 rfl rfl ?_
    refine J_iconst (v := (0 : Int32)) Y dX4_box_12 (by decide) ?_
    refine J_iconst (v := (1 : Int32)) Y dX4_box_13 (by decide) ?_
    refine C_cSi (As := [.int v2, .int (0 : Int32), .int (1 : Int32)]) (st := []) rfl X (c_X4_within G v2 (0 : Int32) (1 : Int32) _) wi_X4_within wst_X4_within wml_RX4_89 ⟨Nat.le_of_ble_eq_true rfl, Nat.le_of_ble_eq_true rfl⟩ rfl (Nat.le_of_ble_eq_true rfl) dX4_box_14 (fun y14 t14 => ?_)
    refine J_if_ne (tgt := 24) Y dX4_box_17 (by decide) ?_ ?_
    · refine J_iconst (v := (0 : Int32)) Y dX4_box_24 (by decide) ?_
      refine J_istore_n [(3, .int (0 : Int32)), (0, .ref (gO G 0)), (1, .int v1), (2, .int v2)] Y dX4_box_25 rfl (by decide) rfl ?_
      refine J_iconst (v := (0 : Int32)) Y dX4_box_26 (by decide) ?_
      refine J_istore [(4, .int (0 : Int32)), (3, .int (0 : Int32)), (0, .ref (gO G 0)), (1, .int v1), (2, .int v2)] Y dX4_box_27 (by decide) rfl ?_
      refine J_sub [2, 3, 4, 1, 0] rfl ?_
      exact j_X4_box_L29 X 1000 v1 v2 (0 : Int32) (0 : Int32) t14
    · refine J_sub [] rfl ?_
      exact j_X4_box_L20 X  t14
theorem c_X4_box (G : JG) (v1 : Int32) (v2 : Int32) (σ : ST) : Con (VC G) vL G.1 yX4_box cX4_box 5 (some .long) 2 80 [.ref (gO G 0), .int v1, .int v2] σ (f_X4_box (gT G) v1 v2 σ) :=
  Con_of (VC_ok G) (by decide +kernel) (Nat.le_of_ble_eq_true rfl) (fun E e1 e2 _ X => j_X4_box ⟨X, e1, e2⟩ v1 v2 σ)
set_option maxRecDepth 100000 in
set_option maxHeartbeats 4000000 in
theorem j_X4_otherwise_L92 {E : JE} {G : JG} (X : JC E 7 cX4_otherwise RX4 (some .int) 6 240 G) (σ : ST) : Jg E 7 (JF E vI) [] 92 [] σ (f_X4_otherwise_L92 (gT G) σ) := by
  have Y := X.1
  unfold f_X4_otherwise_L92
  refine J_iconst (v := (-1 : Int32)) Y dX4_otherwise_92 (by decide) ?_
  exact J_ireturn Y dX4_otherwise_93
set_option maxRecDepth 100000 in
set_option maxHeartbeats 4000000 in
theorem j_X4_otherwise_L19 {E : JE} {G : JG} (X : JC E 7 cX4_otherwise RX4 (some .int) 6 240 G) : ∀ (n : Nat) (v3 : Int32) (o4 : Nat) (o5 : Nat) (v6 : Int32) (ho4 : isSh o4) (ho5 : isSh o5) (σ : ST), Jg E 7 (JF E vI) [(0, .ref (gO G 0)), (3, .int v3), (4, .ref (gO G o4)), (5, .ref (gO G o5)), (6, .int v6)] 19 [] σ (f_X4_otherwise_L19 (gT G) n v3 o4 o5 v6 σ) := by
  have Y := X.1
  intro n
  induction n with
  | zero => intro v3 o4 o5 v6 ho4 ho5 σ; rw [f_X4_otherwise_L19]; exact J_none
  | succ n ih =>
    intro v3 o4 o5 v6 ho4 ho5 σ
    rw [f_X4_otherwise_L19]
    refine J_iload Y 4 dX4_otherwise_19 rfl ?_
    refine J_aload Y 3 dX4_otherwise_21 rfl ?_
    refine C_get 2 X uw_X1 (cO_sh G _ ho5) rfl (by decide) rfl wfl_RX4_172 rfl dX4_otherwise_23 ?_
    refine J_icmp_ge (tgt := 92) Y dX4_otherwise_26 (by decide) ?_ ?_
    · refine J_sub [] rfl ?_
      exact j_X4_otherwise_L92 X  σ
    · refine J_iload Y 4 dX4_otherwise_29 rfl ?_
      refine J_aload Y 2 dX4_otherwise_31 rfl ?_
      refine C_get 2 X uw_X1 (cO_sh G _ ho4) rfl (by decide) rfl wfl_RX4_172 rfl dX4_otherwise_33 ?_
      refine J_icmp_ge (tgt := 92) Y dX4_otherwise_36 (by decide) ?_ ?_
      · refine J_sub [] rfl ?_
        exact j_X4_otherwise_L92 X  σ
      · refine J_aload_n Y 0 dX4_otherwise_39 rfl rfl ?_
        refine C_get 4 X uw_X4 (cO_0 G _) rfl (by decide) rfl wfl_RX4_62 rfl dX4_otherwise_40 ?_
        refine J_aload Y 2 dX4_otherwise_43 rfl ?_
        refine C_get 0 X uw_X1 (cO_sh G _ ho4) rfl (by decide) rfl wfl_RX4_173 rfl dX4_otherwise_45 ?_
        refine J_iload Y 4 dX4_otherwise_48 rfl ?_
        refine C_ald X (cA_sh_0 G _ ho4) dX4_otherwise_50 (fun x50 => ?_)
        refine C_cVi (As := [.int x50]) (st := []) rfl X (c_X0_tries G 3 x50 (Or.inr (Or.inl rfl)) _) (cO_co G _ (Or.inr (Or.inl rfl))) rfl rfl wi_X0_tries win_X0_tries wse_X0_tries wml_RX4_176 ⟨Nat.le_of_ble_eq_true rfl, Nat.le_of_ble_eq_true rfl⟩ rfl (Nat.le_of_ble_eq_true rfl) dX4_otherwise_51 (fun y51 t51 => ?_)
        refine J_pop Y dX4_otherwise_54 rfl ?_
        refine J_aload_n Y 0 dX4_otherwise_55 rfl rfl ?_
        refine C_get 4 X uw_X4 (cO_0 G _) rfl (by decide) rfl wfl_RX4_62 rfl dX4_otherwise_56 ?_
        refine C_cVi (As := []) (st := []) rfl X (c_X0_pass G 3 (Or.inr (Or.inl rfl)) _) (cO_co G _ (Or.inr (Or.inl rfl))) rfl rfl wi_X0_pass win_X0_pass wse_X0_pass wml_RX4_155 ⟨Nat.le_of_ble_eq_true rfl, Nat.le_of_ble_eq_true rfl⟩ rfl (Nat.le_of_ble_eq_true rfl) dX4_otherwise_59 (fun y59 t59 => ?_)
        refine J_pop Y dX4_otherwise_62 rfl ?_
        refine J_aload_n Y 0 dX4_otherwise_63 rfl rfl ?_
        refine C_get 4 X uw_X4 (cO_0 G _) rfl (by decide) rfl wfl_RX4_62 rfl dX4_otherwise_64 ?_
        refine C_get 4 X uw_X0 (cO_co G _ (Or.inr (Or.inl rfl))) rfl (by decide) rfl wfl_RX4_119 rfl dX4_otherwise_67 ?_
        refine J_iload_n Y 1 dX4_otherwise_70 rfl rfl ?_
        refine C_ald X (cA_co_4 G _ (Or.inr (Or.inl rfl))) dX4_otherwise_71 (fun x71 => ?_)
        refine J_aload Y 3 dX4_otherwise_72 rfl ?_
        refine C_get 0 X uw_X1 (cO_sh G _ ho5) rfl (by decide) rfl wfl_RX4_173 rfl dX4_otherwise_74 ?_
        refine J_iload Y 4 dX4_otherwise_77 rfl ?_
        refine C_ald X (cA_sh_0 G _ ho5) dX4_otherwise_79 (fun x79 => ?_)
        refine J_icmp_eq (tgt := 86) Y dX4_otherwise_80 (by decide) ?_ ?_
        · refine J_iinc (v := v6 + (1 : Int32)) [(6, .int (v6 + (1 : Int32))), (0, .ref (gO G 0)), (3, .int v3), (4, .ref (gO G o4)), (5, .ref (gO G o5))] Y 4 dX4_otherwise_86 rfl (congrArg (fun z => _ + z) (by decide)) (by decide) rfl ?_
          refine J_goto (tgt := 19) Y dX4_otherwise_89 (by decide) ?_
          refine J_sub [1, 2, 3, 4, 0] rfl ?_
          exact ih v3 o4 o5 (v6 + (1 : Int32)) ho4 ho5 t59
        · refine J_iload Y 4 dX4_otherwise_83 rfl ?_
          exact J_ireturn Y dX4_otherwise_85
set_option maxRecDepth 100000 in
set_option maxHeartbeats 4000000 in
theorem j_X4_otherwise {E : JE} {G : JG} (X : JC E 7 cX4_otherwise RX4 (some .int) 6 240 G) (v1 : Int32) (v2 : Int32) (v3 : Int32) (σ : ST) : Jg E 7 (JF E vI) [(0, .ref (gO G 0)), (1, .int v1), (2, .int v2), (3, .int v3)] 0 [] σ (f_X4_otherwise (gT G) v1 v2 v3 σ) := by
  have Y := X.1
  unfold f_X4_otherwise
  refine J_aload_n Y 0 dX4_otherwise_0 rfl rfl ?_
  refine C_get 7 X uw_X4 (cO_0 G _) rfl (by decide) rfl wfl_RX4_71 rfl dX4_otherwise_1 ?_
  refine J_iload_n Y 1 dX4_otherwise_4 rfl rfl ?_
  refine J_chk (fun h5 => ?_)
  refine C_aalS X h5 dX4_otherwise_5 ?_
  refine J_astore [(4, .ref (gO G (5 + v1.toNatClampNeg))), (0, .ref (gO G 0)), (1, .int v1), (2, .int v2), (3, .int v3)] Y dX4_otherwise_6 (by decide) rfl ?_
  refine J_aload_n Y 1 dX4_otherwise_8 rfl rfl ?_
  refine C_get 7 X uw_X4 (cO_0 G _) rfl (by decide) rfl wfl_RX4_71 rfl dX4_otherwise_9 ?_
  refine J_iload_n Y 3 dX4_otherwise_12 rfl rfl ?_
  refine J_chk (fun h13 => ?_)
  refine C_aalS X h13 dX4_otherwise_13 ?_
  refine J_astore [(5, .ref (gO G (5 + v2.toNatClampNeg))), (4, .ref (gO G (5 + v1.toNatClampNeg))), (0, .ref (gO G 0)), (1, .int v1), (2, .int v2), (3, .int v3)] Y dX4_otherwise_14 (by decide) rfl ?_
  refine J_iconst (v := (0 : Int32)) Y dX4_otherwise_16 (by decide) ?_
  refine J_istore [(6, .int (0 : Int32)), (5, .ref (gO G (5 + v2.toNatClampNeg))), (4, .ref (gO G (5 + v1.toNatClampNeg))), (0, .ref (gO G 0)), (1, .int v1), (2, .int v2), (3, .int v3)] Y dX4_otherwise_17 (by decide) rfl ?_
  refine J_sub [3, 6, 2, 1, 0] rfl ?_
  exact j_X4_otherwise_L19 X 1000 v3 (5 + v1.toNatClampNeg) (5 + v2.toNatClampNeg) (0 : Int32) (shI h5) (shI h13) σ
theorem c_X4_otherwise (G : JG) (v1 : Int32) (v2 : Int32) (v3 : Int32) (σ : ST) : Con (VC G) vI G.1 yX4_otherwise cX4_otherwise 7 (some .int) 6 240 [.ref (gO G 0), .int v1, .int v2, .int v3] σ (f_X4_otherwise (gT G) v1 v2 v3 σ) :=
  Con_of (VC_ok G) (by decide +kernel) (Nat.le_of_ble_eq_true rfl) (fun E e1 e2 _ X => j_X4_otherwise ⟨X, e1, e2⟩ v1 v2 v3 σ)
set_option maxRecDepth 100000 in
set_option maxHeartbeats 4000000 in
theorem j_X4_refusesTold_L64 {E : JE} {G : JG} (X : JC E 4 cX4_refusesTold RX4 (some .int) 3 120 G) (s0 : Int32) (σ : ST) : Jg E 4 (JF E vI) [] 64 [.int s0] σ (f_X4_refusesTold_L64 (gT G) s0 σ) := by
  have Y := X.1
  unfold f_X4_refusesTold_L64
  exact J_ireturn Y dX4_refusesTold_64
set_option maxRecDepth 100000 in
set_option maxHeartbeats 4000000 in
theorem j_X4_refusesTold {E : JE} {G : JG} (X : JC E 4 cX4_refusesTold RX4 (some .int) 3 120 G) (v1 : Int32) (v2 : Int32) (σ : ST) : Jg E 4 (JF E vI) [(0, .ref (gO G 0)), (1, .int v1), (2, .int v2)] 0 [] σ (f_X4_refusesTold (gT G) v1 v2 σ) := by
  have Y := X.1
  unfold f_X4_refusesTold
  refine J_iload_n Y 2 dX4_refusesTold_0 rfl rfl ?_
  refine C_cSi (As := [.int v2]) (st := []) rfl X (c_X4_isSheet G v2 _) wi_X4_isSheet wst_X4_isSheet wml_RX4_223 ⟨Nat.le_of_ble_eq_true rfl, Nat.le_of_ble_eq_true rfl⟩ rfl (Nat.le_of_ble_eq_true rfl) dX4_refusesTold_1 (fun y1 t1 => ?_)
  refine J_if_ne (tgt := 10) Y dX4_refusesTold_4 (by decide) ?_ ?_
  · refine J_aload_n Y 0 dX4_refusesTold_10 rfl rfl ?_
    refine J_iload_n Y 1 dX4_refusesTold_11 rfl rfl ?_
    refine C_cVi (As := [.int v1]) (st := []) rfl X (c_X4_refusesEvening G v1 _) (cO_0 G _) rfl rfl wi_X4_refusesEvening win_X4_refusesEvening wse_X4_refusesEvening wml_RX4_165 ⟨Nat.le_of_ble_eq_true rfl, Nat.le_of_ble_eq_true rfl⟩ rfl (Nat.le_of_ble_eq_true rfl) dX4_refusesTold_12 (fun y12 t12 => ?_)
    refine J_istore_n [(3, .int y12), (0, .ref (gO G 0)), (1, .int v1), (2, .int v2)] Y dX4_refusesTold_15 rfl (by decide) rfl ?_
    refine J_iload_n Y 0 dX4_refusesTold_16 rfl rfl ?_
    refine J_if_eq (tgt := 22) Y dX4_refusesTold_17 (by decide) ?_ ?_
    · refine J_aload_n Y 1 dX4_refusesTold_22 rfl rfl ?_
      refine C_get 7 X uw_X4 (cO_0 G _) rfl (by decide) rfl wfl_RX4_71 rfl dX4_refusesTold_23 ?_
      refine J_iload_n Y 3 dX4_refusesTold_26 rfl rfl ?_
      refine J_chk (fun h27 => ?_)
      refine C_aalS X h27 dX4_refusesTold_27 ?_
      refine C_cVi (As := []) (st := []) rfl X (c_X1_isMissing G (5 + v2.toNatClampNeg) (shI h27) _) (cO_sh G _ (shI h27)) rfl rfl wi_X1_isMissing win_X1_isMissing wse_X1_isMissing wml_RX4_247 ⟨Nat.le_of_ble_eq_true rfl, Nat.le_of_ble_eq_true rfl⟩ rfl (Nat.le_of_ble_eq_true rfl) dX4_refusesTold_28 (fun y28 t28 => ?_)
      refine J_if_eq (tgt := 37) Y dX4_refusesTold_31 (by decide) ?_ ?_
      · refine J_aload_n Y 1 dX4_refusesTold_37 rfl rfl ?_
        refine C_get 7 X uw_X4 (cO_0 G _) rfl (by decide) rfl wfl_RX4_71 rfl dX4_refusesTold_38 ?_
        refine J_iload_n Y 3 dX4_refusesTold_41 rfl rfl ?_
        refine J_chk (fun h42 => ?_)
        refine C_aalS X h42 dX4_refusesTold_42 ?_
        refine C_get 2 X uw_X1 (cO_sh G _ (shI h42)) rfl (by decide) rfl wfl_RX4_172 rfl dX4_refusesTold_43 ?_
        refine J_aload_n Y 1 dX4_refusesTold_46 rfl rfl ?_
        refine C_get 7 X uw_X4 (cO_0 G _) rfl (by decide) rfl wfl_RX4_71 rfl dX4_refusesTold_47 ?_
        refine J_iload_n Y 2 dX4_refusesTold_50 rfl rfl ?_
        refine J_chk (fun h51 => ?_)
        refine C_aalS X h51 dX4_refusesTold_51 ?_
        refine C_get 2 X uw_X1 (cO_sh G _ (shI h51)) rfl (by decide) rfl wfl_RX4_172 rfl dX4_refusesTold_52 ?_
        refine J_icmp_le (tgt := 63) Y dX4_refusesTold_55 (by decide) ?_ ?_
        · refine J_iconst (v := (0 : Int32)) Y dX4_refusesTold_63 (by decide) ?_
          refine J_sub [] rfl ?_
          exact j_X4_refusesTold_L64 X (0 : Int32) t28
        · refine J_bipush (v := (-2 : Int32)) Y dX4_refusesTold_58 (by decide) ?_
          refine J_goto (tgt := 64) Y dX4_refusesTold_60 (by decide) ?_
          refine J_sub [] rfl ?_
          exact j_X4_refusesTold_L64 X (-2 : Int32) t28
      · refine J_bipush (v := (-11 : Int32)) Y dX4_refusesTold_34 (by decide) ?_
        exact J_ireturn Y dX4_refusesTold_36
    · refine J_iload_n Y 0 dX4_refusesTold_20 rfl rfl ?_
      exact J_ireturn Y dX4_refusesTold_21
  · refine J_bipush (v := (-2 : Int32)) Y dX4_refusesTold_7 (by decide) ?_
    exact J_ireturn Y dX4_refusesTold_9
theorem c_X4_refusesTold (G : JG) (v1 : Int32) (v2 : Int32) (σ : ST) : Con (VC G) vI G.1 yX4_refusesTold cX4_refusesTold 4 (some .int) 3 120 [.ref (gO G 0), .int v1, .int v2] σ (f_X4_refusesTold (gT G) v1 v2 σ) :=
  Con_of (VC_ok G) (by decide +kernel) (Nat.le_of_ble_eq_true rfl) (fun E e1 e2 _ X => j_X4_refusesTold ⟨X, e1, e2⟩ v1 v2 σ)
set_option maxRecDepth 100000 in
set_option maxHeartbeats 4000000 in
theorem j_X4_refusesJudging_L33 {E : JE} {G : JG} (X : JC E 5 cX4_refusesJudging RX4 (some .int) 4 160 G) (s0 : Int32) (σ : ST) : Jg E 5 (JF E vI) [] 33 [.int s0] σ (f_X4_refusesJudging_L33 (gT G) s0 σ) := by
  have Y := X.1
  unfold f_X4_refusesJudging_L33
  exact J_ireturn Y dX4_refusesJudging_33
set_option maxRecDepth 100000 in
set_option maxHeartbeats 4000000 in
theorem j_X4_refusesJudging {E : JE} {G : JG} (X : JC E 5 cX4_refusesJudging RX4 (some .int) 4 160 G) (v1 : Int32) (v2 : Int32) (v3 : Int32) (σ : ST) : Jg E 5 (JF E vI) [(0, .ref (gO G 0)), (1, .int v1), (2, .int v2), (3, .int v3)] 0 [] σ (f_X4_refusesJudging (gT G) v1 v2 v3 σ) := by
  have Y := X.1
  unfold f_X4_refusesJudging
  refine J_aload_n Y 0 dX4_refusesJudging_0 rfl rfl ?_
  refine J_iload_n Y 1 dX4_refusesJudging_1 rfl rfl ?_
  refine J_iload_n Y 2 dX4_refusesJudging_2 rfl rfl ?_
  refine C_cVi (As := [.int v1, .int v2]) (st := []) rfl X (c_X4_refusesTold G v1 v2 _) (cO_0 G _) rfl rfl wi_X4_refusesTold win_X4_refusesTold wse_X4_refusesTold wml_RX4_220 ⟨Nat.le_of_ble_eq_true rfl, Nat.le_of_ble_eq_true rfl⟩ rfl (Nat.le_of_ble_eq_true rfl) dX4_refusesJudging_3 (fun y3 t3 => ?_)
  refine J_istore [(4, .int y3), (0, .ref (gO G 0)), (1, .int v1), (2, .int v2), (3, .int v3)] Y dX4_refusesJudging_6 (by decide) rfl ?_
  refine J_iload Y 0 dX4_refusesJudging_8 rfl ?_
  refine J_if_eq (tgt := 16) Y dX4_refusesJudging_10 (by decide) ?_ ?_
  · refine J_aload_n Y 1 dX4_refusesJudging_16 rfl rfl ?_
    refine C_get 3 X uw_X4 (cO_0 G _) rfl (by decide) rfl wfl_RX4_58 rfl dX4_refusesJudging_17 ?_
    refine J_iload_n Y 4 dX4_refusesJudging_20 rfl rfl ?_
    refine C_cVi (As := [.int v3]) (st := []) rfl X (c_X0_has G 2 v3 (Or.inl rfl) _) (cO_co G _ (Or.inl rfl)) rfl rfl wi_X0_has win_X0_has wse_X0_has wml_RX4_100 ⟨Nat.le_of_ble_eq_true rfl, Nat.le_of_ble_eq_true rfl⟩ rfl (Nat.le_of_ble_eq_true rfl) dX4_refusesJudging_21 (fun y21 t21 => ?_)
    refine J_if_eq (tgt := 31) Y dX4_refusesJudging_24 (by decide) ?_ ?_
    · refine J_bipush (v := (-5 : Int32)) Y dX4_refusesJudging_31 (by decide) ?_
      refine J_sub [] rfl ?_
      exact j_X4_refusesJudging_L33 X (-5 : Int32) t21
    · refine J_iconst (v := (0 : Int32)) Y dX4_refusesJudging_27 (by decide) ?_
      refine J_goto (tgt := 33) Y dX4_refusesJudging_28 (by decide) ?_
      refine J_sub [] rfl ?_
      exact j_X4_refusesJudging_L33 X (0 : Int32) t21
  · refine J_iload Y 0 dX4_refusesJudging_13 rfl ?_
    exact J_ireturn Y dX4_refusesJudging_15
theorem c_X4_refusesJudging (G : JG) (v1 : Int32) (v2 : Int32) (v3 : Int32) (σ : ST) : Con (VC G) vI G.1 yX4_refusesJudging cX4_refusesJudging 5 (some .int) 4 160 [.ref (gO G 0), .int v1, .int v2, .int v3] σ (f_X4_refusesJudging (gT G) v1 v2 v3 σ) :=
  Con_of (VC_ok G) (by decide +kernel) (Nat.le_of_ble_eq_true rfl) (fun E e1 e2 _ X => j_X4_refusesJudging ⟨X, e1, e2⟩ v1 v2 v3 σ)
set_option maxRecDepth 100000 in
set_option maxHeartbeats 4000000 in
theorem j_X4_judge {E : JE} {G : JG} (X : JC E 5 cX4_judge RX4 (some .int) 7 280 G) (v1 : Int32) (v2 : Int32) (v3 : Int32) (σ : ST) : Jg E 5 (JF E vI) [(0, .ref (gO G 0)), (1, .int v1), (2, .int v2), (3, .int v3)] 0 [] σ (f_X4_judge (gT G) v1 v2 v3 σ) := by
  have Y := X.1
  unfold f_X4_judge
  refine J_aload_n Y 0 dX4_judge_0 rfl rfl ?_
  refine J_iload_n Y 1 dX4_judge_1 rfl rfl ?_
  refine J_iload_n Y 2 dX4_judge_2 rfl rfl ?_
  refine J_iload_n Y 3 dX4_judge_3 rfl rfl ?_
  refine C_cVi (As := [.int v1, .int v2, .int v3]) (st := []) rfl X (c_X4_refusesJudging G v1 v2 v3 _) (cO_0 G _) rfl rfl wi_X4_refusesJudging win_X4_refusesJudging wse_X4_refusesJudging wml_RX4_214 ⟨Nat.le_of_ble_eq_true rfl, Nat.le_of_ble_eq_true rfl⟩ rfl (Nat.le_of_ble_eq_true rfl) dX4_judge_4 (fun y4 t4 => ?_)
  refine J_istore [(4, .int y4), (0, .ref (gO G 0)), (1, .int v1), (2, .int v2), (3, .int v3)] Y dX4_judge_7 (by decide) rfl ?_
  refine J_iload Y 0 dX4_judge_9 rfl ?_
  refine J_if_eq (tgt := 17) Y dX4_judge_11 (by decide) ?_ ?_
  · refine J_aload_n Y 1 dX4_judge_17 rfl rfl ?_
    refine C_get 4 X uw_X4 (cO_0 G _) rfl (by decide) rfl wfl_RX4_62 rfl dX4_judge_18 ?_
    refine J_aload_n Y 1 dX4_judge_21 rfl rfl ?_
    refine C_get 3 X uw_X4 (cO_0 G _) rfl (by decide) rfl wfl_RX4_58 rfl dX4_judge_22 ?_
    refine C_cVv (As := [.ref (gO G 2)]) (st := []) rfl X (c_X0_becomes G 3 2 (Or.inr (Or.inl rfl)) (Or.inl rfl) _) (cO_co G _ (Or.inr (Or.inl rfl))) rfl rfl wi_X0_becomes win_X0_becomes wse_X0_becomes wml_RX4_168 ⟨Nat.le_of_ble_eq_true rfl, Nat.le_of_ble_eq_true rfl⟩ rfl (Nat.le_of_ble_eq_true rfl) dX4_judge_25 (fun t25 => ?_)
    refine J_aload_n Y 1 dX4_judge_28 rfl rfl ?_
    refine J_iload_n Y 2 dX4_judge_29 rfl rfl ?_
    refine J_iload_n Y 3 dX4_judge_30 rfl rfl ?_
    refine J_iload_n Y 4 dX4_judge_31 rfl rfl ?_
    refine C_cVi (As := [.int v1, .int v2, .int v3]) (st := []) rfl X (c_X4_otherwise G v1 v2 v3 _) (cO_0 G _) rfl rfl wi_X4_otherwise win_X4_otherwise wse_X4_otherwise wml_RX4_217 ⟨Nat.le_of_ble_eq_true rfl, Nat.le_of_ble_eq_true rfl⟩ rfl (Nat.le_of_ble_eq_true rfl) dX4_judge_32 (fun y32 t32 => ?_)
    exact J_ireturn Y dX4_judge_35
  · refine J_iload Y 0 dX4_judge_14 rfl ?_
    exact J_ireturn Y dX4_judge_16
theorem c_X4_judge (G : JG) (v1 : Int32) (v2 : Int32) (v3 : Int32) (σ : ST) : Con (VC G) vI G.1 yX4_judge cX4_judge 5 (some .int) 7 280 [.ref (gO G 0), .int v1, .int v2, .int v3] σ (f_X4_judge (gT G) v1 v2 v3 σ) :=
  Con_of (VC_ok G) (by decide +kernel) (Nat.le_of_ble_eq_true rfl) (fun E e1 e2 _ X => j_X4_judge ⟨X, e1, e2⟩ v1 v2 v3 σ)
set_option maxRecDepth 100000 in
set_option maxHeartbeats 4000000 in
theorem j_X4_kinds_L117 {E : JE} {G : JG} (X : JC E 9 cX4_kinds RX4 (some .int) 7 280 G) {k49 : Int32 → Int32 → Int32 → Int32 → Int32 → Int32 → Int32 → ST → Option (Int32 × ST)} (hk49 : ∀ (v1 : Int32) (v2 : Int32) (v3 : Int32) (v4 : Int32) (v6 : Int32) (v7 : Int32) (v8 : Int32) (σ : ST), Jg E 9 (JF E vI) [(0, .ref (gO G 0)), (1, .int v1), (2, .int v2), (3, .int v3), (4, .int v4), (6, .int v6), (7, .int v7), (8, .int v8)] 49 [] σ (k49 v1 v2 v3 v4 v6 v7 v8 σ)) (v1 : Int32) (v2 : Int32) (v3 : Int32) (v4 : Int32) (v6 : Int32) (v7 : Int32) (v8 : Int32) (σ : ST) : Jg E 9 (JF E vI) [(0, .ref (gO G 0)), (1, .int v1), (2, .int v2), (3, .int v3), (4, .int v4), (6, .int v6), (7, .int v7), (8, .int v8)] 117 [] σ (f_X4_kinds_L117 (gT G) k49 v1 v2 v3 v4 v6 v7 v8 σ) := by
  have Y := X.1
  unfold f_X4_kinds_L117
  refine J_iinc (v := v8 + (1 : Int32)) [(8, .int (v8 + (1 : Int32))), (0, .ref (gO G 0)), (1, .int v1), (2, .int v2), (3, .int v3), (4, .int v4), (6, .int v6), (7, .int v7)] Y 7 dX4_kinds_117 rfl (congrArg (fun z => _ + z) (by decide)) (by decide) rfl ?_
  refine J_goto (tgt := 49) Y dX4_kinds_120 (by decide) ?_
  refine J_sub [1, 2, 3, 4, 5, 6, 7, 0] rfl ?_
  exact hk49 v1 v2 v3 v4 v6 v7 (v8 + (1 : Int32)) σ
set_option maxRecDepth 100000 in
set_option maxHeartbeats 4000000 in
theorem j_X4_kinds_L97 {E : JE} {G : JG} (X : JC E 9 cX4_kinds RX4 (some .int) 7 280 G) {k49 : Int32 → Int32 → Int32 → Int32 → Int32 → Int32 → Int32 → ST → Option (Int32 × ST)} (hk49 : ∀ (v1 : Int32) (v2 : Int32) (v3 : Int32) (v4 : Int32) (v6 : Int32) (v7 : Int32) (v8 : Int32) (σ : ST), Jg E 9 (JF E vI) [(0, .ref (gO G 0)), (1, .int v1), (2, .int v2), (3, .int v3), (4, .int v4), (6, .int v6), (7, .int v7), (8, .int v8)] 49 [] σ (k49 v1 v2 v3 v4 v6 v7 v8 σ)) (v1 : Int32) (v2 : Int32) (v3 : Int32) (v4 : Int32) (v6 : Int32) (v7 : Int32) (v8 : Int32) (σ : ST) : Jg E 9 (JF E vI) [(0, .ref (gO G 0)), (1, .int v1), (2, .int v2), (3, .int v3), (4, .int v4), (6, .int v6), (7, .int v7), (8, .int v8)] 97 [] σ (f_X4_kinds_L97 (gT G) k49 v1 v2 v3 v4 v6 v7 v8 σ) := by
  have Y := X.1
  unfold f_X4_kinds_L97
  refine J_aload_n Y 0 dX4_kinds_97 rfl rfl ?_
  refine J_iload_n Y 1 dX4_kinds_98 rfl rfl ?_
  refine J_iload_n Y 2 dX4_kinds_99 rfl rfl ?_
  refine J_iload_n Y 3 dX4_kinds_100 rfl rfl ?_
  refine C_cVi (As := [.int v1, .int v2, .int v3]) (st := []) rfl X (c_X4_otherwise G v1 v2 v3 _) (cO_0 G _) rfl rfl wi_X4_otherwise win_X4_otherwise wse_X4_otherwise wml_RX4_217 ⟨Nat.le_of_ble_eq_true rfl, Nat.le_of_ble_eq_true rfl⟩ rfl (Nat.le_of_ble_eq_true rfl) dX4_kinds_101 (fun y101 t101 => ?_)
  refine J_iconst (v := (-1 : Int32)) Y dX4_kinds_104 (by decide) ?_
  refine J_icmp_ne (tgt := 117) Y dX4_kinds_105 (by decide) ?_ ?_
  · exact j_X4_kinds_L117 X hk49 v1 v2 v3 v4 v6 v7 v8 t101
  · refine J_iload Y 5 dX4_kinds_108 rfl ?_
    refine J_iconst (v := (1 : Int32)) Y dX4_kinds_110 (by decide) ?_
    refine J_iload Y 7 dX4_kinds_111 rfl ?_
    refine J_ishl Y dX4_kinds_113 ?_
    refine J_ior Y dX4_kinds_114 ?_
    refine J_istore [(6, .int (v6 ||| ((1 : Int32) <<< (v8 &&& 31)))), (0, .ref (gO G 0)), (1, .int v1), (2, .int v2), (3, .int v3), (4, .int v4), (7, .int v7), (8, .int v8)] Y dX4_kinds_115 (by decide) rfl ?_
    refine J_sub [1, 2, 3, 4, 5, 0, 6, 7] rfl ?_
    exact j_X4_kinds_L117 X hk49 v1 v2 v3 v4 (v6 ||| ((1 : Int32) <<< (v8 &&& 31))) v7 v8 t101
set_option maxRecDepth 100000 in
set_option maxHeartbeats 4000000 in
theorem j_X4_kinds_L49 {E : JE} {G : JG} (X : JC E 9 cX4_kinds RX4 (some .int) 7 280 G) : ∀ (n : Nat) (v1 : Int32) (v2 : Int32) (v3 : Int32) (v4 : Int32) (v6 : Int32) (v7 : Int32) (v8 : Int32) (σ : ST), Jg E 9 (JF E vI) [(0, .ref (gO G 0)), (1, .int v1), (2, .int v2), (3, .int v3), (4, .int v4), (6, .int v6), (7, .int v7), (8, .int v8)] 49 [] σ (f_X4_kinds_L49 (gT G) n v1 v2 v3 v4 v6 v7 v8 σ) := by
  have Y := X.1
  intro n
  induction n with
  | zero => intro v1 v2 v3 v4 v6 v7 v8 σ; rw [f_X4_kinds_L49]; exact J_none
  | succ n ih =>
    intro v1 v2 v3 v4 v6 v7 v8 σ
    rw [f_X4_kinds_L49]
    refine J_iload Y 7 dX4_kinds_49 rfl ?_
    refine J_iload Y 6 dX4_kinds_51 rfl ?_
    refine J_icmp_gt (tgt := 123) Y dX4_kinds_53 (by decide) ?_ ?_
    · refine J_iload Y 5 dX4_kinds_123 rfl ?_
      exact J_ireturn Y dX4_kinds_125
    · refine J_aload_n Y 0 dX4_kinds_56 rfl rfl ?_
      refine C_get 4 X uw_X4 (cO_0 G _) rfl (by decide) rfl wfl_RX4_62 rfl dX4_kinds_57 ?_
      refine J_aload_n Y 0 dX4_kinds_60 rfl rfl ?_
      refine C_get 3 X uw_X4 (cO_0 G _) rfl (by decide) rfl wfl_RX4_58 rfl dX4_kinds_61 ?_
      refine C_cVv (As := [.ref (gO G 2)]) (st := []) rfl X (c_X0_becomes G 3 2 (Or.inr (Or.inl rfl)) (Or.inl rfl) _) (cO_co G _ (Or.inr (Or.inl rfl))) rfl rfl wi_X0_becomes win_X0_becomes wse_X0_becomes wml_RX4_168 ⟨Nat.le_of_ble_eq_true rfl, Nat.le_of_ble_eq_true rfl⟩ rfl (Nat.le_of_ble_eq_true rfl) dX4_kinds_64 (fun t64 => ?_)
      refine J_iload Y 4 dX4_kinds_67 rfl ?_
      refine J_if_ne (tgt := 86) Y dX4_kinds_69 (by decide) ?_ ?_
      · refine J_aload_n Y 0 dX4_kinds_86 rfl rfl ?_
        refine C_get 4 X uw_X4 (cO_0 G _) rfl (by decide) rfl wfl_RX4_62 rfl dX4_kinds_87 ?_
        refine C_get 3 X uw_X0 (cO_co G _ (Or.inr (Or.inl rfl))) rfl (by decide) rfl wfl_RX4_125 rfl dX4_kinds_90 ?_
        refine J_iload_n Y 3 dX4_kinds_93 rfl rfl ?_
        refine J_iload Y 7 dX4_kinds_94 rfl ?_
        refine C_ast X (cA_co_3 G _ (Or.inr (Or.inl rfl))) (cS_co_3 G _ (Or.inr (Or.inl rfl))) dX4_kinds_96 (fun t96 => ?_)
        exact j_X4_kinds_L97 X (fun v1 v2 v3 v4 v6 v7 v8 σ => ih v1 v2 v3 v4 v6 v7 v8 σ) v1 v2 v3 v4 v6 v7 v8 t96
      · refine J_aload_n Y 0 dX4_kinds_72 rfl rfl ?_
        refine C_get 4 X uw_X4 (cO_0 G _) rfl (by decide) rfl wfl_RX4_62 rfl dX4_kinds_73 ?_
        refine C_get 2 X uw_X0 (cO_co G _ (Or.inr (Or.inl rfl))) rfl (by decide) rfl wfl_RX4_122 rfl dX4_kinds_76 ?_
        refine J_iload_n Y 3 dX4_kinds_79 rfl rfl ?_
        refine J_iload Y 7 dX4_kinds_80 rfl ?_
        refine C_ast X (cA_co_2 G _ (Or.inr (Or.inl rfl))) (cS_co_2 G _ (Or.inr (Or.inl rfl))) dX4_kinds_82 (fun t82 => ?_)
        refine J_goto (tgt := 97) Y dX4_kinds_83 (by decide) ?_
        exact j_X4_kinds_L97 X (fun v1 v2 v3 v4 v6 v7 v8 σ => ih v1 v2 v3 v4 v6 v7 v8 σ) v1 v2 v3 v4 v6 v7 v8 t82
set_option maxRecDepth 100000 in
set_option maxHeartbeats 4000000 in
theorem j_X4_kinds_L44 {E : JE} {G : JG} (X : JC E 9 cX4_kinds RX4 (some .int) 7 280 G) (v1 : Int32) (v2 : Int32) (v3 : Int32) (v4 : Int32) (v6 : Int32) (s0 : Int32) (σ : ST) : Jg E 9 (JF E vI) [(0, .ref (gO G 0)), (1, .int v1), (2, .int v2), (3, .int v3), (4, .int v4), (6, .int v6)] 44 [.int s0] σ (f_X4_kinds_L44 (gT G) v1 v2 v3 v4 v6 s0 σ) := by
  have Y := X.1
  unfold f_X4_kinds_L44
  refine J_istore [(7, .int s0), (0, .ref (gO G 0)), (1, .int v1), (2, .int v2), (3, .int v3), (4, .int v4), (6, .int v6)] Y dX4_kinds_44 (by decide) rfl ?_
  refine J_iconst (v := (0 : Int32)) Y dX4_kinds_46 (by decide) ?_
  refine J_istore [(8, .int (0 : Int32)), (7, .int s0), (0, .ref (gO G 0)), (1, .int v1), (2, .int v2), (3, .int v3), (4, .int v4), (6, .int v6)] Y dX4_kinds_47 (by decide) rfl ?_
  refine J_sub [2, 3, 4, 5, 6, 7, 1, 0] rfl ?_
  exact j_X4_kinds_L49 X 1000 v1 v2 v3 v4 v6 s0 (0 : Int32) σ
set_option maxRecDepth 100000 in
set_option maxHeartbeats 4000000 in
theorem j_X4_kinds {E : JE} {G : JG} (X : JC E 9 cX4_kinds RX4 (some .int) 7 280 G) (v1 : Int32) (v2 : Int32) (v3 : Int32) (v4 : Int32) (σ : ST) : Jg E 9 (JF E vI) [(0, .ref (gO G 0)), (1, .int v1), (2, .int v2), (3, .int v3), (4, .int v4)] 0 [] σ (f_X4_kinds (gT G) v1 v2 v3 v4 σ) := by
  have Y := X.1
  unfold f_X4_kinds
  refine J_aload_n Y 0 dX4_kinds_0 rfl rfl ?_
  refine J_iload_n Y 1 dX4_kinds_1 rfl rfl ?_
  refine J_iload_n Y 2 dX4_kinds_2 rfl rfl ?_
  refine J_iload_n Y 3 dX4_kinds_3 rfl rfl ?_
  refine C_cVi (As := [.int v1, .int v2, .int v3]) (st := []) rfl X (c_X4_refusesJudging G v1 v2 v3 _) (cO_0 G _) rfl rfl wi_X4_refusesJudging win_X4_refusesJudging wse_X4_refusesJudging wml_RX4_214 ⟨Nat.le_of_ble_eq_true rfl, Nat.le_of_ble_eq_true rfl⟩ rfl (Nat.le_of_ble_eq_true rfl) dX4_kinds_4 (fun y4 t4 => ?_)
  refine J_istore [(5, .int y4), (0, .ref (gO G 0)), (1, .int v1), (2, .int v2), (3, .int v3), (4, .int v4)] Y dX4_kinds_7 (by decide) rfl ?_
  refine J_iload Y 0 dX4_kinds_9 rfl ?_
  refine J_if_eq (tgt := 17) Y dX4_kinds_11 (by decide) ?_ ?_
  · refine J_iload Y 5 dX4_kinds_17 rfl ?_
    refine J_iconst (v := (0 : Int32)) Y dX4_kinds_19 (by decide) ?_
    refine J_iconst (v := (1 : Int32)) Y dX4_kinds_20 (by decide) ?_
    refine C_cSi (As := [.int v4, .int (0 : Int32), .int (1 : Int32)]) (st := []) rfl X (c_X4_within G v4 (0 : Int32) (1 : Int32) _) wi_X4_within wst_X4_within wml_RX4_89 ⟨Nat.le_of_ble_eq_true rfl, Nat.le_of_ble_eq_true rfl⟩ rfl (Nat.le_of_ble_eq_true rfl) dX4_kinds_21 (fun y21 t21 => ?_)
    refine J_if_ne (tgt := 30) Y dX4_kinds_24 (by decide) ?_ ?_
    · refine J_iconst (v := (0 : Int32)) Y dX4_kinds_30 (by decide) ?_
      refine J_istore [(6, .int (0 : Int32)), (5, .int y4), (0, .ref (gO G 0)), (1, .int v1), (2, .int v2), (3, .int v3), (4, .int v4)] Y dX4_kinds_31 (by decide) rfl ?_
      refine J_iload Y 6 dX4_kinds_33 rfl ?_
      refine J_if_ne (tgt := 42) Y dX4_kinds_35 (by decide) ?_ ?_
      · refine J_bipush (v := (9 : Int32)) Y dX4_kinds_42 (by decide) ?_
        refine J_sub [2, 3, 4, 5, 6, 0] rfl ?_
        exact j_X4_kinds_L44 X v1 v2 v3 v4 (0 : Int32) (9 : Int32) t21
      · refine J_iconst (v := (5 : Int32)) Y dX4_kinds_38 (by decide) ?_
        refine J_goto (tgt := 44) Y dX4_kinds_39 (by decide) ?_
        refine J_sub [2, 3, 4, 5, 6, 0] rfl ?_
        exact j_X4_kinds_L44 X v1 v2 v3 v4 (0 : Int32) (5 : Int32) t21
    · refine J_bipush (v := (-7 : Int32)) Y dX4_kinds_27 (by decide) ?_
      exact J_ireturn Y dX4_kinds_29
  · refine J_iload Y 0 dX4_kinds_14 rfl ?_
    exact J_ireturn Y dX4_kinds_16
theorem c_X4_kinds (G : JG) (v1 : Int32) (v2 : Int32) (v3 : Int32) (v4 : Int32) (σ : ST) : Con (VC G) vI G.1 yX4_kinds cX4_kinds 9 (some .int) 7 280 [.ref (gO G 0), .int v1, .int v2, .int v3, .int v4] σ (f_X4_kinds (gT G) v1 v2 v3 v4 σ) :=
  Con_of (VC_ok G) (by decide +kernel) (Nat.le_of_ble_eq_true rfl) (fun E e1 e2 _ X => j_X4_kinds ⟨X, e1, e2⟩ v1 v2 v3 v4 σ)
set_option maxRecDepth 100000 in
set_option maxHeartbeats 4000000 in
theorem j_X4_states_L38 {E : JE} {G : JG} (X : JC E 11 cX4_states RX4 (some .int) 7 280 G) (σ : ST) : Jg E 11 (JF E vI) [] 38 [] σ (f_X4_states_L38 (gT G) σ) := by
  have Y := X.1
  unfold f_X4_states_L38
  refine J_bipush (v := (-7 : Int32)) Y dX4_states_38 (by decide) ?_
  exact J_ireturn Y dX4_states_40
set_option maxRecDepth 100000 in
set_option maxHeartbeats 4000000 in
theorem j_X4_states_L120 {E : JE} {G : JG} (X : JC E 11 cX4_states RX4 (some .int) 7 280 G) {k66 : Int32 → Int32 → Int32 → Int32 → Int32 → Int32 → Int32 → Int32 → Int32 → ST → Option (Int32 × ST)} (hk66 : ∀ (v1 : Int32) (v2 : Int32) (v3 : Int32) (v4 : Int32) (v5 : Int32) (v7 : Int32) (v8 : Int32) (v9 : Int32) (v10 : Int32) (σ : ST), Jg E 11 (JF E vI) [(0, .ref (gO G 0)), (1, .int v1), (2, .int v2), (3, .int v3), (4, .int v4), (5, .int v5), (7, .int v7), (8, .int v8), (9, .int v9), (10, .int v10)] 66 [] σ (k66 v1 v2 v3 v4 v5 v7 v8 v9 v10 σ)) (v1 : Int32) (v2 : Int32) (v3 : Int32) (v4 : Int32) (v5 : Int32) (v7 : Int32) (v8 : Int32) (v9 : Int32) (v10 : Int32) (σ : ST) : Jg E 11 (JF E vI) [(0, .ref (gO G 0)), (1, .int v1), (2, .int v2), (3, .int v3), (4, .int v4), (5, .int v5), (7, .int v7), (8, .int v8), (9, .int v9), (10, .int v10)] 120 [] σ (f_X4_states_L120 (gT G) k66 v1 v2 v3 v4 v5 v7 v8 v9 v10 σ) := by
  have Y := X.1
  unfold f_X4_states_L120
  refine J_iinc (v := v10 + (1 : Int32)) [(10, .int (v10 + (1 : Int32))), (0, .ref (gO G 0)), (1, .int v1), (2, .int v2), (3, .int v3), (4, .int v4), (5, .int v5), (7, .int v7), (8, .int v8), (9, .int v9)] Y 9 dX4_states_120 rfl (congrArg (fun z => _ + z) (by decide)) (by decide) rfl ?_
  refine J_goto (tgt := 66) Y dX4_states_123 (by decide) ?_
  refine J_sub [1, 2, 3, 4, 5, 6, 7, 8, 9, 0] rfl ?_
  exact hk66 v1 v2 v3 v4 v5 v7 v8 v9 (v10 + (1 : Int32)) σ
set_option maxRecDepth 100000 in
set_option maxHeartbeats 4000000 in
theorem j_X4_states_L138 {E : JE} {G : JG} (X : JC E 11 cX4_states RX4 (some .int) 7 280 G) (s0 : Int32) (σ : ST) : Jg E 11 (JF E vI) [] 138 [.int s0] σ (f_X4_states_L138 (gT G) s0 σ) := by
  have Y := X.1
  unfold f_X4_states_L138
  exact J_ireturn Y dX4_states_138
set_option maxRecDepth 100000 in
set_option maxHeartbeats 4000000 in
theorem j_X4_states_L126 {E : JE} {G : JG} (X : JC E 11 cX4_states RX4 (some .int) 7 280 G) (v5 : Int32) (v7 : Int32) (v8 : Int32) (σ : ST) : Jg E 11 (JF E vI) [(5, .int v5), (7, .int v7), (8, .int v8)] 126 [] σ (f_X4_states_L126 (gT G) v5 v7 v8 σ) := by
  have Y := X.1
  unfold f_X4_states_L126
  refine J_iload Y 0 dX4_states_126 rfl ?_
  refine J_if_ne (tgt := 136) Y dX4_states_128 (by decide) ?_ ?_
  · refine J_iload Y 2 dX4_states_136 rfl ?_
    refine J_sub [] rfl ?_
    exact j_X4_states_L138 X v8 σ
  · refine J_iload Y 1 dX4_states_131 rfl ?_
    refine J_goto (tgt := 138) Y dX4_states_133 (by decide) ?_
    refine J_sub [] rfl ?_
    exact j_X4_states_L138 X v7 σ
set_option maxRecDepth 100000 in
set_option maxHeartbeats 4000000 in
theorem j_X4_states_L66 {E : JE} {G : JG} (X : JC E 11 cX4_states RX4 (some .int) 7 280 G) : ∀ (n : Nat) (v1 : Int32) (v2 : Int32) (v3 : Int32) (v4 : Int32) (v5 : Int32) (v7 : Int32) (v8 : Int32) (v9 : Int32) (v10 : Int32) (σ : ST), Jg E 11 (JF E vI) [(0, .ref (gO G 0)), (1, .int v1), (2, .int v2), (3, .int v3), (4, .int v4), (5, .int v5), (7, .int v7), (8, .int v8), (9, .int v9), (10, .int v10)] 66 [] σ (f_X4_states_L66 (gT G) n v1 v2 v3 v4 v5 v7 v8 v9 v10 σ) := by
  have Y := X.1
  intro n
  induction n with
  | zero => intro v1 v2 v3 v4 v5 v7 v8 v9 v10 σ; rw [f_X4_states_L66]; exact J_none
  | succ n ih =>
    intro v1 v2 v3 v4 v5 v7 v8 v9 v10 σ
    rw [f_X4_states_L66]
    refine J_iload Y 9 dX4_states_66 rfl ?_
    refine J_iload Y 8 dX4_states_68 rfl ?_
    refine J_icmp_gt (tgt := 126) Y dX4_states_70 (by decide) ?_ ?_
    · refine J_sub [5, 6, 7] rfl ?_
      exact j_X4_states_L126 X v5 v7 v8 σ
    · refine J_aload_n Y 0 dX4_states_73 rfl rfl ?_
      refine C_get 4 X uw_X4 (cO_0 G _) rfl (by decide) rfl wfl_RX4_62 rfl dX4_states_74 ?_
      refine J_aload_n Y 0 dX4_states_77 rfl rfl ?_
      refine C_get 3 X uw_X4 (cO_0 G _) rfl (by decide) rfl wfl_RX4_58 rfl dX4_states_78 ?_
      refine C_cVv (As := [.ref (gO G 2)]) (st := []) rfl X (c_X0_becomes G 3 2 (Or.inr (Or.inl rfl)) (Or.inl rfl) _) (cO_co G _ (Or.inr (Or.inl rfl))) rfl rfl wi_X0_becomes win_X0_becomes wse_X0_becomes wml_RX4_168 ⟨Nat.le_of_ble_eq_true rfl, Nat.le_of_ble_eq_true rfl⟩ rfl (Nat.le_of_ble_eq_true rfl) dX4_states_81 (fun t81 => ?_)
      refine J_aload_n Y 0 dX4_states_84 rfl rfl ?_
      refine C_get 4 X uw_X4 (cO_0 G _) rfl (by decide) rfl wfl_RX4_62 rfl dX4_states_85 ?_
      refine J_iload_n Y 3 dX4_states_88 rfl rfl ?_
      refine J_iload Y 4 dX4_states_89 rfl ?_
      refine J_iload Y 9 dX4_states_91 rfl ?_
      refine C_cVi (As := [.int v3, .int v4, .int v10]) (st := []) rfl X (c_X0_setState G 3 v3 v4 v10 (Or.inr (Or.inl rfl)) _) (cO_co G _ (Or.inr (Or.inl rfl))) rfl rfl wi_X0_setState win_X0_setState wse_X0_setState wml_RX4_113 ⟨Nat.le_of_ble_eq_true rfl, Nat.le_of_ble_eq_true rfl⟩ rfl (Nat.le_of_ble_eq_true rfl) dX4_states_93 (fun y93 t93 => ?_)
      refine J_pop Y dX4_states_96 rfl ?_
      refine J_aload_n Y 0 dX4_states_97 rfl rfl ?_
      refine J_iload_n Y 1 dX4_states_98 rfl rfl ?_
      refine J_iload_n Y 2 dX4_states_99 rfl rfl ?_
      refine J_iload_n Y 3 dX4_states_100 rfl rfl ?_
      refine C_cVi (As := [.int v1, .int v2, .int v3]) (st := []) rfl X (c_X4_otherwise G v1 v2 v3 _) (cO_0 G _) rfl rfl wi_X4_otherwise win_X4_otherwise wse_X4_otherwise wml_RX4_217 ⟨Nat.le_of_ble_eq_true rfl, Nat.le_of_ble_eq_true rfl⟩ rfl (Nat.le_of_ble_eq_true rfl) dX4_states_101 (fun y101 t101 => ?_)
      refine J_iconst (v := (-1 : Int32)) Y dX4_states_104 (by decide) ?_
      refine J_icmp_ne (tgt := 120) Y dX4_states_105 (by decide) ?_ ?_
      · exact j_X4_states_L120 X (fun v1 v2 v3 v4 v5 v7 v8 v9 v10 σ => ih v1 v2 v3 v4 v5 v7 v8 v9 v10 σ) v1 v2 v3 v4 v5 v7 v8 v9 v10 t101
      · refine J_iinc (v := v7 + (1 : Int32)) [(7, .int (v7 + (1 : Int32))), (0, .ref (gO G 0)), (1, .int v1), (2, .int v2), (3, .int v3), (4, .int v4), (5, .int v5), (8, .int v8), (9, .int v9), (10, .int v10)] Y 6 dX4_states_108 rfl (congrArg (fun z => _ + z) (by decide)) (by decide) rfl ?_
        refine J_iload Y 7 dX4_states_111 rfl ?_
        refine J_if_ge (tgt := 120) Y dX4_states_113 (by decide) ?_ ?_
        · refine J_sub [1, 2, 3, 4, 5, 6, 0, 7, 8, 9] rfl ?_
          exact j_X4_states_L120 X (fun v1 v2 v3 v4 v5 v7 v8 v9 v10 σ => ih v1 v2 v3 v4 v5 v7 v8 v9 v10 σ) v1 v2 v3 v4 v5 (v7 + (1 : Int32)) v8 v9 v10 t101
        · refine J_iload Y 9 dX4_states_116 rfl ?_
          refine J_istore [(8, .int v10), (7, .int (v7 + (1 : Int32))), (0, .ref (gO G 0)), (1, .int v1), (2, .int v2), (3, .int v3), (4, .int v4), (5, .int v5), (9, .int v9), (10, .int v10)] Y dX4_states_118 (by decide) rfl ?_
          refine J_sub [2, 3, 4, 5, 6, 7, 1, 0, 8, 9] rfl ?_
          exact j_X4_states_L120 X (fun v1 v2 v3 v4 v5 v7 v8 v9 v10 σ => ih v1 v2 v3 v4 v5 v7 v8 v9 v10 σ) v1 v2 v3 v4 v5 (v7 + (1 : Int32)) v10 v9 v10 t101
set_option maxRecDepth 100000 in
set_option maxHeartbeats 4000000 in
theorem j_X4_states_L61 {E : JE} {G : JG} (X : JC E 11 cX4_states RX4 (some .int) 7 280 G) (v1 : Int32) (v2 : Int32) (v3 : Int32) (v4 : Int32) (v5 : Int32) (v7 : Int32) (v8 : Int32) (s0 : Int32) (σ : ST) : Jg E 11 (JF E vI) [(0, .ref (gO G 0)), (1, .int v1), (2, .int v2), (3, .int v3), (4, .int v4), (5, .int v5), (7, .int v7), (8, .int v8)] 61 [.int s0] σ (f_X4_states_L61 (gT G) v1 v2 v3 v4 v5 v7 v8 s0 σ) := by
  have Y := X.1
  unfold f_X4_states_L61
  refine J_istore [(9, .int s0), (0, .ref (gO G 0)), (1, .int v1), (2, .int v2), (3, .int v3), (4, .int v4), (5, .int v5), (7, .int v7), (8, .int v8)] Y dX4_states_61 (by decide) rfl ?_
  refine J_iconst (v := (0 : Int32)) Y dX4_states_63 (by decide) ?_
  refine J_istore [(10, .int (0 : Int32)), (9, .int s0), (0, .ref (gO G 0)), (1, .int v1), (2, .int v2), (3, .int v3), (4, .int v4), (5, .int v5), (7, .int v7), (8, .int v8)] Y dX4_states_64 (by decide) rfl ?_
  refine J_sub [2, 3, 4, 5, 6, 7, 8, 9, 1, 0] rfl ?_
  exact j_X4_states_L66 X 1000 v1 v2 v3 v4 v5 v7 v8 s0 (0 : Int32) σ
set_option maxRecDepth 100000 in
set_option maxHeartbeats 4000000 in
theorem j_X4_states {E : JE} {G : JG} (X : JC E 11 cX4_states RX4 (some .int) 7 280 G) (v1 : Int32) (v2 : Int32) (v3 : Int32) (v4 : Int32) (v5 : Int32) (σ : ST) : Jg E 11 (JF E vI) [(0, .ref (gO G 0)), (1, .int v1), (2, .int v2), (3, .int v3), (4, .int v4), (5, .int v5)] 0 [] σ (f_X4_states (gT G) v1 v2 v3 v4 v5 σ) := by
  have Y := X.1
  unfold f_X4_states
  refine J_aload_n Y 0 dX4_states_0 rfl rfl ?_
  refine J_iload_n Y 1 dX4_states_1 rfl rfl ?_
  refine J_iload_n Y 2 dX4_states_2 rfl rfl ?_
  refine J_iload_n Y 3 dX4_states_3 rfl rfl ?_
  refine C_cVi (As := [.int v1, .int v2, .int v3]) (st := []) rfl X (c_X4_refusesJudging G v1 v2 v3 _) (cO_0 G _) rfl rfl wi_X4_refusesJudging win_X4_refusesJudging wse_X4_refusesJudging wml_RX4_214 ⟨Nat.le_of_ble_eq_true rfl, Nat.le_of_ble_eq_true rfl⟩ rfl (Nat.le_of_ble_eq_true rfl) dX4_states_4 (fun y4 t4 => ?_)
  refine J_istore [(6, .int y4), (0, .ref (gO G 0)), (1, .int v1), (2, .int v2), (3, .int v3), (4, .int v4), (5, .int v5)] Y dX4_states_7 (by decide) rfl ?_
  refine J_iload Y 0 dX4_states_9 rfl ?_
  refine J_if_eq (tgt := 17) Y dX4_states_11 (by decide) ?_ ?_
  · refine J_iload Y 5 dX4_states_17 rfl ?_
    refine J_iconst (v := (0 : Int32)) Y dX4_states_19 (by decide) ?_
    refine J_bipush (v := (8 : Int32)) Y dX4_states_20 (by decide) ?_
    refine C_cSi (As := [.int v4, .int (0 : Int32), .int (8 : Int32)]) (st := []) rfl X (c_X4_within G v4 (0 : Int32) (8 : Int32) _) wi_X4_within wst_X4_within wml_RX4_89 ⟨Nat.le_of_ble_eq_true rfl, Nat.le_of_ble_eq_true rfl⟩ rfl (Nat.le_of_ble_eq_true rfl) dX4_states_22 (fun y22 t22 => ?_)
    refine J_if_eq (tgt := 38) Y dX4_states_25 (by decide) ?_ ?_
    · refine J_sub [] rfl ?_
      exact j_X4_states_L38 X  t22
    · refine J_iload Y 6 dX4_states_28 rfl ?_
      refine J_iconst (v := (0 : Int32)) Y dX4_states_30 (by decide) ?_
      refine J_iconst (v := (1 : Int32)) Y dX4_states_31 (by decide) ?_
      refine C_cSi (As := [.int v5, .int (0 : Int32), .int (1 : Int32)]) (st := []) rfl X (c_X4_within G v5 (0 : Int32) (1 : Int32) _) wi_X4_within wst_X4_within wml_RX4_89 ⟨Nat.le_of_ble_eq_true rfl, Nat.le_of_ble_eq_true rfl⟩ rfl (Nat.le_of_ble_eq_true rfl) dX4_states_32 (fun y32 t32 => ?_)
      refine J_if_ne (tgt := 41) Y dX4_states_35 (by decide) ?_ ?_
      · refine J_iconst (v := (0 : Int32)) Y dX4_states_41 (by decide) ?_
        refine J_istore [(7, .int (0 : Int32)), (6, .int y4), (0, .ref (gO G 0)), (1, .int v1), (2, .int v2), (3, .int v3), (4, .int v4), (5, .int v5)] Y dX4_states_42 (by decide) rfl ?_
        refine J_iconst (v := (-1 : Int32)) Y dX4_states_44 (by decide) ?_
        refine J_istore [(8, .int (-1 : Int32)), (7, .int (0 : Int32)), (6, .int y4), (0, .ref (gO G 0)), (1, .int v1), (2, .int v2), (3, .int v3), (4, .int v4), (5, .int v5)] Y dX4_states_45 (by decide) rfl ?_
        refine J_iload Y 7 dX4_states_47 rfl ?_
        refine J_bipush (v := (8 : Int32)) Y dX4_states_49 (by decide) ?_
        refine J_icmp_ne (tgt := 59) Y dX4_states_51 (by decide) ?_ ?_
        · refine J_bipush (v := (9 : Int32)) Y dX4_states_59 (by decide) ?_
          refine J_sub [3, 4, 5, 6, 7, 8, 1, 0] rfl ?_
          exact j_X4_states_L61 X v1 v2 v3 v4 v5 (0 : Int32) (-1 : Int32) (9 : Int32) t32
        · refine J_bipush (v := (99 : Int32)) Y dX4_states_54 (by decide) ?_
          refine J_goto (tgt := 61) Y dX4_states_56 (by decide) ?_
          refine J_sub [3, 4, 5, 6, 7, 8, 1, 0] rfl ?_
          exact j_X4_states_L61 X v1 v2 v3 v4 v5 (0 : Int32) (-1 : Int32) (99 : Int32) t32
      · refine J_sub [] rfl ?_
        exact j_X4_states_L38 X  t32
  · refine J_iload Y 0 dX4_states_14 rfl ?_
    exact J_ireturn Y dX4_states_16
theorem c_X4_states (G : JG) (v1 : Int32) (v2 : Int32) (v3 : Int32) (v4 : Int32) (v5 : Int32) (σ : ST) : Con (VC G) vI G.1 yX4_states cX4_states 11 (some .int) 7 280 [.ref (gO G 0), .int v1, .int v2, .int v3, .int v4, .int v5] σ (f_X4_states (gT G) v1 v2 v3 v4 v5 σ) :=
  Con_of (VC_ok G) (by decide +kernel) (Nat.le_of_ble_eq_true rfl) (fun E e1 e2 _ X => j_X4_states ⟨X, e1, e2⟩ v1 v2 v3 v4 v5 σ)
set_option maxRecDepth 100000 in
set_option maxHeartbeats 4000000 in
theorem j_X4_whose_L63 {E : JE} {G : JG} (X : JC E 6 cX4_whose RX4 (some .int) 7 280 G) {k19 : Int32 → Int32 → Int32 → Int32 → ST → Option (Int32 × ST)} (hk19 : ∀ (v1 : Int32) (v2 : Int32) (v4 : Int32) (v5 : Int32) (σ : ST), Jg E 6 (JF E vI) [(0, .ref (gO G 0)), (1, .int v1), (2, .int v2), (4, .int v4), (5, .int v5)] 19 [] σ (k19 v1 v2 v4 v5 σ)) (v1 : Int32) (v2 : Int32) (v4 : Int32) (v5 : Int32) (σ : ST) : Jg E 6 (JF E vI) [(0, .ref (gO G 0)), (1, .int v1), (2, .int v2), (4, .int v4), (5, .int v5)] 63 [] σ (f_X4_whose_L63 (gT G) k19 v1 v2 v4 v5 σ) := by
  have Y := X.1
  unfold f_X4_whose_L63
  refine J_iinc (v := v5 + (1 : Int32)) [(5, .int (v5 + (1 : Int32))), (0, .ref (gO G 0)), (1, .int v1), (2, .int v2), (4, .int v4)] Y 4 dX4_whose_63 rfl (congrArg (fun z => _ + z) (by decide)) (by decide) rfl ?_
  refine J_goto (tgt := 19) Y dX4_whose_66 (by decide) ?_
  refine J_sub [1, 2, 3, 4, 0] rfl ?_
  exact hk19 v1 v2 v4 (v5 + (1 : Int32)) σ
set_option maxRecDepth 100000 in
set_option maxHeartbeats 4000000 in
theorem j_X4_whose_L19 {E : JE} {G : JG} (X : JC E 6 cX4_whose RX4 (some .int) 7 280 G) : ∀ (n : Nat) (v1 : Int32) (v2 : Int32) (v4 : Int32) (v5 : Int32) (σ : ST), Jg E 6 (JF E vI) [(0, .ref (gO G 0)), (1, .int v1), (2, .int v2), (4, .int v4), (5, .int v5)] 19 [] σ (f_X4_whose_L19 (gT G) n v1 v2 v4 v5 σ) := by
  have Y := X.1
  intro n
  induction n with
  | zero => intro v1 v2 v4 v5 σ; rw [f_X4_whose_L19]; exact J_none
  | succ n ih =>
    intro v1 v2 v4 v5 σ
    rw [f_X4_whose_L19]
    refine J_iload Y 4 dX4_whose_19 rfl ?_
    refine J_aload_n Y 0 dX4_whose_21 rfl rfl ?_
    refine C_get 3 X uw_X4 (cO_0 G _) rfl (by decide) rfl wfl_RX4_58 rfl dX4_whose_22 ?_
    refine C_get 9 X uw_X0 (cO_co G _ (Or.inl rfl)) rfl (by decide) rfl wfl_RX4_79 rfl dX4_whose_25 ?_
    refine J_icmp_ge (tgt := 69) Y dX4_whose_28 (by decide) ?_ ?_
    · refine J_iload Y 3 dX4_whose_69 rfl ?_
      exact J_ireturn Y dX4_whose_71
    · refine J_aload_n Y 0 dX4_whose_31 rfl rfl ?_
      refine C_get 4 X uw_X4 (cO_0 G _) rfl (by decide) rfl wfl_RX4_62 rfl dX4_whose_32 ?_
      refine J_aload_n Y 0 dX4_whose_35 rfl rfl ?_
      refine C_get 3 X uw_X4 (cO_0 G _) rfl (by decide) rfl wfl_RX4_58 rfl dX4_whose_36 ?_
      refine C_cVv (As := [.ref (gO G 2)]) (st := []) rfl X (c_X0_becomes G 3 2 (Or.inr (Or.inl rfl)) (Or.inl rfl) _) (cO_co G _ (Or.inr (Or.inl rfl))) rfl rfl wi_X0_becomes win_X0_becomes wse_X0_becomes wml_RX4_168 ⟨Nat.le_of_ble_eq_true rfl, Nat.le_of_ble_eq_true rfl⟩ rfl (Nat.le_of_ble_eq_true rfl) dX4_whose_39 (fun t39 => ?_)
      refine J_aload_n Y 0 dX4_whose_42 rfl rfl ?_
      refine J_iload_n Y 1 dX4_whose_43 rfl rfl ?_
      refine J_iload_n Y 2 dX4_whose_44 rfl rfl ?_
      refine J_iload Y 4 dX4_whose_45 rfl ?_
      refine C_cVi (As := [.int v1, .int v2, .int v5]) (st := []) rfl X (c_X4_otherwise G v1 v2 v5 _) (cO_0 G _) rfl rfl wi_X4_otherwise win_X4_otherwise wse_X4_otherwise wml_RX4_217 ⟨Nat.le_of_ble_eq_true rfl, Nat.le_of_ble_eq_true rfl⟩ rfl (Nat.le_of_ble_eq_true rfl) dX4_whose_47 (fun y47 t47 => ?_)
      refine J_iconst (v := (-1 : Int32)) Y dX4_whose_50 (by decide) ?_
      refine J_icmp_ne (tgt := 63) Y dX4_whose_51 (by decide) ?_ ?_
      · exact j_X4_whose_L63 X (fun v1 v2 v4 v5 σ => ih v1 v2 v4 v5 σ) v1 v2 v4 v5 t47
      · refine J_iload Y 3 dX4_whose_54 rfl ?_
        refine J_iconst (v := (1 : Int32)) Y dX4_whose_56 (by decide) ?_
        refine J_iload Y 4 dX4_whose_57 rfl ?_
        refine J_ishl Y dX4_whose_59 ?_
        refine J_ior Y dX4_whose_60 ?_
        refine J_istore [(4, .int (v4 ||| ((1 : Int32) <<< (v5 &&& 31)))), (0, .ref (gO G 0)), (1, .int v1), (2, .int v2), (5, .int v5)] Y dX4_whose_61 (by decide) rfl ?_
        refine J_sub [1, 2, 3, 0, 4] rfl ?_
        exact j_X4_whose_L63 X (fun v1 v2 v4 v5 σ => ih v1 v2 v4 v5 σ) v1 v2 (v4 ||| ((1 : Int32) <<< (v5 &&& 31))) v5 t47
set_option maxRecDepth 100000 in
set_option maxHeartbeats 4000000 in
theorem j_X4_whose {E : JE} {G : JG} (X : JC E 6 cX4_whose RX4 (some .int) 7 280 G) (v1 : Int32) (v2 : Int32) (σ : ST) : Jg E 6 (JF E vI) [(0, .ref (gO G 0)), (1, .int v1), (2, .int v2)] 0 [] σ (f_X4_whose (gT G) v1 v2 σ) := by
  have Y := X.1
  unfold f_X4_whose
  refine J_aload_n Y 0 dX4_whose_0 rfl rfl ?_
  refine J_iload_n Y 1 dX4_whose_1 rfl rfl ?_
  refine J_iload_n Y 2 dX4_whose_2 rfl rfl ?_
  refine C_cVi (As := [.int v1, .int v2]) (st := []) rfl X (c_X4_refusesTold G v1 v2 _) (cO_0 G _) rfl rfl wi_X4_refusesTold win_X4_refusesTold wse_X4_refusesTold wml_RX4_220 ⟨Nat.le_of_ble_eq_true rfl, Nat.le_of_ble_eq_true rfl⟩ rfl (Nat.le_of_ble_eq_true rfl) dX4_whose_3 (fun y3 t3 => ?_)
  refine J_istore_n [(3, .int y3), (0, .ref (gO G 0)), (1, .int v1), (2, .int v2)] Y dX4_whose_6 rfl (by decide) rfl ?_
  refine J_iload_n Y 0 dX4_whose_7 rfl rfl ?_
  refine J_if_eq (tgt := 13) Y dX4_whose_8 (by decide) ?_ ?_
  · refine J_iconst (v := (0 : Int32)) Y dX4_whose_13 (by decide) ?_
    refine J_istore [(4, .int (0 : Int32)), (3, .int y3), (0, .ref (gO G 0)), (1, .int v1), (2, .int v2)] Y dX4_whose_14 (by decide) rfl ?_
    refine J_iconst (v := (0 : Int32)) Y dX4_whose_16 (by decide) ?_
    refine J_istore [(5, .int (0 : Int32)), (4, .int (0 : Int32)), (3, .int y3), (0, .ref (gO G 0)), (1, .int v1), (2, .int v2)] Y dX4_whose_17 (by decide) rfl ?_
    refine J_sub [3, 4, 5, 1, 0] rfl ?_
    exact j_X4_whose_L19 X 1000 v1 v2 (0 : Int32) (0 : Int32) t3
  · refine J_iload_n Y 0 dX4_whose_11 rfl rfl ?_
    exact J_ireturn Y dX4_whose_12
theorem c_X4_whose (G : JG) (v1 : Int32) (v2 : Int32) (σ : ST) : Con (VC G) vI G.1 yX4_whose cX4_whose 6 (some .int) 7 280 [.ref (gO G 0), .int v1, .int v2] σ (f_X4_whose (gT G) v1 v2 σ) :=
  Con_of (VC_ok G) (by decide +kernel) (Nat.le_of_ble_eq_true rfl) (fun E e1 e2 _ X => j_X4_whose ⟨X, e1, e2⟩ v1 v2 σ)
set_option maxRecDepth 100000 in
set_option maxHeartbeats 4000000 in
theorem j_X4_laws_L72 {E : JE} {G : JG} (X : JC E 7 cX4_laws RX4 (some .int) 7 280 G) {k23 : Int32 → Int32 → Int32 → Int32 → Int32 → ST → Option (Int32 × ST)} (hk23 : ∀ (v1 : Int32) (v2 : Int32) (v3 : Int32) (v5 : Int32) (v6 : Int32) (σ : ST), Jg E 7 (JF E vI) [(0, .ref (gO G 0)), (1, .int v1), (2, .int v2), (3, .int v3), (5, .int v5), (6, .int v6)] 23 [] σ (k23 v1 v2 v3 v5 v6 σ)) (v1 : Int32) (v2 : Int32) (v3 : Int32) (v5 : Int32) (v6 : Int32) (σ : ST) : Jg E 7 (JF E vI) [(0, .ref (gO G 0)), (1, .int v1), (2, .int v2), (3, .int v3), (5, .int v5), (6, .int v6)] 72 [] σ (f_X4_laws_L72 (gT G) k23 v1 v2 v3 v5 v6 σ) := by
  have Y := X.1
  unfold f_X4_laws_L72
  refine J_iinc (v := v6 + (1 : Int32)) [(6, .int (v6 + (1 : Int32))), (0, .ref (gO G 0)), (1, .int v1), (2, .int v2), (3, .int v3), (5, .int v5)] Y 5 dX4_laws_72 rfl (congrArg (fun z => _ + z) (by decide)) (by decide) rfl ?_
  refine J_goto (tgt := 23) Y dX4_laws_75 (by decide) ?_
  refine J_sub [1, 2, 3, 4, 5, 0] rfl ?_
  exact hk23 v1 v2 v3 v5 (v6 + (1 : Int32)) σ
set_option maxRecDepth 100000 in
set_option maxHeartbeats 4000000 in
theorem j_X4_laws_L23 {E : JE} {G : JG} (X : JC E 7 cX4_laws RX4 (some .int) 7 280 G) : ∀ (n : Nat) (v1 : Int32) (v2 : Int32) (v3 : Int32) (v5 : Int32) (v6 : Int32) (σ : ST), Jg E 7 (JF E vI) [(0, .ref (gO G 0)), (1, .int v1), (2, .int v2), (3, .int v3), (5, .int v5), (6, .int v6)] 23 [] σ (f_X4_laws_L23 (gT G) n v1 v2 v3 v5 v6 σ) := by
  have Y := X.1
  intro n
  induction n with
  | zero => intro v1 v2 v3 v5 v6 σ; rw [f_X4_laws_L23]; exact J_none
  | succ n ih =>
    intro v1 v2 v3 v5 v6 σ
    rw [f_X4_laws_L23]
    refine J_iload Y 5 dX4_laws_23 rfl ?_
    refine J_aload_n Y 0 dX4_laws_25 rfl rfl ?_
    refine C_get 1 X uw_X4 (cO_0 G _) rfl (by decide) rfl wfl_RX4_50 rfl dX4_laws_26 ?_
    refine J_icmp_ge (tgt := 78) Y dX4_laws_29 (by decide) ?_ ?_
    · refine J_iload Y 4 dX4_laws_78 rfl ?_
      exact J_ireturn Y dX4_laws_80
    · refine J_aload_n Y 0 dX4_laws_32 rfl rfl ?_
      refine C_get 4 X uw_X4 (cO_0 G _) rfl (by decide) rfl wfl_RX4_62 rfl dX4_laws_33 ?_
      refine J_aload_n Y 0 dX4_laws_36 rfl rfl ?_
      refine C_get 3 X uw_X4 (cO_0 G _) rfl (by decide) rfl wfl_RX4_58 rfl dX4_laws_37 ?_
      refine C_cVv (As := [.ref (gO G 2)]) (st := []) rfl X (c_X0_becomes G 3 2 (Or.inr (Or.inl rfl)) (Or.inl rfl) _) (cO_co G _ (Or.inr (Or.inl rfl))) rfl rfl wi_X0_becomes win_X0_becomes wse_X0_becomes wml_RX4_168 ⟨Nat.le_of_ble_eq_true rfl, Nat.le_of_ble_eq_true rfl⟩ rfl (Nat.le_of_ble_eq_true rfl) dX4_laws_40 (fun t40 => ?_)
      refine J_aload_n Y 0 dX4_laws_43 rfl rfl ?_
      refine C_get 4 X uw_X4 (cO_0 G _) rfl (by decide) rfl wfl_RX4_62 rfl dX4_laws_44 ?_
      refine J_iload Y 5 dX4_laws_47 rfl ?_
      refine C_put 11 3 (ty := .int) X uw_X0 tyX0 tyX0_ok nmX0 (cO_co G _ (Or.inr (Or.inl rfl))) rfl (by decide) rfl wfl_RX4_86 rfl rfl (by decide +kernel) rfl (Nat.le_of_ble_eq_true rfl) (cF_co_11 G _ _ (Or.inr (Or.inl rfl))) dX4_laws_49 (fun t49 => ?_)
      refine J_aload_n Y 0 dX4_laws_52 rfl rfl ?_
      refine J_iload_n Y 1 dX4_laws_53 rfl rfl ?_
      refine J_iload_n Y 2 dX4_laws_54 rfl rfl ?_
      refine J_iload_n Y 3 dX4_laws_55 rfl rfl ?_
      refine C_cVi (As := [.int v1, .int v2, .int v3]) (st := []) rfl X (c_X4_otherwise G v1 v2 v3 _) (cO_0 G _) rfl rfl wi_X4_otherwise win_X4_otherwise wse_X4_otherwise wml_RX4_217 ⟨Nat.le_of_ble_eq_true rfl, Nat.le_of_ble_eq_true rfl⟩ rfl (Nat.le_of_ble_eq_true rfl) dX4_laws_56 (fun y56 t56 => ?_)
      refine J_iconst (v := (-1 : Int32)) Y dX4_laws_59 (by decide) ?_
      refine J_icmp_ne (tgt := 72) Y dX4_laws_60 (by decide) ?_ ?_
      · exact j_X4_laws_L72 X (fun v1 v2 v3 v5 v6 σ => ih v1 v2 v3 v5 v6 σ) v1 v2 v3 v5 v6 t56
      · refine J_iload Y 4 dX4_laws_63 rfl ?_
        refine J_iconst (v := (1 : Int32)) Y dX4_laws_65 (by decide) ?_
        refine J_iload Y 5 dX4_laws_66 rfl ?_
        refine J_ishl Y dX4_laws_68 ?_
        refine J_ior Y dX4_laws_69 ?_
        refine J_istore [(5, .int (v5 ||| ((1 : Int32) <<< (v6 &&& 31)))), (0, .ref (gO G 0)), (1, .int v1), (2, .int v2), (3, .int v3), (6, .int v6)] Y dX4_laws_70 (by decide) rfl ?_
        refine J_sub [1, 2, 3, 4, 0, 5] rfl ?_
        exact j_X4_laws_L72 X (fun v1 v2 v3 v5 v6 σ => ih v1 v2 v3 v5 v6 σ) v1 v2 v3 (v5 ||| ((1 : Int32) <<< (v6 &&& 31))) v6 t56
set_option maxRecDepth 100000 in
set_option maxHeartbeats 4000000 in
theorem j_X4_laws {E : JE} {G : JG} (X : JC E 7 cX4_laws RX4 (some .int) 7 280 G) (v1 : Int32) (v2 : Int32) (v3 : Int32) (σ : ST) : Jg E 7 (JF E vI) [(0, .ref (gO G 0)), (1, .int v1), (2, .int v2), (3, .int v3)] 0 [] σ (f_X4_laws (gT G) v1 v2 v3 σ) := by
  have Y := X.1
  unfold f_X4_laws
  refine J_aload_n Y 0 dX4_laws_0 rfl rfl ?_
  refine J_iload_n Y 1 dX4_laws_1 rfl rfl ?_
  refine J_iload_n Y 2 dX4_laws_2 rfl rfl ?_
  refine J_iload_n Y 3 dX4_laws_3 rfl rfl ?_
  refine C_cVi (As := [.int v1, .int v2, .int v3]) (st := []) rfl X (c_X4_refusesJudging G v1 v2 v3 _) (cO_0 G _) rfl rfl wi_X4_refusesJudging win_X4_refusesJudging wse_X4_refusesJudging wml_RX4_214 ⟨Nat.le_of_ble_eq_true rfl, Nat.le_of_ble_eq_true rfl⟩ rfl (Nat.le_of_ble_eq_true rfl) dX4_laws_4 (fun y4 t4 => ?_)
  refine J_istore [(4, .int y4), (0, .ref (gO G 0)), (1, .int v1), (2, .int v2), (3, .int v3)] Y dX4_laws_7 (by decide) rfl ?_
  refine J_iload Y 0 dX4_laws_9 rfl ?_
  refine J_if_eq (tgt := 17) Y dX4_laws_11 (by decide) ?_ ?_
  · refine J_iconst (v := (0 : Int32)) Y dX4_laws_17 (by decide) ?_
    refine J_istore [(5, .int (0 : Int32)), (4, .int y4), (0, .ref (gO G 0)), (1, .int v1), (2, .int v2), (3, .int v3)] Y dX4_laws_18 (by decide) rfl ?_
    refine J_iconst (v := (0 : Int32)) Y dX4_laws_20 (by decide) ?_
    refine J_istore [(6, .int (0 : Int32)), (5, .int (0 : Int32)), (4, .int y4), (0, .ref (gO G 0)), (1, .int v1), (2, .int v2), (3, .int v3)] Y dX4_laws_21 (by decide) rfl ?_
    refine J_sub [3, 4, 5, 6, 1, 0] rfl ?_
    exact j_X4_laws_L23 X 1000 v1 v2 v3 (0 : Int32) (0 : Int32) t4
  · refine J_iload Y 0 dX4_laws_14 rfl ?_
    exact J_ireturn Y dX4_laws_16
theorem c_X4_laws (G : JG) (v1 : Int32) (v2 : Int32) (v3 : Int32) (σ : ST) : Con (VC G) vI G.1 yX4_laws cX4_laws 7 (some .int) 7 280 [.ref (gO G 0), .int v1, .int v2, .int v3] σ (f_X4_laws (gT G) v1 v2 v3 σ) :=
  Con_of (VC_ok G) (by decide +kernel) (Nat.le_of_ble_eq_true rfl) (fun E e1 e2 _ X => j_X4_laws ⟨X, e1, e2⟩ v1 v2 v3 σ)
set_option maxRecDepth 100000 in
set_option maxHeartbeats 4000000 in
theorem j_X4_film_L12 {E : JE} {G : JG} (X : JC E 8 cX4_film RX4 (some .int) 6 240 G) (σ : ST) : Jg E 8 (JF E vI) [] 12 [] σ (f_X4_film_L12 (gT G) σ) := by
  have Y := X.1
  unfold f_X4_film_L12
  refine J_bipush (v := (-2 : Int32)) Y dX4_film_12 (by decide) ?_
  exact J_ireturn Y dX4_film_14
set_option maxRecDepth 100000 in
set_option maxHeartbeats 4000000 in
theorem j_X4_film_L141 {E : JE} {G : JG} (X : JC E 8 cX4_film RX4 (some .int) 6 240 G) (o5 : Nat) (ho5 : isSh o5) (σ : ST) : Jg E 8 (JF E vI) [(5, .ref (gO G o5))] 141 [] σ (f_X4_film_L141 (gT G) o5 σ) := by
  have Y := X.1
  unfold f_X4_film_L141
  refine J_aload Y 0 dX4_film_141 rfl ?_
  refine C_get 2 X uw_X1 (cO_sh G _ ho5) rfl (by decide) rfl wfl_RX4_172 rfl dX4_film_143 ?_
  exact J_ireturn Y dX4_film_146
set_option maxRecDepth 100000 in
set_option maxHeartbeats 4000000 in
theorem j_X4_film_L85 {E : JE} {G : JG} (X : JC E 8 cX4_film RX4 (some .int) 6 240 G) : ∀ (n : Nat) (v3 : Int32) (o5 : Nat) (o6 : Nat) (v7 : Int32) (ho5 : isSh o5) (ho6 : isSh o6) (σ : ST), Jg E 8 (JF E vI) [(0, .ref (gO G 0)), (3, .int v3), (5, .ref (gO G o5)), (6, .ref (gO G o6)), (7, .int v7)] 85 [] σ (f_X4_film_L85 (gT G) n v3 o5 o6 v7 σ) := by
  have Y := X.1
  intro n
  induction n with
  | zero => intro v3 o5 o6 v7 ho5 ho6 σ; rw [f_X4_film_L85]; exact J_none
  | succ n ih =>
    intro v3 o5 o6 v7 ho5 ho6 σ
    rw [f_X4_film_L85]
    refine J_iload Y 4 dX4_film_85 rfl ?_
    refine J_aload Y 2 dX4_film_87 rfl ?_
    refine C_get 2 X uw_X1 (cO_sh G _ ho5) rfl (by decide) rfl wfl_RX4_172 rfl dX4_film_89 ?_
    refine J_icmp_ge (tgt := 141) Y dX4_film_92 (by decide) ?_ ?_
    · refine J_sub [2] rfl ?_
      exact j_X4_film_L141 X o5 ho5 σ
    · refine J_aload_n Y 0 dX4_film_95 rfl rfl ?_
      refine C_get 4 X uw_X4 (cO_0 G _) rfl (by decide) rfl wfl_RX4_62 rfl dX4_film_96 ?_
      refine J_aload Y 2 dX4_film_99 rfl ?_
      refine C_get 0 X uw_X1 (cO_sh G _ ho5) rfl (by decide) rfl wfl_RX4_173 rfl dX4_film_101 ?_
      refine J_iload Y 4 dX4_film_104 rfl ?_
      refine C_ald X (cA_sh_0 G _ ho5) dX4_film_106 (fun x106 => ?_)
      refine C_cVi (As := [.int x106]) (st := []) rfl X (c_X0_tries G 3 x106 (Or.inr (Or.inl rfl)) _) (cO_co G _ (Or.inr (Or.inl rfl))) rfl rfl wi_X0_tries win_X0_tries wse_X0_tries wml_RX4_176 ⟨Nat.le_of_ble_eq_true rfl, Nat.le_of_ble_eq_true rfl⟩ rfl (Nat.le_of_ble_eq_true rfl) dX4_film_107 (fun y107 t107 => ?_)
      refine J_pop Y dX4_film_110 rfl ?_
      refine J_aload_n Y 0 dX4_film_111 rfl rfl ?_
      refine C_get 4 X uw_X4 (cO_0 G _) rfl (by decide) rfl wfl_RX4_62 rfl dX4_film_112 ?_
      refine C_cVi (As := []) (st := []) rfl X (c_X0_pass G 3 (Or.inr (Or.inl rfl)) _) (cO_co G _ (Or.inr (Or.inl rfl))) rfl rfl wi_X0_pass win_X0_pass wse_X0_pass wml_RX4_155 ⟨Nat.le_of_ble_eq_true rfl, Nat.le_of_ble_eq_true rfl⟩ rfl (Nat.le_of_ble_eq_true rfl) dX4_film_115 (fun y115 t115 => ?_)
      refine J_pop Y dX4_film_118 rfl ?_
      refine J_aload Y 3 dX4_film_119 rfl ?_
      refine J_iload Y 4 dX4_film_121 rfl ?_
      refine J_aload_n Y 0 dX4_film_123 rfl rfl ?_
      refine C_get 4 X uw_X4 (cO_0 G _) rfl (by decide) rfl wfl_RX4_62 rfl dX4_film_124 ?_
      refine C_get 4 X uw_X0 (cO_co G _ (Or.inr (Or.inl rfl))) rfl (by decide) rfl wfl_RX4_119 rfl dX4_film_127 ?_
      refine J_iload_n Y 1 dX4_film_130 rfl rfl ?_
      refine C_ald X (cA_co_4 G _ (Or.inr (Or.inl rfl))) dX4_film_131 (fun x131 => ?_)
      refine C_cVv (As := [.int v7, .int x131]) (st := []) rfl X (c_X1_write G o6 v7 x131 ho6 _) (cO_sh G _ ho6) rfl rfl wi_X1_write win_X1_write wse_X1_write wml_RX4_228 ⟨Nat.le_of_ble_eq_true rfl, Nat.le_of_ble_eq_true rfl⟩ rfl (Nat.le_of_ble_eq_true rfl) dX4_film_132 (fun t132 => ?_)
      refine J_iinc (v := v7 + (1 : Int32)) [(7, .int (v7 + (1 : Int32))), (0, .ref (gO G 0)), (3, .int v3), (5, .ref (gO G o5)), (6, .ref (gO G o6))] Y 4 dX4_film_135 rfl (congrArg (fun z => _ + z) (by decide)) (by decide) rfl ?_
      refine J_goto (tgt := 85) Y dX4_film_138 (by decide) ?_
      refine J_sub [1, 2, 3, 4, 0] rfl ?_
      exact ih v3 o5 o6 (v7 + (1 : Int32)) ho5 ho6 t132
set_option maxRecDepth 100000 in
set_option maxHeartbeats 4000000 in
theorem j_X4_film {E : JE} {G : JG} (X : JC E 8 cX4_film RX4 (some .int) 6 240 G) (v1 : Int32) (v2 : Int32) (v3 : Int32) (σ : ST) : Jg E 8 (JF E vI) [(0, .ref (gO G 0)), (1, .int v1), (2, .int v2), (3, .int v3)] 0 [] σ (f_X4_film (gT G) v1 v2 v3 σ) := by
  have Y := X.1
  unfold f_X4_film
  refine J_iload_n Y 2 dX4_film_0 rfl rfl ?_
  refine C_cSi (As := [.int v2]) (st := []) rfl X (c_X4_isSheet G v2 _) wi_X4_isSheet wst_X4_isSheet wml_RX4_223 ⟨Nat.le_of_ble_eq_true rfl, Nat.le_of_ble_eq_true rfl⟩ rfl (Nat.le_of_ble_eq_true rfl) dX4_film_1 (fun y1 t1 => ?_)
  refine J_if_eq (tgt := 12) Y dX4_film_4 (by decide) ?_ ?_
  · refine J_sub [] rfl ?_
    exact j_X4_film_L12 X  t1
  · refine J_iload_n Y 2 dX4_film_7 rfl rfl ?_
    refine J_iload_n Y 1 dX4_film_8 rfl rfl ?_
    refine J_icmp_ne (tgt := 15) Y dX4_film_9 (by decide) ?_ ?_
    · refine J_aload_n Y 0 dX4_film_15 rfl rfl ?_
      refine J_iload_n Y 1 dX4_film_16 rfl rfl ?_
      refine C_cVi (As := [.int v1]) (st := []) rfl X (c_X4_refusesEvening G v1 _) (cO_0 G _) rfl rfl wi_X4_refusesEvening win_X4_refusesEvening wse_X4_refusesEvening wml_RX4_165 ⟨Nat.le_of_ble_eq_true rfl, Nat.le_of_ble_eq_true rfl⟩ rfl (Nat.le_of_ble_eq_true rfl) dX4_film_17 (fun y17 t17 => ?_)
      refine J_istore [(4, .int y17), (0, .ref (gO G 0)), (1, .int v1), (2, .int v2), (3, .int v3)] Y dX4_film_20 (by decide) rfl ?_
      refine J_iload Y 0 dX4_film_22 rfl ?_
      refine J_if_eq (tgt := 30) Y dX4_film_24 (by decide) ?_ ?_
      · refine J_aload_n Y 1 dX4_film_30 rfl rfl ?_
        refine C_get 3 X uw_X4 (cO_0 G _) rfl (by decide) rfl wfl_RX4_58 rfl dX4_film_31 ?_
        refine J_iload_n Y 4 dX4_film_34 rfl rfl ?_
        refine C_cVi (As := [.int v3]) (st := []) rfl X (c_X0_has G 2 v3 (Or.inl rfl) _) (cO_co G _ (Or.inl rfl)) rfl rfl wi_X0_has win_X0_has wse_X0_has wml_RX4_100 ⟨Nat.le_of_ble_eq_true rfl, Nat.le_of_ble_eq_true rfl⟩ rfl (Nat.le_of_ble_eq_true rfl) dX4_film_35 (fun y35 t35 => ?_)
        refine J_if_ne (tgt := 44) Y dX4_film_38 (by decide) ?_ ?_
        · refine J_aload_n Y 1 dX4_film_44 rfl rfl ?_
          refine C_get 7 X uw_X4 (cO_0 G _) rfl (by decide) rfl wfl_RX4_71 rfl dX4_film_45 ?_
          refine J_iload_n Y 2 dX4_film_48 rfl rfl ?_
          refine J_chk (fun h49 => ?_)
          refine C_aalS X h49 dX4_film_49 ?_
          refine J_astore [(5, .ref (gO G (5 + v1.toNatClampNeg))), (4, .int y17), (0, .ref (gO G 0)), (1, .int v1), (2, .int v2), (3, .int v3)] Y dX4_film_50 (by decide) rfl ?_
          refine J_aload_n Y 2 dX4_film_52 rfl rfl ?_
          refine C_get 7 X uw_X4 (cO_0 G _) rfl (by decide) rfl wfl_RX4_71 rfl dX4_film_53 ?_
          refine J_iload_n Y 4 dX4_film_56 rfl rfl ?_
          refine J_chk (fun h57 => ?_)
          refine C_aalS X h57 dX4_film_57 ?_
          refine J_astore [(6, .ref (gO G (5 + v2.toNatClampNeg))), (5, .ref (gO G (5 + v1.toNatClampNeg))), (4, .int y17), (0, .ref (gO G 0)), (1, .int v1), (2, .int v2), (3, .int v3)] Y dX4_film_58 (by decide) rfl ?_
          refine J_aload Y 0 dX4_film_60 rfl ?_
          refine J_iconst (v := (0 : Int32)) Y dX4_film_62 (by decide) ?_
          refine J_aload Y 1 dX4_film_63 rfl ?_
          refine C_get 2 X uw_X1 (cO_sh G _ (shI h49)) rfl (by decide) rfl wfl_RX4_172 rfl dX4_film_65 ?_
          refine C_cVv (As := [.int (0 : Int32), .int (gs (5 + v1.toNatClampNeg) 2 t35)]) (st := []) rfl X (c_X1_becomes G (5 + v2.toNatClampNeg) (0 : Int32) (gs (5 + v1.toNatClampNeg) 2 t35) (shI h57) _) (cO_sh G _ (shI h57)) rfl rfl wi_X1_becomes win_X1_becomes wse_X1_becomes wml_RX4_226 ⟨Nat.le_of_ble_eq_true rfl, Nat.le_of_ble_eq_true rfl⟩ rfl (Nat.le_of_ble_eq_true rfl) dX4_film_68 (fun t68 => ?_)
          refine J_aload_n Y 3 dX4_film_71 rfl rfl ?_
          refine C_get 4 X uw_X4 (cO_0 G _) rfl (by decide) rfl wfl_RX4_62 rfl dX4_film_72 ?_
          refine J_aload_n Y 3 dX4_film_75 rfl rfl ?_
          refine C_get 3 X uw_X4 (cO_0 G _) rfl (by decide) rfl wfl_RX4_58 rfl dX4_film_76 ?_
          refine C_cVv (As := [.ref (gO G 2)]) (st := []) rfl X (c_X0_becomes G 3 2 (Or.inr (Or.inl rfl)) (Or.inl rfl) _) (cO_co G _ (Or.inr (Or.inl rfl))) rfl rfl wi_X0_becomes win_X0_becomes wse_X0_becomes wml_RX4_168 ⟨Nat.le_of_ble_eq_true rfl, Nat.le_of_ble_eq_true rfl⟩ rfl (Nat.le_of_ble_eq_true rfl) dX4_film_79 (fun t79 => ?_)
          refine J_iconst (v := (0 : Int32)) Y dX4_film_82 (by decide) ?_
          refine J_istore [(7, .int (0 : Int32)), (6, .ref (gO G (5 + v2.toNatClampNeg))), (5, .ref (gO G (5 + v1.toNatClampNeg))), (4, .int y17), (0, .ref (gO G 0)), (1, .int v1), (2, .int v2), (3, .int v3)] Y dX4_film_83 (by decide) rfl ?_
          refine J_sub [4, 7, 2, 1, 0] rfl ?_
          exact j_X4_film_L85 X 1000 v3 (5 + v1.toNatClampNeg) (5 + v2.toNatClampNeg) (0 : Int32) (shI h49) (shI h57) t79
        · refine J_bipush (v := (-5 : Int32)) Y dX4_film_41 (by decide) ?_
          exact J_ireturn Y dX4_film_43
      · refine J_iload Y 0 dX4_film_27 rfl ?_
        exact J_ireturn Y dX4_film_29
    · refine J_sub [] rfl ?_
      exact j_X4_film_L12 X  t1
theorem c_X4_film (G : JG) (v1 : Int32) (v2 : Int32) (v3 : Int32) (σ : ST) : Con (VC G) vI G.1 yX4_film cX4_film 8 (some .int) 6 240 [.ref (gO G 0), .int v1, .int v2, .int v3] σ (f_X4_film (gT G) v1 v2 v3 σ) :=
  Con_of (VC_ok G) (by decide +kernel) (Nat.le_of_ble_eq_true rfl) (fun E e1 e2 _ X => j_X4_film ⟨X, e1, e2⟩ v1 v2 v3 σ)
set_option maxRecDepth 100000 in
set_option maxHeartbeats 4000000 in
theorem j_X4_drawEvening_L85 {E : JE} {G : JG} (X : JC E 9 cX4_drawEvening RX4 (some .int) 6 240 G) {k22 : Int32 → Int64 → Int32 → Int32 → ST → Option (Int32 × ST)} (hk22 : ∀ (v2 : Int32) (w3 : Int64) (v5 : Int32) (v6 : Int32) (σ : ST), Jg E 9 (JF E vI) [(0, .ref (gO G 0)), (2, .int v2), (3, .long w3), (5, .int v5), (6, .int v6)] 22 [] σ (k22 v2 w3 v5 v6 σ)) (v2 : Int32) (w3 : Int64) (v5 : Int32) (v6 : Int32) (σ : ST) : Jg E 9 (JF E vI) [(0, .ref (gO G 0)), (2, .int v2), (3, .long w3), (5, .int v5), (6, .int v6)] 85 [] σ (f_X4_drawEvening_L85 (gT G) k22 v2 w3 v5 v6 σ) := by
  have Y := X.1
  unfold f_X4_drawEvening_L85
  refine J_aload_n Y 0 dX4_drawEvening_85 rfl rfl ?_
  refine C_get 4 X uw_X4 (cO_0 G _) rfl (by decide) rfl wfl_RX4_62 rfl dX4_drawEvening_86 ?_
  refine C_cVi (As := []) (st := []) rfl X (c_X0_pass G 3 (Or.inr (Or.inl rfl)) _) (cO_co G _ (Or.inr (Or.inl rfl))) rfl rfl wi_X0_pass win_X0_pass wse_X0_pass wml_RX4_155 ⟨Nat.le_of_ble_eq_true rfl, Nat.le_of_ble_eq_true rfl⟩ rfl (Nat.le_of_ble_eq_true rfl) dX4_drawEvening_89 (fun y89 t89 => ?_)
  refine J_pop Y dX4_drawEvening_92 rfl ?_
  refine J_iinc (v := v6 + (1 : Int32)) [(6, .int (v6 + (1 : Int32))), (0, .ref (gO G 0)), (2, .int v2), (3, .long w3), (5, .int v5)] Y 4 dX4_drawEvening_93 rfl (congrArg (fun z => _ + z) (by decide)) (by decide) rfl ?_
  refine J_goto (tgt := 22) Y dX4_drawEvening_96 (by decide) ?_
  refine J_sub [1, 2, 3, 4, 0] rfl ?_
  exact hk22 v2 w3 v5 (v6 + (1 : Int32)) t89
set_option maxRecDepth 100000 in
set_option maxHeartbeats 4000000 in
theorem j_X4_drawEvening_L22 {E : JE} {G : JG} (X : JC E 9 cX4_drawEvening RX4 (some .int) 6 240 G) : ∀ (n : Nat) (v2 : Int32) (w3 : Int64) (v5 : Int32) (v6 : Int32) (σ : ST), Jg E 9 (JF E vI) [(0, .ref (gO G 0)), (2, .int v2), (3, .long w3), (5, .int v5), (6, .int v6)] 22 [] σ (f_X4_drawEvening_L22 (gT G) n v2 w3 v5 v6 σ) := by
  have Y := X.1
  intro n
  induction n with
  | zero => intro v2 w3 v5 v6 σ; rw [f_X4_drawEvening_L22]; exact J_none
  | succ n ih =>
    intro v2 w3 v5 v6 σ
    rw [f_X4_drawEvening_L22]
    refine J_iload Y 4 dX4_drawEvening_22 rfl ?_
    refine J_iload_n Y 1 dX4_drawEvening_24 rfl rfl ?_
    refine J_icmp_ge (tgt := 99) Y dX4_drawEvening_25 (by decide) ?_ ?_
    · refine J_iload Y 3 dX4_drawEvening_99 rfl ?_
      exact J_ireturn Y dX4_drawEvening_101
    · refine J_lload_n Y 2 dX4_drawEvening_28 rfl rfl ?_
      refine J_ldc2 (v := (48271 : Int64)) Y wcl_RX4_235 dX4_drawEvening_29 ?_
      refine J_lmul Y dX4_drawEvening_32 ?_
      refine J_ldc2 (v := (2147483647 : Int64)) Y wcl_RX4_237 dX4_drawEvening_33 ?_
      refine J_lrem Y dX4_drawEvening_36 (by decide) ?_
      refine J_lstore_n [(3, .long ((w3 * (48271 : Int64)) - (w3 * (48271 : Int64)) / (2147483647 : Int64) * (2147483647 : Int64))), (0, .ref (gO G 0)), (2, .int v2), (5, .int v5), (6, .int v6)] Y dX4_drawEvening_37 rfl (by decide) rfl ?_
      refine J_lload_n Y 0 dX4_drawEvening_38 rfl rfl ?_
      refine J_ldc2 (v := (6 : Int64)) Y wcl_RX4_239 dX4_drawEvening_39 ?_
      refine J_lrem Y dX4_drawEvening_42 (by decide) ?_
      refine J_l2i Y dX4_drawEvening_43 ?_
      refine J_istore [(7, .int ((((w3 * (48271 : Int64)) - (w3 * (48271 : Int64)) / (2147483647 : Int64) * (2147483647 : Int64)) - ((w3 * (48271 : Int64)) - (w3 * (48271 : Int64)) / (2147483647 : Int64) * (2147483647 : Int64)) / (6 : Int64) * (6 : Int64)).toInt32)), (3, .long ((w3 * (48271 : Int64)) - (w3 * (48271 : Int64)) / (2147483647 : Int64) * (2147483647 : Int64))), (0, .ref (gO G 0)), (2, .int v2), (5, .int v5), (6, .int v6)] Y dX4_drawEvening_44 (by decide) rfl ?_
      refine J_lload_n Y 1 dX4_drawEvening_46 rfl rfl ?_
      refine J_ldc2 (v := (48271 : Int64)) Y wcl_RX4_235 dX4_drawEvening_47 ?_
      refine J_lmul Y dX4_drawEvening_50 ?_
      refine J_ldc2 (v := (2147483647 : Int64)) Y wcl_RX4_237 dX4_drawEvening_51 ?_
      refine J_lrem Y dX4_drawEvening_54 (by decide) ?_
      refine J_lstore_n [(3, .long ((((w3 * (48271 : Int64)) - (w3 * (48271 : Int64)) / (2147483647 : Int64) * (2147483647 : Int64)) * (48271 : Int64)) - (((w3 * (48271 : Int64)) - (w3 * (48271 : Int64)) / (2147483647 : Int64) * (2147483647 : Int64)) * (48271 : Int64)) / (2147483647 : Int64) * (2147483647 : Int64))), (7, .int ((((w3 * (48271 : Int64)) - (w3 * (48271 : Int64)) / (2147483647 : Int64) * (2147483647 : Int64)) - ((w3 * (48271 : Int64)) - (w3 * (48271 : Int64)) / (2147483647 : Int64) * (2147483647 : Int64)) / (6 : Int64) * (6 : Int64)).toInt32)), (0, .ref (gO G 0)), (2, .int v2), (5, .int v5), (6, .int v6)] Y dX4_drawEvening_55 rfl (by decide) rfl ?_
      refine J_lload_n Y 0 dX4_drawEvening_56 rfl rfl ?_
      refine J_ldc2 (v := (8 : Int64)) Y wcl_RX4_241 dX4_drawEvening_57 ?_
      refine J_lrem Y dX4_drawEvening_60 (by decide) ?_
      refine J_l2i Y dX4_drawEvening_61 ?_
      refine J_istore [(8, .int ((((((w3 * (48271 : Int64)) - (w3 * (48271 : Int64)) / (2147483647 : Int64) * (2147483647 : Int64)) * (48271 : Int64)) - (((w3 * (48271 : Int64)) - (w3 * (48271 : Int64)) / (2147483647 : Int64) * (2147483647 : Int64)) * (48271 : Int64)) / (2147483647 : Int64) * (2147483647 : Int64)) - ((((w3 * (48271 : Int64)) - (w3 * (48271 : Int64)) / (2147483647 : Int64) * (2147483647 : Int64)) * (48271 : Int64)) - (((w3 * (48271 : Int64)) - (w3 * (48271 : Int64)) / (2147483647 : Int64) * (2147483647 : Int64)) * (48271 : Int64)) / (2147483647 : Int64) * (2147483647 : Int64)) / (8 : Int64) * (8 : Int64)).toInt32)), (3, .long ((((w3 * (48271 : Int64)) - (w3 * (48271 : Int64)) / (2147483647 : Int64) * (2147483647 : Int64)) * (48271 : Int64)) - (((w3 * (48271 : Int64)) - (w3 * (48271 : Int64)) / (2147483647 : Int64) * (2147483647 : Int64)) * (48271 : Int64)) / (2147483647 : Int64) * (2147483647 : Int64))), (7, .int ((((w3 * (48271 : Int64)) - (w3 * (48271 : Int64)) / (2147483647 : Int64) * (2147483647 : Int64)) - ((w3 * (48271 : Int64)) - (w3 * (48271 : Int64)) / (2147483647 : Int64) * (2147483647 : Int64)) / (6 : Int64) * (6 : Int64)).toInt32)), (0, .ref (gO G 0)), (2, .int v2), (5, .int v5), (6, .int v6)] Y dX4_drawEvening_62 (by decide) rfl ?_
      refine J_aload_n Y 3 dX4_drawEvening_64 rfl rfl ?_
      refine C_get 4 X uw_X4 (cO_0 G _) rfl (by decide) rfl wfl_RX4_62 rfl dX4_drawEvening_65 ?_
      refine J_bipush (v := (10 : Int32)) Y dX4_drawEvening_68 (by decide) ?_
      refine J_iload Y 2 dX4_drawEvening_70 rfl ?_
      refine J_imul Y dX4_drawEvening_72 ?_
      refine J_iload Y 0 dX4_drawEvening_73 rfl ?_
      refine J_iadd Y dX4_drawEvening_75 ?_
      refine C_cVi (As := [.int (((10 : Int32) * ((((w3 * (48271 : Int64)) - (w3 * (48271 : Int64)) / (2147483647 : Int64) * (2147483647 : Int64)) - ((w3 * (48271 : Int64)) - (w3 * (48271 : Int64)) / (2147483647 : Int64) * (2147483647 : Int64)) / (6 : Int64) * (6 : Int64)).toInt32)) + ((((((w3 * (48271 : Int64)) - (w3 * (48271 : Int64)) / (2147483647 : Int64) * (2147483647 : Int64)) * (48271 : Int64)) - (((w3 * (48271 : Int64)) - (w3 * (48271 : Int64)) / (2147483647 : Int64) * (2147483647 : Int64)) * (48271 : Int64)) / (2147483647 : Int64) * (2147483647 : Int64)) - ((((w3 * (48271 : Int64)) - (w3 * (48271 : Int64)) / (2147483647 : Int64) * (2147483647 : Int64)) * (48271 : Int64)) - (((w3 * (48271 : Int64)) - (w3 * (48271 : Int64)) / (2147483647 : Int64) * (2147483647 : Int64)) * (48271 : Int64)) / (2147483647 : Int64) * (2147483647 : Int64)) / (8 : Int64) * (8 : Int64)).toInt32))]) (st := []) rfl X (c_X0_tries G 3 (((10 : Int32) * ((((w3 * (48271 : Int64)) - (w3 * (48271 : Int64)) / (2147483647 : Int64) * (2147483647 : Int64)) - ((w3 * (48271 : Int64)) - (w3 * (48271 : Int64)) / (2147483647 : Int64) * (2147483647 : Int64)) / (6 : Int64) * (6 : Int64)).toInt32)) + ((((((w3 * (48271 : Int64)) - (w3 * (48271 : Int64)) / (2147483647 : Int64) * (2147483647 : Int64)) * (48271 : Int64)) - (((w3 * (48271 : Int64)) - (w3 * (48271 : Int64)) / (2147483647 : Int64) * (2147483647 : Int64)) * (48271 : Int64)) / (2147483647 : Int64) * (2147483647 : Int64)) - ((((w3 * (48271 : Int64)) - (w3 * (48271 : Int64)) / (2147483647 : Int64) * (2147483647 : Int64)) * (48271 : Int64)) - (((w3 * (48271 : Int64)) - (w3 * (48271 : Int64)) / (2147483647 : Int64) * (2147483647 : Int64)) * (48271 : Int64)) / (2147483647 : Int64) * (2147483647 : Int64)) / (8 : Int64) * (8 : Int64)).toInt32)) (Or.inr (Or.inl rfl)) _) (cO_co G _ (Or.inr (Or.inl rfl))) rfl rfl wi_X0_tries win_X0_tries wse_X0_tries wml_RX4_176 ⟨Nat.le_of_ble_eq_true rfl, Nat.le_of_ble_eq_true rfl⟩ rfl (Nat.le_of_ble_eq_true rfl) dX4_drawEvening_76 (fun y76 t76 => ?_)
      refine J_if_eq (tgt := 85) Y dX4_drawEvening_79 (by decide) ?_ ?_
      · refine J_sub [3, 4, 1, 5, 6] rfl ?_
        exact j_X4_drawEvening_L85 X (fun v2 w3 v5 v6 σ => ih v2 w3 v5 v6 σ) v2 ((((w3 * (48271 : Int64)) - (w3 * (48271 : Int64)) / (2147483647 : Int64) * (2147483647 : Int64)) * (48271 : Int64)) - (((w3 * (48271 : Int64)) - (w3 * (48271 : Int64)) / (2147483647 : Int64) * (2147483647 : Int64)) * (48271 : Int64)) / (2147483647 : Int64) * (2147483647 : Int64)) v5 v6 t76
      · refine J_iinc (v := v5 + (1 : Int32)) [(5, .int (v5 + (1 : Int32))), (8, .int ((((((w3 * (48271 : Int64)) - (w3 * (48271 : Int64)) / (2147483647 : Int64) * (2147483647 : Int64)) * (48271 : Int64)) - (((w3 * (48271 : Int64)) - (w3 * (48271 : Int64)) / (2147483647 : Int64) * (2147483647 : Int64)) * (48271 : Int64)) / (2147483647 : Int64) * (2147483647 : Int64)) - ((((w3 * (48271 : Int64)) - (w3 * (48271 : Int64)) / (2147483647 : Int64) * (2147483647 : Int64)) * (48271 : Int64)) - (((w3 * (48271 : Int64)) - (w3 * (48271 : Int64)) / (2147483647 : Int64) * (2147483647 : Int64)) * (48271 : Int64)) / (2147483647 : Int64) * (2147483647 : Int64)) / (8 : Int64) * (8 : Int64)).toInt32)), (3, .long ((((w3 * (48271 : Int64)) - (w3 * (48271 : Int64)) / (2147483647 : Int64) * (2147483647 : Int64)) * (48271 : Int64)) - (((w3 * (48271 : Int64)) - (w3 * (48271 : Int64)) / (2147483647 : Int64) * (2147483647 : Int64)) * (48271 : Int64)) / (2147483647 : Int64) * (2147483647 : Int64))), (7, .int ((((w3 * (48271 : Int64)) - (w3 * (48271 : Int64)) / (2147483647 : Int64) * (2147483647 : Int64)) - ((w3 * (48271 : Int64)) - (w3 * (48271 : Int64)) / (2147483647 : Int64) * (2147483647 : Int64)) / (6 : Int64) * (6 : Int64)).toInt32)), (0, .ref (gO G 0)), (2, .int v2), (6, .int v6)] Y 5 dX4_drawEvening_82 rfl (congrArg (fun z => _ + z) (by decide)) (by decide) rfl ?_
        refine J_sub [4, 5, 2, 0, 6] rfl ?_
        exact j_X4_drawEvening_L85 X (fun v2 w3 v5 v6 σ => ih v2 w3 v5 v6 σ) v2 ((((w3 * (48271 : Int64)) - (w3 * (48271 : Int64)) / (2147483647 : Int64) * (2147483647 : Int64)) * (48271 : Int64)) - (((w3 * (48271 : Int64)) - (w3 * (48271 : Int64)) / (2147483647 : Int64) * (2147483647 : Int64)) * (48271 : Int64)) / (2147483647 : Int64) * (2147483647 : Int64)) (v5 + (1 : Int32)) v6 t76
set_option maxRecDepth 100000 in
set_option maxHeartbeats 4000000 in
theorem j_X4_drawEvening {E : JE} {G : JG} (X : JC E 9 cX4_drawEvening RX4 (some .int) 6 240 G) (v1 : Int32) (v2 : Int32) (σ : ST) : Jg E 9 (JF E vI) [(0, .ref (gO G 0)), (1, .int v1), (2, .int v2)] 0 [] σ (f_X4_drawEvening (gT G) v1 v2 σ) := by
  have Y := X.1
  unfold f_X4_drawEvening
  refine J_aload_n Y 0 dX4_drawEvening_0 rfl rfl ?_
  refine C_get 4 X uw_X4 (cO_0 G _) rfl (by decide) rfl wfl_RX4_62 rfl dX4_drawEvening_1 ?_
  refine J_aload_n Y 0 dX4_drawEvening_4 rfl rfl ?_
  refine C_get 3 X uw_X4 (cO_0 G _) rfl (by decide) rfl wfl_RX4_58 rfl dX4_drawEvening_5 ?_
  refine C_cVv (As := [.ref (gO G 2)]) (st := []) rfl X (c_X0_becomes G 3 2 (Or.inr (Or.inl rfl)) (Or.inl rfl) _) (cO_co G _ (Or.inr (Or.inl rfl))) rfl rfl wi_X0_becomes win_X0_becomes wse_X0_becomes wml_RX4_168 ⟨Nat.le_of_ble_eq_true rfl, Nat.le_of_ble_eq_true rfl⟩ rfl (Nat.le_of_ble_eq_true rfl) dX4_drawEvening_8 (fun t8 => ?_)
  refine J_iload_n Y 1 dX4_drawEvening_11 rfl rfl ?_
  refine J_iconst (v := (1 : Int32)) Y dX4_drawEvening_12 (by decide) ?_
  refine J_iadd Y dX4_drawEvening_13 ?_
  refine J_i2l Y dX4_drawEvening_14 ?_
  refine J_lstore_n [(3, .long ((v1 + (1 : Int32)).toInt64)), (0, .ref (gO G 0)), (1, .int v1), (2, .int v2)] Y dX4_drawEvening_15 rfl (by decide) rfl ?_
  refine J_iconst (v := (0 : Int32)) Y dX4_drawEvening_16 (by decide) ?_
  refine J_istore [(5, .int (0 : Int32)), (3, .long ((v1 + (1 : Int32)).toInt64)), (0, .ref (gO G 0)), (1, .int v1), (2, .int v2)] Y dX4_drawEvening_17 (by decide) rfl ?_
  refine J_iconst (v := (0 : Int32)) Y dX4_drawEvening_19 (by decide) ?_
  refine J_istore [(6, .int (0 : Int32)), (5, .int (0 : Int32)), (3, .long ((v1 + (1 : Int32)).toInt64)), (0, .ref (gO G 0)), (1, .int v1), (2, .int v2)] Y dX4_drawEvening_20 (by decide) rfl ?_
  refine J_sub [3, 5, 2, 1, 0] rfl ?_
  exact j_X4_drawEvening_L22 X 1000 v2 ((v1 + (1 : Int32)).toInt64) (0 : Int32) (0 : Int32) t8
theorem c_X4_drawEvening (G : JG) (v1 : Int32) (v2 : Int32) (σ : ST) : Con (VC G) vI G.1 yX4_drawEvening cX4_drawEvening 9 (some .int) 6 240 [.ref (gO G 0), .int v1, .int v2] σ (f_X4_drawEvening (gT G) v1 v2 σ) :=
  Con_of (VC_ok G) (by decide +kernel) (Nat.le_of_ble_eq_true rfl) (fun E e1 e2 _ X => j_X4_drawEvening ⟨X, e1, e2⟩ v1 v2 σ)
