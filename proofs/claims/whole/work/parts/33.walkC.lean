set_option maxRecDepth 100000 in
set_option maxHeartbeats 4000000 in
theorem j_X1_isMissing_L12 {E : JE} {G : JG} (X : JC E 1 cX1_isMissing RX1 (some .boolean) 0 0 G) (s0 : Int32) (σ : ST) : Jg E 1 (JF E vI) [] 12 [.int s0] σ (f_X1_isMissing_L12 (gT G) s0 σ) := by
  have Y := X.1
  unfold f_X1_isMissing_L12
  exact J_zreturn Y dX1_isMissing_12
set_option maxRecDepth 100000 in
set_option maxHeartbeats 4000000 in
theorem j_X1_isMissing {E : JE} {G : JG} (X : JC E 1 cX1_isMissing RX1 (some .boolean) 0 0 G) (o0 : Nat) (ho0 : isSh o0) (σ : ST) : Jg E 1 (JF E vI) [(0, .ref (gO G o0))] 0 [] σ (f_X1_isMissing (gT G) o0 σ) := by
  have Y := X.1
  unfold f_X1_isMissing
  refine J_aload_n Y 0 dX1_isMissing_0 rfl rfl ?_
  refine C_get 1 X uw_X1 (cO_sh G _ ho0) rfl (by decide) rfl wfl_RX1_15 rfl dX1_isMissing_1 ?_
  refine J_if_ge (tgt := 11) Y dX1_isMissing_4 (by decide) ?_ ?_
  · refine J_iconst (v := (0 : Int32)) Y dX1_isMissing_11 (by decide) ?_
    refine J_sub [] rfl ?_
    exact j_X1_isMissing_L12 X (0 : Int32) σ
  · refine J_iconst (v := (1 : Int32)) Y dX1_isMissing_7 (by decide) ?_
    refine J_goto (tgt := 12) Y dX1_isMissing_8 (by decide) ?_
    refine J_sub [] rfl ?_
    exact j_X1_isMissing_L12 X (1 : Int32) σ
theorem c_X1_isMissing (G : JG) (o0 : Nat) (ho0 : isSh o0) (σ : ST) : Con (VC G) vI G.1 yX1_isMissing cX1_isMissing 1 (some .boolean) 0 0 [.ref (gO G o0)] σ (f_X1_isMissing (gT G) o0 σ) :=
  Con_of (VC_ok G) (by decide +kernel) (Nat.le_of_ble_eq_true rfl) (fun E e1 e2 _ X => j_X1_isMissing ⟨X, e1, e2⟩ o0 ho0 σ)
set_option maxRecDepth 100000 in
set_option maxHeartbeats 4000000 in
theorem j_X1_has_L17 {E : JE} {G : JG} (X : JC E 2 cX1_has RX1 (some .boolean) 0 0 G) (s0 : Int32) (σ : ST) : Jg E 2 (JF E vI) [] 17 [.int s0] σ (f_X1_has_L17 (gT G) s0 σ) := by
  have Y := X.1
  unfold f_X1_has_L17
  exact J_zreturn Y dX1_has_17
set_option maxRecDepth 100000 in
set_option maxHeartbeats 4000000 in
theorem j_X1_has_L16 {E : JE} {G : JG} (X : JC E 2 cX1_has RX1 (some .boolean) 0 0 G) (σ : ST) : Jg E 2 (JF E vI) [] 16 [] σ (f_X1_has_L16 (gT G) σ) := by
  have Y := X.1
  unfold f_X1_has_L16
  refine J_iconst (v := (0 : Int32)) Y dX1_has_16 (by decide) ?_
  exact j_X1_has_L17 X (0 : Int32) σ
set_option maxRecDepth 100000 in
set_option maxHeartbeats 4000000 in
theorem j_X1_has {E : JE} {G : JG} (X : JC E 2 cX1_has RX1 (some .boolean) 0 0 G) (o0 : Nat) (v1 : Int32) (ho0 : isSh o0) (σ : ST) : Jg E 2 (JF E vI) [(0, .ref (gO G o0)), (1, .int v1)] 0 [] σ (f_X1_has (gT G) o0 v1 σ) := by
  have Y := X.1
  unfold f_X1_has
  refine J_iload_n Y 1 dX1_has_0 rfl rfl ?_
  refine J_if_lt (tgt := 16) Y dX1_has_1 (by decide) ?_ ?_
  · refine J_sub [] rfl ?_
    exact j_X1_has_L16 X  σ
  · refine J_iload_n Y 1 dX1_has_4 rfl rfl ?_
    refine J_aload_n Y 0 dX1_has_5 rfl rfl ?_
    refine C_get 2 X uw_X1 (cO_sh G _ ho0) rfl (by decide) rfl wfl_RX1_19 rfl dX1_has_6 ?_
    refine J_icmp_ge (tgt := 16) Y dX1_has_9 (by decide) ?_ ?_
    · refine J_sub [] rfl ?_
      exact j_X1_has_L16 X  σ
    · refine J_iconst (v := (1 : Int32)) Y dX1_has_12 (by decide) ?_
      refine J_goto (tgt := 17) Y dX1_has_13 (by decide) ?_
      refine J_sub [] rfl ?_
      exact j_X1_has_L17 X (1 : Int32) σ
theorem c_X1_has (G : JG) (o0 : Nat) (v1 : Int32) (ho0 : isSh o0) (σ : ST) : Con (VC G) vI G.1 yX1_has cX1_has 2 (some .boolean) 0 0 [.ref (gO G o0), .int v1] σ (f_X1_has (gT G) o0 v1 σ) :=
  Con_of (VC_ok G) (by decide +kernel) (Nat.le_of_ble_eq_true rfl) (fun E e1 e2 _ X => j_X1_has ⟨X, e1, e2⟩ o0 v1 ho0 σ)
set_option maxRecDepth 100000 in
set_option maxHeartbeats 4000000 in
theorem j_X1_holds_L31 {E : JE} {G : JG} (X : JC E 3 cX1_holds RX1 (some .boolean) 0 0 G) (s0 : Int32) (σ : ST) : Jg E 3 (JF E vI) [] 31 [.int s0] σ (f_X1_holds_L31 (gT G) s0 σ) := by
  have Y := X.1
  unfold f_X1_holds_L31
  exact J_zreturn Y dX1_holds_31
set_option maxRecDepth 100000 in
set_option maxHeartbeats 4000000 in
theorem j_X1_holds_L30 {E : JE} {G : JG} (X : JC E 3 cX1_holds RX1 (some .boolean) 0 0 G) (σ : ST) : Jg E 3 (JF E vI) [] 30 [] σ (f_X1_holds_L30 (gT G) σ) := by
  have Y := X.1
  unfold f_X1_holds_L30
  refine J_iconst (v := (0 : Int32)) Y dX1_holds_30 (by decide) ?_
  exact j_X1_holds_L31 X (0 : Int32) σ
set_option maxRecDepth 100000 in
set_option maxHeartbeats 4000000 in
theorem j_X1_holds {E : JE} {G : JG} (X : JC E 3 cX1_holds RX1 (some .boolean) 0 0 G) (o0 : Nat) (v1 : Int32) (v2 : Int32) (ho0 : isSh o0) (σ : ST) : Jg E 3 (JF E vI) [(0, .ref (gO G o0)), (1, .int v1), (2, .int v2)] 0 [] σ (f_X1_holds (gT G) o0 v1 v2 σ) := by
  have Y := X.1
  unfold f_X1_holds
  refine J_iload_n Y 1 dX1_holds_0 rfl rfl ?_
  refine J_if_lt (tgt := 30) Y dX1_holds_1 (by decide) ?_ ?_
  · refine J_sub [] rfl ?_
    exact j_X1_holds_L30 X  σ
  · refine J_iload_n Y 2 dX1_holds_4 rfl rfl ?_
    refine J_if_lt (tgt := 30) Y dX1_holds_5 (by decide) ?_ ?_
    · refine J_sub [] rfl ?_
      exact j_X1_holds_L30 X  σ
    · refine J_iload_n Y 2 dX1_holds_8 rfl rfl ?_
      refine J_aload_n Y 0 dX1_holds_9 rfl rfl ?_
      refine C_get 2 X uw_X1 (cO_sh G _ ho0) rfl (by decide) rfl wfl_RX1_19 rfl dX1_holds_10 ?_
      refine J_icmp_gt (tgt := 30) Y dX1_holds_13 (by decide) ?_ ?_
      · refine J_sub [] rfl ?_
        exact j_X1_holds_L30 X  σ
      · refine J_iload_n Y 1 dX1_holds_16 rfl rfl ?_
        refine J_aload_n Y 0 dX1_holds_17 rfl rfl ?_
        refine C_get 2 X uw_X1 (cO_sh G _ ho0) rfl (by decide) rfl wfl_RX1_19 rfl dX1_holds_18 ?_
        refine J_iload_n Y 2 dX1_holds_21 rfl rfl ?_
        refine J_isub Y dX1_holds_22 ?_
        refine J_icmp_gt (tgt := 30) Y dX1_holds_23 (by decide) ?_ ?_
        · refine J_sub [] rfl ?_
          exact j_X1_holds_L30 X  σ
        · refine J_iconst (v := (1 : Int32)) Y dX1_holds_26 (by decide) ?_
          refine J_goto (tgt := 31) Y dX1_holds_27 (by decide) ?_
          refine J_sub [] rfl ?_
          exact j_X1_holds_L31 X (1 : Int32) σ
theorem c_X1_holds (G : JG) (o0 : Nat) (v1 : Int32) (v2 : Int32) (ho0 : isSh o0) (σ : ST) : Con (VC G) vI G.1 yX1_holds cX1_holds 3 (some .boolean) 0 0 [.ref (gO G o0), .int v1, .int v2] σ (f_X1_holds (gT G) o0 v1 v2 σ) :=
  Con_of (VC_ok G) (by decide +kernel) (Nat.le_of_ble_eq_true rfl) (fun E e1 e2 _ X => j_X1_holds ⟨X, e1, e2⟩ o0 v1 v2 ho0 σ)
set_option maxRecDepth 100000 in
set_option maxHeartbeats 4000000 in
theorem j_X1_becomes_L21 {E : JE} {G : JG} (X : JC E 4 cX1_becomes RX1 none 1 40 G) : ∀ (n : Nat) (o0 : Nat) (v3 : Int32) (ho0 : isSh o0) (σ : ST), Jg E 4 (JF E vV) [(0, .ref (gO G o0)), (3, .int v3)] 21 [] σ (f_X1_becomes_L21 (gT G) n o0 v3 σ) := by
  have Y := X.1
  intro n
  induction n with
  | zero => intro o0 v3 ho0 σ; rw [f_X1_becomes_L21]; exact J_none
  | succ n ih =>
    intro o0 v3 ho0 σ
    rw [f_X1_becomes_L21]
    refine J_iload_n Y 1 dX1_becomes_21 rfl rfl ?_
    refine J_aload_n Y 0 dX1_becomes_22 rfl rfl ?_
    refine C_get 2 X uw_X1 (cO_sh G _ ho0) rfl (by decide) rfl wfl_RX1_19 rfl dX1_becomes_23 ?_
    refine J_icmp_ge (tgt := 42) Y dX1_becomes_26 (by decide) ?_ ?_
    · exact J_return Y dX1_becomes_42
    · refine J_aload_n Y 0 dX1_becomes_29 rfl rfl ?_
      refine C_get 0 X uw_X1 (cO_sh G _ ho0) rfl (by decide) rfl wfl_RX1_9 rfl dX1_becomes_30 ?_
      refine J_iload_n Y 1 dX1_becomes_33 rfl rfl ?_
      refine J_iconst (v := (0 : Int32)) Y dX1_becomes_34 (by decide) ?_
      refine C_ast X (cA_sh_0 G _ ho0) (cS_sh_0 G _ ho0) dX1_becomes_35 (fun t35 => ?_)
      refine J_iinc (v := v3 + (1 : Int32)) [(3, .int (v3 + (1 : Int32))), (0, .ref (gO G o0))] Y 1 dX1_becomes_36 rfl (congrArg (fun z => _ + z) (by decide)) (by decide) rfl ?_
      refine J_goto (tgt := 21) Y dX1_becomes_39 (by decide) ?_
      refine J_sub [1, 0] rfl ?_
      exact ih o0 (v3 + (1 : Int32)) ho0 t35
set_option maxRecDepth 100000 in
set_option maxHeartbeats 4000000 in
theorem j_X1_becomes {E : JE} {G : JG} (X : JC E 4 cX1_becomes RX1 none 1 40 G) (o0 : Nat) (v1 : Int32) (v2 : Int32) (ho0 : isSh o0) (σ : ST) : Jg E 4 (JF E vV) [(0, .ref (gO G o0)), (1, .int v1), (2, .int v2)] 0 [] σ (f_X1_becomes (gT G) o0 v1 v2 σ) := by
  have Y := X.1
  unfold f_X1_becomes
  refine J_aload_n Y 0 dX1_becomes_0 rfl rfl ?_
  refine J_iload_n Y 1 dX1_becomes_1 rfl rfl ?_
  refine C_put 1 o0 (ty := .int) X uw_X1 tyX1 tyX1_ok nmX1 (cO_sh G _ ho0) rfl (by decide) rfl wfl_RX1_15 rfl rfl (by decide +kernel) rfl (Nat.le_of_ble_eq_true rfl) (cF_sh_1 G _ _ ho0) dX1_becomes_2 (fun t2 => ?_)
  refine J_aload_n Y 0 dX1_becomes_5 rfl rfl ?_
  refine J_iconst (v := (0 : Int32)) Y dX1_becomes_6 (by decide) ?_
  refine J_iload_n Y 2 dX1_becomes_7 rfl rfl ?_
  refine J_bipush (v := (40 : Int32)) Y dX1_becomes_8 (by decide) ?_
  refine J_mmin (st := [.int (0 : Int32), .ref (gO G o0)]) Y wml_RX1_22 wst_Lib_Math_min wini_RJ9 wco_Lib_Math_min (Nat.le_of_ble_eq_true rfl) (Nat.le_of_ble_eq_true rfl) dX1_becomes_10 ?_
  refine J_mmax (st := [.ref (gO G o0)]) Y wml_RX1_28 wst_Lib_Math_max wini_RJ9 wco_Lib_Math_max (Nat.le_of_ble_eq_true rfl) (Nat.le_of_ble_eq_true rfl) dX1_becomes_13 ?_
  refine C_put 2 o0 (ty := .int) X uw_X1 tyX1 tyX1_ok nmX1 (cO_sh G _ ho0) rfl (by decide) rfl wfl_RX1_19 rfl rfl (by decide +kernel) rfl (Nat.le_of_ble_eq_true rfl) (cF_sh_2 G _ _ ho0) dX1_becomes_16 (fun t16 => ?_)
  refine J_iconst (v := (0 : Int32)) Y dX1_becomes_19 (by decide) ?_
  refine J_istore_n [(3, .int (0 : Int32)), (0, .ref (gO G o0)), (1, .int v1), (2, .int v2)] Y dX1_becomes_20 rfl (by decide) rfl ?_
  refine J_sub [1, 0] rfl ?_
  exact j_X1_becomes_L21 X 1000 o0 (0 : Int32) ho0 t16
theorem c_X1_becomes (G : JG) (o0 : Nat) (v1 : Int32) (v2 : Int32) (ho0 : isSh o0) (σ : ST) : Con (VC G) vV G.1 yX1_becomes cX1_becomes 4 none 1 40 [.ref (gO G o0), .int v1, .int v2] σ (f_X1_becomes (gT G) o0 v1 v2 σ) :=
  Con_of (VC_ok G) (by decide +kernel) (Nat.le_of_ble_eq_true rfl) (fun E e1 e2 _ X => j_X1_becomes ⟨X, e1, e2⟩ o0 v1 v2 ho0 σ)
set_option maxRecDepth 100000 in
set_option maxHeartbeats 4000000 in
theorem j_X1_write_L40 {E : JE} {G : JG} (X : JC E 3 cX1_write RX1 none 1 40 G) (σ : ST) : Jg E 3 (JF E vV) [] 40 [] σ (f_X1_write_L40 (gT G) σ) := by
  have Y := X.1
  unfold f_X1_write_L40
  exact J_return Y dX1_write_40
set_option maxRecDepth 100000 in
set_option maxHeartbeats 4000000 in
theorem j_X1_write_L39 {E : JE} {G : JG} (X : JC E 3 cX1_write RX1 none 1 40 G) (o0 : Nat) (s0 : Int32) (s1 : Int32) (ho0 : isSh o0) (σ : ST) : Jg E 3 (JF E vV) [(0, .ref (gO G o0))] 39 [.int s0, .int s1, .ref (gA G o0 0)] σ (f_X1_write_L39 (gT G) o0 s0 s1 σ) := by
  have Y := X.1
  unfold f_X1_write_L39
  refine C_ast X (cA_sh_0 G _ ho0) (cS_sh_0 G _ ho0) dX1_write_39 (fun t39 => ?_)
  refine J_sub [] rfl ?_
  exact j_X1_write_L40 X  t39
set_option maxRecDepth 100000 in
set_option maxHeartbeats 4000000 in
theorem j_X1_write {E : JE} {G : JG} (X : JC E 3 cX1_write RX1 none 1 40 G) (o0 : Nat) (v1 : Int32) (v2 : Int32) (ho0 : isSh o0) (σ : ST) : Jg E 3 (JF E vV) [(0, .ref (gO G o0)), (1, .int v1), (2, .int v2)] 0 [] σ (f_X1_write (gT G) o0 v1 v2 σ) := by
  have Y := X.1
  unfold f_X1_write
  refine J_aload_n Y 0 dX1_write_0 rfl rfl ?_
  refine J_iload_n Y 1 dX1_write_1 rfl rfl ?_
  refine C_cVi (As := [.int v1]) (st := []) rfl X (c_X1_has G o0 v1 ho0 _) (cO_sh G _ ho0) rfl rfl wi_X1_has win_X1_has wse_X1_has wml_RX1_31 ⟨Nat.le_of_ble_eq_true rfl, Nat.le_of_ble_eq_true rfl⟩ rfl (Nat.le_of_ble_eq_true rfl) dX1_write_2 (fun y2 t2 => ?_)
  refine J_if_eq (tgt := 40) Y dX1_write_5 (by decide) ?_ ?_
  · refine J_sub [] rfl ?_
    exact j_X1_write_L40 X  t2
  · refine J_aload_n Y 0 dX1_write_8 rfl rfl ?_
    refine C_get 0 X uw_X1 (cO_sh G _ ho0) rfl (by decide) rfl wfl_RX1_9 rfl dX1_write_9 ?_
    refine J_iload_n Y 1 dX1_write_12 rfl rfl ?_
    refine J_aload_n Y 0 dX1_write_13 rfl rfl ?_
    refine C_get 1 X uw_X1 (cO_sh G _ ho0) rfl (by decide) rfl wfl_RX1_15 rfl dX1_write_14 ?_
    refine J_if_ne (tgt := 25) Y dX1_write_17 (by decide) ?_ ?_
    · refine J_aload_n Y 0 dX1_write_25 rfl rfl ?_
      refine C_get 1 X uw_X1 (cO_sh G _ ho0) rfl (by decide) rfl wfl_RX1_15 rfl dX1_write_26 ?_
      refine J_iconst (v := (1 : Int32)) Y dX1_write_29 (by decide) ?_
      refine J_icmp_ne (tgt := 38) Y dX1_write_30 (by decide) ?_ ?_
      · refine J_iload_n Y 2 dX1_write_38 rfl rfl ?_
        refine J_sub [0] rfl ?_
        exact j_X1_write_L39 X o0 v2 v1 ho0 t2
      · refine J_iload_n Y 2 dX1_write_33 rfl rfl ?_
        refine J_i2s Y dX1_write_34 ?_
        refine J_goto (tgt := 39) Y dX1_write_35 (by decide) ?_
        refine J_sub [0] rfl ?_
        exact j_X1_write_L39 X o0 (v2.toInt16.toInt32) v1 ho0 t2
    · refine J_iload_n Y 2 dX1_write_20 rfl rfl ?_
      refine J_i2b Y dX1_write_21 ?_
      refine J_goto (tgt := 39) Y dX1_write_22 (by decide) ?_
      refine J_sub [0] rfl ?_
      exact j_X1_write_L39 X o0 (v2.toInt8.toInt32) v1 ho0 t2
theorem c_X1_write (G : JG) (o0 : Nat) (v1 : Int32) (v2 : Int32) (ho0 : isSh o0) (σ : ST) : Con (VC G) vV G.1 yX1_write cX1_write 3 none 1 40 [.ref (gO G o0), .int v1, .int v2] σ (f_X1_write (gT G) o0 v1 v2 σ) :=
  Con_of (VC_ok G) (by decide +kernel) (Nat.le_of_ble_eq_true rfl) (fun E e1 e2 _ X => j_X1_write ⟨X, e1, e2⟩ o0 v1 v2 ho0 σ)
set_option maxRecDepth 100000 in
set_option maxHeartbeats 4000000 in
theorem j_X4_count {E : JE} {G : JG} (X : JC E 2 cX4_count RX4 (some .int) 2 80 G) (v1 : Int32) (σ : ST) : Jg E 2 (JF E vI) [(0, .ref (gO G 0)), (1, .int v1)] 0 [] σ (f_X4_count (gT G) v1 σ) := by
  have Y := X.1
  unfold f_X4_count
  refine J_iload_n Y 1 dX4_count_0 rfl rfl ?_
  refine J_ite (fun c1_0 => ?_) (fun c1_0 => ?_)
  · refine J_tin (tgt := 40) (0 : Int32) c1_0 Y dX4_count_1 (by decide) (by decide) rfl (by decide) ?_
    refine J_aload_n Y 0 dX4_count_40 rfl rfl ?_
    refine C_get 3 X uw_X4 (cO_0 G _) rfl (by decide) rfl wfl_RX4_58 rfl dX4_count_41 ?_
    refine C_get 9 X uw_X0 (cO_co G _ (Or.inl rfl)) rfl (by decide) rfl wfl_RX4_79 rfl dX4_count_44 ?_
    exact J_ireturn Y dX4_count_47
  refine J_ite (fun c1_1 => ?_) (fun c1_1 => ?_)
  · refine J_tin (tgt := 48) (1 : Int32) c1_1 Y dX4_count_1 (by decide) (by decide) rfl (by decide) ?_
    refine J_aload_n Y 0 dX4_count_48 rfl rfl ?_
    refine C_get 3 X uw_X4 (cO_0 G _) rfl (by decide) rfl wfl_RX4_58 rfl dX4_count_49 ?_
    refine C_get 10 X uw_X0 (cO_co G _ (Or.inl rfl)) rfl (by decide) rfl wfl_RX4_80 rfl dX4_count_52 ?_
    exact J_ireturn Y dX4_count_55
  refine J_ite (fun c1_2 => ?_) (fun c1_2 => ?_)
  · refine J_tin (tgt := 56) (2 : Int32) c1_2 Y dX4_count_1 (by decide) (by decide) rfl (by decide) ?_
    refine J_aload_n Y 0 dX4_count_56 rfl rfl ?_
    refine C_get 3 X uw_X4 (cO_0 G _) rfl (by decide) rfl wfl_RX4_58 rfl dX4_count_57 ?_
    refine C_cVi (As := []) (st := []) rfl X (c_X0_howManyHere G 2 (Or.inl rfl) _) (cO_co G _ (Or.inl rfl)) rfl rfl wi_X0_howManyHere win_X0_howManyHere wse_X0_howManyHere wml_RX4_83 ⟨Nat.le_of_ble_eq_true rfl, Nat.le_of_ble_eq_true rfl⟩ rfl (Nat.le_of_ble_eq_true rfl) dX4_count_60 (fun y60 t60 => ?_)
    exact J_ireturn Y dX4_count_63
  refine J_ite (fun c1_3 => ?_) (fun c1_3 => ?_)
  · refine J_tin (tgt := 64) (3 : Int32) c1_3 Y dX4_count_1 (by decide) (by decide) rfl (by decide) ?_
    refine J_aload_n Y 0 dX4_count_64 rfl rfl ?_
    refine C_get 1 X uw_X4 (cO_0 G _) rfl (by decide) rfl wfl_RX4_50 rfl dX4_count_65 ?_
    exact J_ireturn Y dX4_count_68
  refine J_ite (fun c1_4 => ?_) (fun c1_4 => ?_)
  · refine J_tin (tgt := 69) (4 : Int32) c1_4 Y dX4_count_1 (by decide) (by decide) rfl (by decide) ?_
    refine J_aload_n Y 0 dX4_count_69 rfl rfl ?_
    refine C_get 3 X uw_X4 (cO_0 G _) rfl (by decide) rfl wfl_RX4_58 rfl dX4_count_70 ?_
    refine C_get 11 X uw_X0 (cO_co G _ (Or.inl rfl)) rfl (by decide) rfl wfl_RX4_86 rfl dX4_count_73 ?_
    exact J_ireturn Y dX4_count_76
  refine J_ite (fun c1_5 => ?_) (fun c1_5 => ?_)
  · refine J_tin (tgt := 77) (5 : Int32) c1_5 Y dX4_count_1 (by decide) (by decide) rfl (by decide) ?_
    refine J_aload_n Y 0 dX4_count_77 rfl rfl ?_
    refine C_get 2 X uw_X4 (cO_0 G _) rfl (by decide) rfl wfl_RX4_14 rfl dX4_count_78 ?_
    refine C_get 1 X uw_X2 (cO_1 G _) rfl (by decide) rfl wfl_RX4_42 rfl dX4_count_81 ?_
    exact J_ireturn Y dX4_count_84
  have e1_0 := lv_neT c1_0 (show ((0 : Int32)).toInt = (0 : Int) by decide)
  have e1_1 := lv_neT c1_1 (show ((1 : Int32)).toInt = (1 : Int) by decide)
  have e1_2 := lv_neT c1_2 (show ((2 : Int32)).toInt = (2 : Int) by decide)
  have e1_3 := lv_neT c1_3 (show ((3 : Int32)).toInt = (3 : Int) by decide)
  have e1_4 := lv_neT c1_4 (show ((4 : Int32)).toInt = (4 : Int) by decide)
  have e1_5 := lv_neT c1_5 (show ((5 : Int32)).toInt = (5 : Int) by decide)
  refine J_tout (tgt := 85) Y dX4_count_1 (by omega) (by decide) ?_
  refine J_bipush (v := (-2 : Int32)) Y dX4_count_85 (by decide) ?_
  exact J_ireturn Y dX4_count_87
theorem c_X4_count (G : JG) (v1 : Int32) (σ : ST) : Con (VC G) vI G.1 yX4_count cX4_count 2 (some .int) 2 80 [.ref (gO G 0), .int v1] σ (f_X4_count (gT G) v1 σ) :=
  Con_of (VC_ok G) (by decide +kernel) (Nat.le_of_ble_eq_true rfl) (fun E e1 e2 _ X => j_X4_count ⟨X, e1, e2⟩ v1 σ)
set_option maxRecDepth 100000 in
set_option maxHeartbeats 4000000 in
theorem j_X4_clock {E : JE} {G : JG} (X : JC E 3 cX4_clock RX4 (some .int) 1 40 G) (v1 : Int32) (σ : ST) : Jg E 3 (JF E vI) [(0, .ref (gO G 0)), (1, .int v1)] 0 [] σ (f_X4_clock (gT G) v1 σ) := by
  have Y := X.1
  unfold f_X4_clock
  refine J_iload_n Y 1 dX4_clock_0 rfl rfl ?_
  refine J_iconst (v := (0 : Int32)) Y dX4_clock_1 (by decide) ?_
  refine J_sipush (v := (999 : Int32)) Y dX4_clock_2 (by decide) ?_
  refine C_cSi (As := [.int v1, .int (0 : Int32), .int (999 : Int32)]) (st := []) rfl X (c_X4_within G v1 (0 : Int32) (999 : Int32) _) wi_X4_within wst_X4_within wml_RX4_89 ⟨Nat.le_of_ble_eq_true rfl, Nat.le_of_ble_eq_true rfl⟩ rfl (Nat.le_of_ble_eq_true rfl) dX4_clock_5 (fun y5 t5 => ?_)
  refine J_if_ne (tgt := 14) Y dX4_clock_8 (by decide) ?_ ?_
  · refine J_aload_n Y 0 dX4_clock_14 rfl rfl ?_
    refine C_get 3 X uw_X4 (cO_0 G _) rfl (by decide) rfl wfl_RX4_58 rfl dX4_clock_15 ?_
    refine C_get 10 X uw_X0 (cO_co G _ (Or.inl rfl)) rfl (by decide) rfl wfl_RX4_80 rfl dX4_clock_18 ?_
    refine J_istore_n [(2, .int (gs 2 10 t5)), (0, .ref (gO G 0)), (1, .int v1)] Y dX4_clock_21 rfl (by decide) rfl ?_
    refine J_aload_n Y 1 dX4_clock_22 rfl rfl ?_
    refine C_get 3 X uw_X4 (cO_0 G _) rfl (by decide) rfl wfl_RX4_58 rfl dX4_clock_23 ?_
    refine J_iload_n Y 2 dX4_clock_26 rfl rfl ?_
    refine C_put 10 2 (ty := .int) X uw_X0 tyX0 tyX0_ok nmX0 (cO_co G _ (Or.inl rfl)) rfl (by decide) rfl wfl_RX4_80 rfl rfl (by decide +kernel) rfl (Nat.le_of_ble_eq_true rfl) (cF_co_10 G _ _ (Or.inl rfl)) dX4_clock_27 (fun t27 => ?_)
    refine J_iload_n Y 0 dX4_clock_30 rfl rfl ?_
    exact J_ireturn Y dX4_clock_31
  · refine J_bipush (v := (-2 : Int32)) Y dX4_clock_11 (by decide) ?_
    exact J_ireturn Y dX4_clock_13
theorem c_X4_clock (G : JG) (v1 : Int32) (σ : ST) : Con (VC G) vI G.1 yX4_clock cX4_clock 3 (some .int) 1 40 [.ref (gO G 0), .int v1] σ (f_X4_clock (gT G) v1 σ) :=
  Con_of (VC_ok G) (by decide +kernel) (Nat.le_of_ble_eq_true rfl) (fun E e1 e2 _ X => j_X4_clock ⟨X, e1, e2⟩ v1 σ)
set_option maxRecDepth 100000 in
set_option maxHeartbeats 4000000 in
theorem j_X4_isByte {E : JE} {G : JG} (X : JC E 1 cX4_isByte RX4 (some .boolean) 1 40 G) (v0 : Int32) (σ : ST) : Jg E 1 (JF E vI) [(0, .int v0)] 0 [] σ (f_X4_isByte (gT G) v0 σ) := by
  have Y := X.1
  unfold f_X4_isByte
  refine J_iload_n Y 0 dX4_isByte_0 rfl rfl ?_
  refine J_iconst (v := (0 : Int32)) Y dX4_isByte_1 (by decide) ?_
  refine J_sipush (v := (255 : Int32)) Y dX4_isByte_2 (by decide) ?_
  refine C_cSi (As := [.int v0, .int (0 : Int32), .int (255 : Int32)]) (st := []) rfl X (c_X4_within G v0 (0 : Int32) (255 : Int32) _) wi_X4_within wst_X4_within wml_RX4_89 ⟨Nat.le_of_ble_eq_true rfl, Nat.le_of_ble_eq_true rfl⟩ rfl (Nat.le_of_ble_eq_true rfl) dX4_isByte_5 (fun y5 t5 => ?_)
  exact J_zreturn Y dX4_isByte_8
theorem c_X4_isByte (G : JG) (v0 : Int32) (σ : ST) : Con (VC G) vI G.1 yX4_isByte cX4_isByte 1 (some .boolean) 1 40 [.int v0] σ (f_X4_isByte (gT G) v0 σ) :=
  Con_of (VC_ok G) (by decide +kernel) (Nat.le_of_ble_eq_true rfl) (fun E e1 e2 _ X => j_X4_isByte ⟨X, e1, e2⟩ v0 σ)
set_option maxRecDepth 100000 in
set_option maxHeartbeats 4000000 in
theorem j_X4_feed_L47 {E : JE} {G : JG} (X : JC E 8 cX4_feed RX4 (some .int) 2 80 G) (σ : ST) : Jg E 8 (JF E vI) [] 47 [] σ (f_X4_feed_L47 (gT G) σ) := by
  have Y := X.1
  unfold f_X4_feed_L47
  refine J_bipush (v := (-2 : Int32)) Y dX4_feed_47 (by decide) ?_
  exact J_ireturn Y dX4_feed_49
set_option maxRecDepth 100000 in
set_option maxHeartbeats 4000000 in
theorem j_X4_feed_L124 {E : JE} {G : JG} (X : JC E 8 cX4_feed RX4 (some .int) 2 80 G) {k71 : Int32 → Int32 → Int32 → Int32 → Int32 → Int32 → Int32 → ST → Option (Int32 × ST)} (hk71 : ∀ (v1 : Int32) (v2 : Int32) (v3 : Int32) (v4 : Int32) (v5 : Int32) (v6 : Int32) (v7 : Int32) (σ : ST), Jg E 8 (JF E vI) [(0, .ref (gO G 0)), (1, .int v1), (2, .int v2), (3, .int v3), (4, .int v4), (5, .int v5), (6, .int v6), (7, .int v7)] 71 [] σ (k71 v1 v2 v3 v4 v5 v6 v7 σ)) (v1 : Int32) (v2 : Int32) (v3 : Int32) (v4 : Int32) (v5 : Int32) (v6 : Int32) (v7 : Int32) (s0 : Int32) (σ : ST) : Jg E 8 (JF E vI) [(0, .ref (gO G 0)), (1, .int v1), (2, .int v2), (3, .int v3), (4, .int v4), (5, .int v5), (6, .int v6), (7, .int v7)] 124 [.int s0, .ref (gO G 1)] σ (f_X4_feed_L124 (gT G) k71 v1 v2 v3 v4 v5 v6 v7 s0 σ) := by
  have Y := X.1
  unfold f_X4_feed_L124
  refine C_cVv (As := [.int s0]) (st := []) rfl X (c_X2_add G (TP_VC G) s0 _) (cO_1 G _) rfl rfl wi_X2_add win_X2_add wse_X2_add wml_RX4_30 ⟨Nat.le_of_ble_eq_true rfl, Nat.le_of_ble_eq_true rfl⟩ rfl (Nat.le_of_ble_eq_true rfl) dX4_feed_124 (fun t124 => ?_)
  refine J_iinc (v := v7 + (1 : Int32)) [(7, .int (v7 + (1 : Int32))), (0, .ref (gO G 0)), (1, .int v1), (2, .int v2), (3, .int v3), (4, .int v4), (5, .int v5), (6, .int v6)] Y 7 dX4_feed_127 rfl (congrArg (fun z => _ + z) (by decide)) (by decide) rfl ?_
  refine J_goto (tgt := 71) Y dX4_feed_130 (by decide) ?_
  refine J_sub [1, 2, 3, 4, 5, 6, 7, 0] rfl ?_
  exact hk71 v1 v2 v3 v4 v5 v6 (v7 + (1 : Int32)) t124
set_option maxRecDepth 100000 in
set_option maxHeartbeats 4000000 in
theorem j_X4_feed_L133 {E : JE} {G : JG} (X : JC E 8 cX4_feed RX4 (some .int) 2 80 G) (σ : ST) : Jg E 8 (JF E vI) [(0, .ref (gO G 0))] 133 [] σ (f_X4_feed_L133 (gT G) σ) := by
  have Y := X.1
  unfold f_X4_feed_L133
  refine J_aload_n Y 0 dX4_feed_133 rfl rfl ?_
  refine C_get 2 X uw_X4 (cO_0 G _) rfl (by decide) rfl wfl_RX4_14 rfl dX4_feed_134 ?_
  refine C_get 1 X uw_X2 (cO_1 G _) rfl (by decide) rfl wfl_RX4_42 rfl dX4_feed_137 ?_
  exact J_ireturn Y dX4_feed_140
set_option maxRecDepth 100000 in
set_option maxHeartbeats 4000000 in
theorem j_X4_feed_L71 {E : JE} {G : JG} (X : JC E 8 cX4_feed RX4 (some .int) 2 80 G) : ∀ (n : Nat) (v1 : Int32) (v2 : Int32) (v3 : Int32) (v4 : Int32) (v5 : Int32) (v6 : Int32) (v7 : Int32) (σ : ST), Jg E 8 (JF E vI) [(0, .ref (gO G 0)), (1, .int v1), (2, .int v2), (3, .int v3), (4, .int v4), (5, .int v5), (6, .int v6), (7, .int v7)] 71 [] σ (f_X4_feed_L71 (gT G) n v1 v2 v3 v4 v5 v6 v7 σ) := by
  have Y := X.1
  intro n
  induction n with
  | zero => intro v1 v2 v3 v4 v5 v6 v7 σ; rw [f_X4_feed_L71]; exact J_none
  | succ n ih =>
    intro v1 v2 v3 v4 v5 v6 v7 σ
    rw [f_X4_feed_L71]
    refine J_iload Y 7 dX4_feed_71 rfl ?_
    refine J_iload_n Y 1 dX4_feed_73 rfl rfl ?_
    refine J_icmp_ge (tgt := 133) Y dX4_feed_74 (by decide) ?_ ?_
    · refine J_sub [0] rfl ?_
      exact j_X4_feed_L133 X  σ
    · refine J_aload_n Y 0 dX4_feed_77 rfl rfl ?_
      refine C_get 2 X uw_X4 (cO_0 G _) rfl (by decide) rfl wfl_RX4_14 rfl dX4_feed_78 ?_
      refine J_iload Y 7 dX4_feed_81 rfl ?_
      refine J_if_ne (tgt := 90) Y dX4_feed_83 (by decide) ?_ ?_
      · refine J_iload Y 7 dX4_feed_90 rfl ?_
        refine J_iconst (v := (1 : Int32)) Y dX4_feed_92 (by decide) ?_
        refine J_icmp_ne (tgt := 100) Y dX4_feed_93 (by decide) ?_ ?_
        · refine J_iload Y 7 dX4_feed_100 rfl ?_
          refine J_iconst (v := (2 : Int32)) Y dX4_feed_102 (by decide) ?_
          refine J_icmp_ne (tgt := 111) Y dX4_feed_103 (by decide) ?_ ?_
          · refine J_iload Y 7 dX4_feed_111 rfl ?_
            refine J_iconst (v := (3 : Int32)) Y dX4_feed_113 (by decide) ?_
            refine J_icmp_ne (tgt := 122) Y dX4_feed_114 (by decide) ?_ ?_
            · refine J_iload Y 6 dX4_feed_122 rfl ?_
              exact j_X4_feed_L124 X (fun v1 v2 v3 v4 v5 v6 v7 σ => ih v1 v2 v3 v4 v5 v6 v7 σ) v1 v2 v3 v4 v5 v6 v7 v6 σ
            · refine J_iload Y 5 dX4_feed_117 rfl ?_
              refine J_goto (tgt := 124) Y dX4_feed_119 (by decide) ?_
              exact j_X4_feed_L124 X (fun v1 v2 v3 v4 v5 v6 v7 σ => ih v1 v2 v3 v4 v5 v6 v7 σ) v1 v2 v3 v4 v5 v6 v7 v5 σ
          · refine J_iload Y 4 dX4_feed_106 rfl ?_
            refine J_goto (tgt := 124) Y dX4_feed_108 (by decide) ?_
            exact j_X4_feed_L124 X (fun v1 v2 v3 v4 v5 v6 v7 σ => ih v1 v2 v3 v4 v5 v6 v7 σ) v1 v2 v3 v4 v5 v6 v7 v4 σ
        · refine J_iload_n Y 3 dX4_feed_96 rfl rfl ?_
          refine J_goto (tgt := 124) Y dX4_feed_97 (by decide) ?_
          exact j_X4_feed_L124 X (fun v1 v2 v3 v4 v5 v6 v7 σ => ih v1 v2 v3 v4 v5 v6 v7 σ) v1 v2 v3 v4 v5 v6 v7 v3 σ
      · refine J_iload_n Y 2 dX4_feed_86 rfl rfl ?_
        refine J_goto (tgt := 124) Y dX4_feed_87 (by decide) ?_
        exact j_X4_feed_L124 X (fun v1 v2 v3 v4 v5 v6 v7 σ => ih v1 v2 v3 v4 v5 v6 v7 σ) v1 v2 v3 v4 v5 v6 v7 v2 σ
set_option maxRecDepth 100000 in
set_option maxHeartbeats 4000000 in
theorem j_X4_feed {E : JE} {G : JG} (X : JC E 8 cX4_feed RX4 (some .int) 2 80 G) (v1 : Int32) (v2 : Int32) (v3 : Int32) (v4 : Int32) (v5 : Int32) (v6 : Int32) (σ : ST) : Jg E 8 (JF E vI) [(0, .ref (gO G 0)), (1, .int v1), (2, .int v2), (3, .int v3), (4, .int v4), (5, .int v5), (6, .int v6)] 0 [] σ (f_X4_feed (gT G) v1 v2 v3 v4 v5 v6 σ) := by
  have Y := X.1
  unfold f_X4_feed
  refine J_iload_n Y 1 dX4_feed_0 rfl rfl ?_
  refine J_iconst (v := (1 : Int32)) Y dX4_feed_1 (by decide) ?_
  refine J_iconst (v := (5 : Int32)) Y dX4_feed_2 (by decide) ?_
  refine C_cSi (As := [.int v1, .int (1 : Int32), .int (5 : Int32)]) (st := []) rfl X (c_X4_within G v1 (1 : Int32) (5 : Int32) _) wi_X4_within wst_X4_within wml_RX4_89 ⟨Nat.le_of_ble_eq_true rfl, Nat.le_of_ble_eq_true rfl⟩ rfl (Nat.le_of_ble_eq_true rfl) dX4_feed_3 (fun y3 t3 => ?_)
  refine J_if_eq (tgt := 47) Y dX4_feed_6 (by decide) ?_ ?_
  · refine J_sub [] rfl ?_
    exact j_X4_feed_L47 X  t3
  · refine J_iload_n Y 2 dX4_feed_9 rfl rfl ?_
    refine C_cSi (As := [.int v2]) (st := []) rfl X (c_X4_isByte G v2 _) wi_X4_isByte wst_X4_isByte wml_RX4_93 ⟨Nat.le_of_ble_eq_true rfl, Nat.le_of_ble_eq_true rfl⟩ rfl (Nat.le_of_ble_eq_true rfl) dX4_feed_10 (fun y10 t10 => ?_)
    refine J_if_eq (tgt := 47) Y dX4_feed_13 (by decide) ?_ ?_
    · refine J_sub [] rfl ?_
      exact j_X4_feed_L47 X  t10
    · refine J_iload_n Y 3 dX4_feed_16 rfl rfl ?_
      refine C_cSi (As := [.int v3]) (st := []) rfl X (c_X4_isByte G v3 _) wi_X4_isByte wst_X4_isByte wml_RX4_93 ⟨Nat.le_of_ble_eq_true rfl, Nat.le_of_ble_eq_true rfl⟩ rfl (Nat.le_of_ble_eq_true rfl) dX4_feed_17 (fun y17 t17 => ?_)
      refine J_if_eq (tgt := 47) Y dX4_feed_20 (by decide) ?_ ?_
      · refine J_sub [] rfl ?_
        exact j_X4_feed_L47 X  t17
      · refine J_iload Y 4 dX4_feed_23 rfl ?_
        refine C_cSi (As := [.int v4]) (st := []) rfl X (c_X4_isByte G v4 _) wi_X4_isByte wst_X4_isByte wml_RX4_93 ⟨Nat.le_of_ble_eq_true rfl, Nat.le_of_ble_eq_true rfl⟩ rfl (Nat.le_of_ble_eq_true rfl) dX4_feed_25 (fun y25 t25 => ?_)
        refine J_if_eq (tgt := 47) Y dX4_feed_28 (by decide) ?_ ?_
        · refine J_sub [] rfl ?_
          exact j_X4_feed_L47 X  t25
        · refine J_iload Y 5 dX4_feed_31 rfl ?_
          refine C_cSi (As := [.int v5]) (st := []) rfl X (c_X4_isByte G v5 _) wi_X4_isByte wst_X4_isByte wml_RX4_93 ⟨Nat.le_of_ble_eq_true rfl, Nat.le_of_ble_eq_true rfl⟩ rfl (Nat.le_of_ble_eq_true rfl) dX4_feed_33 (fun y33 t33 => ?_)
          refine J_if_eq (tgt := 47) Y dX4_feed_36 (by decide) ?_ ?_
          · refine J_sub [] rfl ?_
            exact j_X4_feed_L47 X  t33
          · refine J_iload Y 6 dX4_feed_39 rfl ?_
            refine C_cSi (As := [.int v6]) (st := []) rfl X (c_X4_isByte G v6 _) wi_X4_isByte wst_X4_isByte wml_RX4_93 ⟨Nat.le_of_ble_eq_true rfl, Nat.le_of_ble_eq_true rfl⟩ rfl (Nat.le_of_ble_eq_true rfl) dX4_feed_41 (fun y41 t41 => ?_)
            refine J_if_ne (tgt := 50) Y dX4_feed_44 (by decide) ?_ ?_
            · refine J_aload_n Y 0 dX4_feed_50 rfl rfl ?_
              refine C_get 2 X uw_X4 (cO_0 G _) rfl (by decide) rfl wfl_RX4_14 rfl dX4_feed_51 ?_
              refine C_get 1 X uw_X2 (cO_1 G _) rfl (by decide) rfl wfl_RX4_42 rfl dX4_feed_54 ?_
              refine J_iload_n Y 1 dX4_feed_57 rfl rfl ?_
              refine J_iadd Y dX4_feed_58 ?_
              refine J_sipush (v := (160 : Int32)) Y dX4_feed_59 (by decide) ?_
              refine J_icmp_le (tgt := 68) Y dX4_feed_62 (by decide) ?_ ?_
              · refine J_iconst (v := (0 : Int32)) Y dX4_feed_68 (by decide) ?_
                refine J_istore [(7, .int (0 : Int32)), (0, .ref (gO G 0)), (1, .int v1), (2, .int v2), (3, .int v3), (4, .int v4), (5, .int v5), (6, .int v6)] Y dX4_feed_69 (by decide) rfl ?_
                refine J_sub [1, 2, 3, 4, 5, 6, 7, 0] rfl ?_
                exact j_X4_feed_L71 X 1000 v1 v2 v3 v4 v5 v6 (0 : Int32) t41
              · refine J_bipush (v := (-4 : Int32)) Y dX4_feed_65 (by decide) ?_
                exact J_ireturn Y dX4_feed_67
            · refine J_sub [] rfl ?_
              exact j_X4_feed_L47 X  t41
theorem c_X4_feed (G : JG) (v1 : Int32) (v2 : Int32) (v3 : Int32) (v4 : Int32) (v5 : Int32) (v6 : Int32) (σ : ST) : Con (VC G) vI G.1 yX4_feed cX4_feed 8 (some .int) 2 80 [.ref (gO G 0), .int v1, .int v2, .int v3, .int v4, .int v5, .int v6] σ (f_X4_feed (gT G) v1 v2 v3 v4 v5 v6 σ) :=
  Con_of (VC_ok G) (by decide +kernel) (Nat.le_of_ble_eq_true rfl) (fun E e1 e2 _ X => j_X4_feed ⟨X, e1, e2⟩ v1 v2 v3 v4 v5 v6 σ)
set_option maxRecDepth 100000 in
set_option maxHeartbeats 4000000 in
theorem j_X4_force {E : JE} {G : JG} (X : JC E 3 cX4_force RX4 (some .int) 1 40 G) (v1 : Int32) (σ : ST) : Jg E 3 (JF E vI) [(0, .ref (gO G 0)), (1, .int v1)] 0 [] σ (f_X4_force (gT G) v1 σ) := by
  have Y := X.1
  unfold f_X4_force
  refine J_iload_n Y 1 dX4_force_0 rfl rfl ?_
  refine J_iconst (v := (0 : Int32)) Y dX4_force_1 (by decide) ?_
  refine J_aload_n Y 0 dX4_force_2 rfl rfl ?_
  refine C_get 1 X uw_X4 (cO_0 G _) rfl (by decide) rfl wfl_RX4_50 rfl dX4_force_3 ?_
  refine J_iconst (v := (1 : Int32)) Y dX4_force_6 (by decide) ?_
  refine J_isub Y dX4_force_7 ?_
  refine C_cSi (As := [.int v1, .int (0 : Int32), .int ((gs 0 1 σ) - (1 : Int32))]) (st := []) rfl X (c_X4_within G v1 (0 : Int32) ((gs 0 1 σ) - (1 : Int32)) _) wi_X4_within wst_X4_within wml_RX4_89 ⟨Nat.le_of_ble_eq_true rfl, Nat.le_of_ble_eq_true rfl⟩ rfl (Nat.le_of_ble_eq_true rfl) dX4_force_8 (fun y8 t8 => ?_)
  refine J_if_ne (tgt := 17) Y dX4_force_11 (by decide) ?_ ?_
  · refine J_aload_n Y 0 dX4_force_17 rfl rfl ?_
    refine C_get 3 X uw_X4 (cO_0 G _) rfl (by decide) rfl wfl_RX4_58 rfl dX4_force_18 ?_
    refine C_get 11 X uw_X0 (cO_co G _ (Or.inl rfl)) rfl (by decide) rfl wfl_RX4_86 rfl dX4_force_21 ?_
    refine J_istore_n [(2, .int (gs 2 11 t8)), (0, .ref (gO G 0)), (1, .int v1)] Y dX4_force_24 rfl (by decide) rfl ?_
    refine J_aload_n Y 1 dX4_force_25 rfl rfl ?_
    refine C_get 3 X uw_X4 (cO_0 G _) rfl (by decide) rfl wfl_RX4_58 rfl dX4_force_26 ?_
    refine J_iload_n Y 2 dX4_force_29 rfl rfl ?_
    refine C_put 11 2 (ty := .int) X uw_X0 tyX0 tyX0_ok nmX0 (cO_co G _ (Or.inl rfl)) rfl (by decide) rfl wfl_RX4_86 rfl rfl (by decide +kernel) rfl (Nat.le_of_ble_eq_true rfl) (cF_co_11 G _ _ (Or.inl rfl)) dX4_force_30 (fun t30 => ?_)
    refine J_iload_n Y 0 dX4_force_33 rfl rfl ?_
    exact J_ireturn Y dX4_force_34
  · refine J_bipush (v := (-2 : Int32)) Y dX4_force_14 (by decide) ?_
    exact J_ireturn Y dX4_force_16
theorem c_X4_force (G : JG) (v1 : Int32) (σ : ST) : Con (VC G) vI G.1 yX4_force cX4_force 3 (some .int) 1 40 [.ref (gO G 0), .int v1] σ (f_X4_force (gT G) v1 σ) :=
  Con_of (VC_ok G) (by decide +kernel) (Nat.le_of_ble_eq_true rfl) (fun E e1 e2 _ X => j_X4_force ⟨X, e1, e2⟩ v1 σ)
set_option maxRecDepth 100000 in
set_option maxHeartbeats 4000000 in
theorem j_X4_asks_L27 {E : JE} {G : JG} (X : JC E 4 cX4_asks RX4 (some .int) 3 120 G) (σ : ST) : Jg E 4 (JF E vI) [] 27 [] σ (f_X4_asks_L27 (gT G) σ) := by
  have Y := X.1
  unfold f_X4_asks_L27
  refine J_sipush (v := (-1000 : Int32)) Y dX4_asks_27 (by decide) ?_
  exact J_ireturn Y dX4_asks_30
set_option maxRecDepth 100000 in
set_option maxHeartbeats 4000000 in
theorem j_X4_asks {E : JE} {G : JG} (X : JC E 4 cX4_asks RX4 (some .int) 3 120 G) (v1 : Int32) (v2 : Int32) (v3 : Int32) (σ : ST) : Jg E 4 (JF E vI) [(0, .ref (gO G 0)), (1, .int v1), (2, .int v2), (3, .int v3)] 0 [] σ (f_X4_asks (gT G) v1 v2 v3 σ) := by
  have Y := X.1
  unfold f_X4_asks
  refine J_iload_n Y 1 dX4_asks_0 rfl rfl ?_
  refine J_iconst (v := (0 : Int32)) Y dX4_asks_1 (by decide) ?_
  refine J_iconst (v := (2 : Int32)) Y dX4_asks_2 (by decide) ?_
  refine C_cSi (As := [.int v1, .int (0 : Int32), .int (2 : Int32)]) (st := []) rfl X (c_X4_within G v1 (0 : Int32) (2 : Int32) _) wi_X4_within wst_X4_within wml_RX4_89 ⟨Nat.le_of_ble_eq_true rfl, Nat.le_of_ble_eq_true rfl⟩ rfl (Nat.le_of_ble_eq_true rfl) dX4_asks_3 (fun y3 t3 => ?_)
  refine J_if_eq (tgt := 27) Y dX4_asks_6 (by decide) ?_ ?_
  · refine J_sub [] rfl ?_
    exact j_X4_asks_L27 X  t3
  · refine J_aload_n Y 0 dX4_asks_9 rfl rfl ?_
    refine C_get 3 X uw_X4 (cO_0 G _) rfl (by decide) rfl wfl_RX4_58 rfl dX4_asks_10 ?_
    refine J_iload_n Y 2 dX4_asks_13 rfl rfl ?_
    refine C_cVi (As := [.int v2]) (st := []) rfl X (c_X0_has G 2 v2 (Or.inl rfl) _) (cO_co G _ (Or.inl rfl)) rfl rfl wi_X0_has win_X0_has wse_X0_has wml_RX4_100 ⟨Nat.le_of_ble_eq_true rfl, Nat.le_of_ble_eq_true rfl⟩ rfl (Nat.le_of_ble_eq_true rfl) dX4_asks_14 (fun y14 t14 => ?_)
    refine J_if_eq (tgt := 27) Y dX4_asks_17 (by decide) ?_ ?_
    · refine J_sub [] rfl ?_
      exact j_X4_asks_L27 X  t14
    · refine J_iload_n Y 3 dX4_asks_20 rfl rfl ?_
      refine C_cSi (As := [.int v3]) (st := []) rfl X (c_X4_isSort G v3 _) wi_X4_isSort wst_X4_isSort wml_RX4_103 ⟨Nat.le_of_ble_eq_true rfl, Nat.le_of_ble_eq_true rfl⟩ rfl (Nat.le_of_ble_eq_true rfl) dX4_asks_21 (fun y21 t21 => ?_)
      refine J_if_ne (tgt := 31) Y dX4_asks_24 (by decide) ?_ ?_
      · refine J_aload_n Y 0 dX4_asks_31 rfl rfl ?_
        refine C_get 3 X uw_X4 (cO_0 G _) rfl (by decide) rfl wfl_RX4_58 rfl dX4_asks_32 ?_
        refine J_iload_n Y 1 dX4_asks_35 rfl rfl ?_
        refine J_iload_n Y 2 dX4_asks_36 rfl rfl ?_
        refine J_iload_n Y 3 dX4_asks_37 rfl rfl ?_
        refine C_cVi (As := [.int v1, .int v2, .int v3]) (st := []) rfl X (c_X0_lawSays G 2 v1 v2 v3 (Or.inl rfl) _) (cO_co G _ (Or.inl rfl)) rfl rfl wi_X0_lawSays win_X0_lawSays wse_X0_lawSays wml_RX4_106 ⟨Nat.le_of_ble_eq_true rfl, Nat.le_of_ble_eq_true rfl⟩ rfl (Nat.le_of_ble_eq_true rfl) dX4_asks_38 (fun y38 t38 => ?_)
        exact J_ireturn Y dX4_asks_41
      · refine J_sub [] rfl ?_
        exact j_X4_asks_L27 X  t21
theorem c_X4_asks (G : JG) (v1 : Int32) (v2 : Int32) (v3 : Int32) (σ : ST) : Con (VC G) vI G.1 yX4_asks cX4_asks 4 (some .int) 3 120 [.ref (gO G 0), .int v1, .int v2, .int v3] σ (f_X4_asks (gT G) v1 v2 v3 σ) :=
  Con_of (VC_ok G) (by decide +kernel) (Nat.le_of_ble_eq_true rfl) (fun E e1 e2 _ X => j_X4_asks ⟨X, e1, e2⟩ v1 v2 v3 σ)
set_option maxRecDepth 100000 in
set_option maxHeartbeats 4000000 in
theorem j_X4_gentleman_L20 {E : JE} {G : JG} (X : JC E 3 cX4_gentleman RX4 (some .int) 1 40 G) (σ : ST) : Jg E 3 (JF E vI) [] 20 [] σ (f_X4_gentleman_L20 (gT G) σ) := by
  have Y := X.1
  unfold f_X4_gentleman_L20
  refine J_bipush (v := (-2 : Int32)) Y dX4_gentleman_20 (by decide) ?_
  exact J_ireturn Y dX4_gentleman_22
set_option maxRecDepth 100000 in
set_option maxHeartbeats 4000000 in
theorem j_X4_gentleman {E : JE} {G : JG} (X : JC E 3 cX4_gentleman RX4 (some .int) 1 40 G) (v1 : Int32) (v2 : Int32) (σ : ST) : Jg E 3 (JF E vI) [(0, .ref (gO G 0)), (1, .int v1), (2, .int v2)] 0 [] σ (f_X4_gentleman (gT G) v1 v2 σ) := by
  have Y := X.1
  unfold f_X4_gentleman
  refine J_iload_n Y 1 dX4_gentleman_0 rfl rfl ?_
  refine J_iconst (v := (0 : Int32)) Y dX4_gentleman_1 (by decide) ?_
  refine J_bipush (v := (59 : Int32)) Y dX4_gentleman_2 (by decide) ?_
  refine C_cSi (As := [.int v1, .int (0 : Int32), .int (59 : Int32)]) (st := []) rfl X (c_X4_within G v1 (0 : Int32) (59 : Int32) _) wi_X4_within wst_X4_within wml_RX4_89 ⟨Nat.le_of_ble_eq_true rfl, Nat.le_of_ble_eq_true rfl⟩ rfl (Nat.le_of_ble_eq_true rfl) dX4_gentleman_4 (fun y4 t4 => ?_)
  refine J_if_eq (tgt := 20) Y dX4_gentleman_7 (by decide) ?_ ?_
  · refine J_sub [] rfl ?_
    exact j_X4_gentleman_L20 X  t4
  · refine J_iload_n Y 2 dX4_gentleman_10 rfl rfl ?_
    refine J_iconst (v := (0 : Int32)) Y dX4_gentleman_11 (by decide) ?_
    refine J_bipush (v := (9 : Int32)) Y dX4_gentleman_12 (by decide) ?_
    refine C_cSi (As := [.int v2, .int (0 : Int32), .int (9 : Int32)]) (st := []) rfl X (c_X4_within G v2 (0 : Int32) (9 : Int32) _) wi_X4_within wst_X4_within wml_RX4_89 ⟨Nat.le_of_ble_eq_true rfl, Nat.le_of_ble_eq_true rfl⟩ rfl (Nat.le_of_ble_eq_true rfl) dX4_gentleman_14 (fun y14 t14 => ?_)
    refine J_if_ne (tgt := 23) Y dX4_gentleman_17 (by decide) ?_ ?_
    · refine J_aload_n Y 0 dX4_gentleman_23 rfl rfl ?_
      refine C_get 3 X uw_X4 (cO_0 G _) rfl (by decide) rfl wfl_RX4_58 rfl dX4_gentleman_24 ?_
      refine C_get 9 X uw_X0 (cO_co G _ (Or.inl rfl)) rfl (by decide) rfl wfl_RX4_79 rfl dX4_gentleman_27 ?_
      refine J_bipush (v := (6 : Int32)) Y dX4_gentleman_30 (by decide) ?_
      refine J_icmp_lt (tgt := 38) Y dX4_gentleman_32 (by decide) ?_ ?_
      · refine J_aload_n Y 0 dX4_gentleman_38 rfl rfl ?_
        refine C_get 3 X uw_X4 (cO_0 G _) rfl (by decide) rfl wfl_RX4_58 rfl dX4_gentleman_39 ?_
        refine J_iload_n Y 1 dX4_gentleman_42 rfl rfl ?_
        refine J_bipush (v := (10 : Int32)) Y dX4_gentleman_43 (by decide) ?_
        refine J_idiv Y dX4_gentleman_45 (by decide) ?_
        refine J_iload_n Y 1 dX4_gentleman_46 rfl rfl ?_
        refine J_bipush (v := (10 : Int32)) Y dX4_gentleman_47 (by decide) ?_
        refine J_irem Y dX4_gentleman_49 (by decide) ?_
        refine J_iload_n Y 2 dX4_gentleman_50 rfl rfl ?_
        refine C_cVi (As := [.int (v1 / (10 : Int32)), .int (v1 - v1 / (10 : Int32) * (10 : Int32)), .int v2]) (st := []) rfl X (c_X0_admit G 2 (v1 / (10 : Int32)) (v1 - v1 / (10 : Int32) * (10 : Int32)) v2 (Or.inl rfl) _) (cO_co G _ (Or.inl rfl)) rfl rfl wi_X0_admit win_X0_admit wse_X0_admit wml_RX4_110 ⟨Nat.le_of_ble_eq_true rfl, Nat.le_of_ble_eq_true rfl⟩ rfl (Nat.le_of_ble_eq_true rfl) dX4_gentleman_51 (fun y51 t51 => ?_)
        exact J_ireturn Y dX4_gentleman_54
      · refine J_bipush (v := (-4 : Int32)) Y dX4_gentleman_35 (by decide) ?_
        exact J_ireturn Y dX4_gentleman_37
    · refine J_sub [] rfl ?_
      exact j_X4_gentleman_L20 X  t14
theorem c_X4_gentleman (G : JG) (v1 : Int32) (v2 : Int32) (σ : ST) : Con (VC G) vI G.1 yX4_gentleman cX4_gentleman 3 (some .int) 1 40 [.ref (gO G 0), .int v1, .int v2] σ (f_X4_gentleman (gT G) v1 v2 σ) :=
  Con_of (VC_ok G) (by decide +kernel) (Nat.le_of_ble_eq_true rfl) (fun E e1 e2 _ X => j_X4_gentleman ⟨X, e1, e2⟩ v1 v2 σ)
set_option maxRecDepth 100000 in
set_option maxHeartbeats 4000000 in
theorem j_X4_put_L45 {E : JE} {G : JG} (X : JC E 4 cX4_put RX4 (some .int) 1 40 G) (σ : ST) : Jg E 4 (JF E vI) [] 45 [] σ (f_X4_put_L45 (gT G) σ) := by
  have Y := X.1
  unfold f_X4_put_L45
  refine J_bipush (v := (-7 : Int32)) Y dX4_put_45 (by decide) ?_
  exact J_ireturn Y dX4_put_47
set_option maxRecDepth 100000 in
set_option maxHeartbeats 4000000 in
theorem j_X4_put_L39 {E : JE} {G : JG} (X : JC E 4 cX4_put RX4 (some .int) 1 40 G) (v1 : Int32) (v2 : Int32) (v3 : Int32) (s0 : Int32) (s1 : Int32) (s2 : Int32) (σ : ST) : Jg E 4 (JF E vI) [(0, .ref (gO G 0)), (1, .int v1), (2, .int v2), (3, .int v3)] 39 [.int s0, .int s1, .int s2] σ (f_X4_put_L39 (gT G) v1 v2 v3 s0 s1 s2 σ) := by
  have Y := X.1
  unfold f_X4_put_L39
  refine C_cSi (As := [.int s2, .int s1, .int s0]) (st := []) rfl X (c_X4_within G s2 s1 s0 _) wi_X4_within wst_X4_within wml_RX4_89 ⟨Nat.le_of_ble_eq_true rfl, Nat.le_of_ble_eq_true rfl⟩ rfl (Nat.le_of_ble_eq_true rfl) dX4_put_39 (fun y39 t39 => ?_)
  refine J_if_ne (tgt := 48) Y dX4_put_42 (by decide) ?_ ?_
  · refine J_aload_n Y 0 dX4_put_48 rfl rfl ?_
    refine C_get 3 X uw_X4 (cO_0 G _) rfl (by decide) rfl wfl_RX4_58 rfl dX4_put_49 ?_
    refine J_iload_n Y 1 dX4_put_52 rfl rfl ?_
    refine J_iload_n Y 2 dX4_put_53 rfl rfl ?_
    refine J_iload_n Y 3 dX4_put_54 rfl rfl ?_
    refine C_cVi (As := [.int v1, .int v2, .int v3]) (st := []) rfl X (c_X0_setState G 2 v1 v2 v3 (Or.inl rfl) _) (cO_co G _ (Or.inl rfl)) rfl rfl wi_X0_setState win_X0_setState wse_X0_setState wml_RX4_113 ⟨Nat.le_of_ble_eq_true rfl, Nat.le_of_ble_eq_true rfl⟩ rfl (Nat.le_of_ble_eq_true rfl) dX4_put_55 (fun y55 t55 => ?_)
    exact J_ireturn Y dX4_put_58
  · refine J_sub [] rfl ?_
    exact j_X4_put_L45 X  t39
set_option maxRecDepth 100000 in
set_option maxHeartbeats 4000000 in
theorem j_X4_put {E : JE} {G : JG} (X : JC E 4 cX4_put RX4 (some .int) 1 40 G) (v1 : Int32) (v2 : Int32) (v3 : Int32) (σ : ST) : Jg E 4 (JF E vI) [(0, .ref (gO G 0)), (1, .int v1), (2, .int v2), (3, .int v3)] 0 [] σ (f_X4_put (gT G) v1 v2 v3 σ) := by
  have Y := X.1
  unfold f_X4_put
  refine J_aload_n Y 0 dX4_put_0 rfl rfl ?_
  refine C_get 3 X uw_X4 (cO_0 G _) rfl (by decide) rfl wfl_RX4_58 rfl dX4_put_1 ?_
  refine J_iload_n Y 1 dX4_put_4 rfl rfl ?_
  refine C_cVi (As := [.int v1]) (st := []) rfl X (c_X0_has G 2 v1 (Or.inl rfl) _) (cO_co G _ (Or.inl rfl)) rfl rfl wi_X0_has win_X0_has wse_X0_has wml_RX4_100 ⟨Nat.le_of_ble_eq_true rfl, Nat.le_of_ble_eq_true rfl⟩ rfl (Nat.le_of_ble_eq_true rfl) dX4_put_5 (fun y5 t5 => ?_)
  refine J_if_ne (tgt := 14) Y dX4_put_8 (by decide) ?_ ?_
  · refine J_iload_n Y 2 dX4_put_14 rfl rfl ?_
    refine J_iconst (v := (0 : Int32)) Y dX4_put_15 (by decide) ?_
    refine J_bipush (v := (8 : Int32)) Y dX4_put_16 (by decide) ?_
    refine C_cSi (As := [.int v2, .int (0 : Int32), .int (8 : Int32)]) (st := []) rfl X (c_X4_within G v2 (0 : Int32) (8 : Int32) _) wi_X4_within wst_X4_within wml_RX4_89 ⟨Nat.le_of_ble_eq_true rfl, Nat.le_of_ble_eq_true rfl⟩ rfl (Nat.le_of_ble_eq_true rfl) dX4_put_18 (fun y18 t18 => ?_)
    refine J_if_eq (tgt := 45) Y dX4_put_21 (by decide) ?_ ?_
    · refine J_sub [] rfl ?_
      exact j_X4_put_L45 X  t18
    · refine J_iload_n Y 3 dX4_put_24 rfl rfl ?_
      refine J_iconst (v := (0 : Int32)) Y dX4_put_25 (by decide) ?_
      refine J_iload_n Y 2 dX4_put_26 rfl rfl ?_
      refine J_bipush (v := (8 : Int32)) Y dX4_put_27 (by decide) ?_
      refine J_icmp_ne (tgt := 37) Y dX4_put_29 (by decide) ?_ ?_
      · refine J_bipush (v := (9 : Int32)) Y dX4_put_37 (by decide) ?_
        exact j_X4_put_L39 X v1 v2 v3 (9 : Int32) (0 : Int32) v3 t18
      · refine J_bipush (v := (99 : Int32)) Y dX4_put_32 (by decide) ?_
        refine J_goto (tgt := 39) Y dX4_put_34 (by decide) ?_
        exact j_X4_put_L39 X v1 v2 v3 (99 : Int32) (0 : Int32) v3 t18
  · refine J_bipush (v := (-5 : Int32)) Y dX4_put_11 (by decide) ?_
    exact J_ireturn Y dX4_put_13
theorem c_X4_put (G : JG) (v1 : Int32) (v2 : Int32) (v3 : Int32) (σ : ST) : Con (VC G) vI G.1 yX4_put cX4_put 4 (some .int) 1 40 [.ref (gO G 0), .int v1, .int v2, .int v3] σ (f_X4_put (gT G) v1 v2 v3 σ) :=
  Con_of (VC_ok G) (by decide +kernel) (Nat.le_of_ble_eq_true rfl) (fun E e1 e2 _ X => j_X4_put ⟨X, e1, e2⟩ v1 v2 v3 σ)
set_option maxRecDepth 100000 in
set_option maxHeartbeats 4000000 in
theorem j_X4_told {E : JE} {G : JG} (X : JC E 3 cX4_told RX4 (some .int) 2 80 G) (v1 : Int32) (v2 : Int32) (σ : ST) : Jg E 3 (JF E vI) [(0, .ref (gO G 0)), (1, .int v1), (2, .int v2)] 0 [] σ (f_X4_told (gT G) v1 v2 σ) := by
  have Y := X.1
  unfold f_X4_told
  refine J_aload_n Y 0 dX4_told_0 rfl rfl ?_
  refine C_get 3 X uw_X4 (cO_0 G _) rfl (by decide) rfl wfl_RX4_58 rfl dX4_told_1 ?_
  refine J_iload_n Y 1 dX4_told_4 rfl rfl ?_
  refine C_cVi (As := [.int v1]) (st := []) rfl X (c_X0_has G 2 v1 (Or.inl rfl) _) (cO_co G _ (Or.inl rfl)) rfl rfl wi_X0_has win_X0_has wse_X0_has wml_RX4_100 ⟨Nat.le_of_ble_eq_true rfl, Nat.le_of_ble_eq_true rfl⟩ rfl (Nat.le_of_ble_eq_true rfl) dX4_told_5 (fun y5 t5 => ?_)
  refine J_if_ne (tgt := 14) Y dX4_told_8 (by decide) ?_ ?_
  · refine J_iload_n Y 2 dX4_told_14 rfl rfl ?_
    refine C_cSi (As := [.int v2]) (st := []) rfl X (c_X4_isSort G v2 _) wi_X4_isSort wst_X4_isSort wml_RX4_103 ⟨Nat.le_of_ble_eq_true rfl, Nat.le_of_ble_eq_true rfl⟩ rfl (Nat.le_of_ble_eq_true rfl) dX4_told_15 (fun y15 t15 => ?_)
    refine J_if_eq (tgt := 36) Y dX4_told_18 (by decide) ?_ ?_
    · refine J_iload_n Y 2 dX4_told_36 rfl rfl ?_
      refine J_ite (fun c37_8 => ?_) (fun c37_8 => ?_)
      · refine J_tin (tgt := 76) (8 : Int32) c37_8 Y dX4_told_37 (by decide) (by decide) rfl (by decide) ?_
        refine J_aload_n Y 0 dX4_told_76 rfl rfl ?_
        refine C_get 3 X uw_X4 (cO_0 G _) rfl (by decide) rfl wfl_RX4_58 rfl dX4_told_77 ?_
        refine C_get 4 X uw_X0 (cO_co G _ (Or.inl rfl)) rfl (by decide) rfl wfl_RX4_119 rfl dX4_told_80 ?_
        refine J_iload_n Y 1 dX4_told_83 rfl rfl ?_
        refine C_ald X (cA_co_4 G _ (Or.inl rfl)) dX4_told_84 (fun x84 => ?_)
        exact J_ireturn Y dX4_told_85
      refine J_ite (fun c37_9 => ?_) (fun c37_9 => ?_)
      · refine J_tin (tgt := 86) (9 : Int32) c37_9 Y dX4_told_37 (by decide) (by decide) rfl (by decide) ?_
        refine J_aload_n Y 0 dX4_told_86 rfl rfl ?_
        refine C_get 3 X uw_X4 (cO_0 G _) rfl (by decide) rfl wfl_RX4_58 rfl dX4_told_87 ?_
        refine C_get 2 X uw_X0 (cO_co G _ (Or.inl rfl)) rfl (by decide) rfl wfl_RX4_122 rfl dX4_told_90 ?_
        refine J_iload_n Y 1 dX4_told_93 rfl rfl ?_
        refine C_ald X (cA_co_2 G _ (Or.inl rfl)) dX4_told_94 (fun x94 => ?_)
        exact J_ireturn Y dX4_told_95
      refine J_ite (fun c37_10 => ?_) (fun c37_10 => ?_)
      · refine J_tin (tgt := 96) (10 : Int32) c37_10 Y dX4_told_37 (by decide) (by decide) rfl (by decide) ?_
        refine J_aload_n Y 0 dX4_told_96 rfl rfl ?_
        refine C_get 3 X uw_X4 (cO_0 G _) rfl (by decide) rfl wfl_RX4_58 rfl dX4_told_97 ?_
        refine C_get 3 X uw_X0 (cO_co G _ (Or.inl rfl)) rfl (by decide) rfl wfl_RX4_125 rfl dX4_told_100 ?_
        refine J_iload_n Y 1 dX4_told_103 rfl rfl ?_
        refine C_ald X (cA_co_3 G _ (Or.inl rfl)) dX4_told_104 (fun x104 => ?_)
        exact J_ireturn Y dX4_told_105
      refine J_ite (fun c37_11 => ?_) (fun c37_11 => ?_)
      · refine J_tin (tgt := 106) (11 : Int32) c37_11 Y dX4_told_37 (by decide) (by decide) rfl (by decide) ?_
        refine J_aload_n Y 0 dX4_told_106 rfl rfl ?_
        refine C_get 3 X uw_X4 (cO_0 G _) rfl (by decide) rfl wfl_RX4_58 rfl dX4_told_107 ?_
        refine C_get 5 X uw_X0 (cO_co G _ (Or.inl rfl)) rfl (by decide) rfl wfl_RX4_128 rfl dX4_told_110 ?_
        refine J_iload_n Y 1 dX4_told_113 rfl rfl ?_
        refine C_ald X (cA_co_5 G _ (Or.inl rfl)) dX4_told_114 (fun x114 => ?_)
        exact J_ireturn Y dX4_told_115
      refine J_ite (fun c37_12 => ?_) (fun c37_12 => ?_)
      · refine J_tin (tgt := 116) (12 : Int32) c37_12 Y dX4_told_37 (by decide) (by decide) rfl (by decide) ?_
        refine J_aload_n Y 0 dX4_told_116 rfl rfl ?_
        refine C_get 3 X uw_X4 (cO_0 G _) rfl (by decide) rfl wfl_RX4_58 rfl dX4_told_117 ?_
        refine C_get 6 X uw_X0 (cO_co G _ (Or.inl rfl)) rfl (by decide) rfl wfl_RX4_131 rfl dX4_told_120 ?_
        refine J_iload_n Y 1 dX4_told_123 rfl rfl ?_
        refine C_ald X (cA_co_6 G _ (Or.inl rfl)) dX4_told_124 (fun x124 => ?_)
        exact J_ireturn Y dX4_told_125
      refine J_ite (fun c37_13 => ?_) (fun c37_13 => ?_)
      · refine J_tin (tgt := 126) (13 : Int32) c37_13 Y dX4_told_37 (by decide) (by decide) rfl (by decide) ?_
        refine J_aload_n Y 0 dX4_told_126 rfl rfl ?_
        refine C_get 3 X uw_X4 (cO_0 G _) rfl (by decide) rfl wfl_RX4_58 rfl dX4_told_127 ?_
        refine C_get 7 X uw_X0 (cO_co G _ (Or.inl rfl)) rfl (by decide) rfl wfl_RX4_134 rfl dX4_told_130 ?_
        refine J_iload_n Y 1 dX4_told_133 rfl rfl ?_
        refine C_ald X (cA_co_7 G _ (Or.inl rfl)) dX4_told_134 (fun x134 => ?_)
        exact J_ireturn Y dX4_told_135
      have e37_8 := lv_neT c37_8 (show ((8 : Int32)).toInt = (8 : Int) by decide)
      have e37_9 := lv_neT c37_9 (show ((9 : Int32)).toInt = (9 : Int) by decide)
      have e37_10 := lv_neT c37_10 (show ((10 : Int32)).toInt = (10 : Int) by decide)
      have e37_11 := lv_neT c37_11 (show ((11 : Int32)).toInt = (11 : Int) by decide)
      have e37_12 := lv_neT c37_12 (show ((12 : Int32)).toInt = (12 : Int) by decide)
      have e37_13 := lv_neT c37_13 (show ((13 : Int32)).toInt = (13 : Int) by decide)
      refine J_tout (tgt := 136) Y dX4_told_37 (by omega) (by decide) ?_
      refine J_bipush (v := (-7 : Int32)) Y dX4_told_136 (by decide) ?_
      exact J_ireturn Y dX4_told_138
    · refine J_aload_n Y 0 dX4_told_21 rfl rfl ?_
      refine C_get 3 X uw_X4 (cO_0 G _) rfl (by decide) rfl wfl_RX4_58 rfl dX4_told_22 ?_
      refine C_get 8 X uw_X0 (cO_co G _ (Or.inl rfl)) rfl (by decide) rfl wfl_RX4_116 rfl dX4_told_25 ?_
      refine J_iload_n Y 1 dX4_told_28 rfl rfl ?_
      refine J_bipush (v := (8 : Int32)) Y dX4_told_29 (by decide) ?_
      refine J_imul Y dX4_told_31 ?_
      refine J_iload_n Y 2 dX4_told_32 rfl rfl ?_
      refine J_iadd Y dX4_told_33 ?_
      refine C_ald X (cA_co_8 G _ (Or.inl rfl)) dX4_told_34 (fun x34 => ?_)
      exact J_ireturn Y dX4_told_35
  · refine J_bipush (v := (-5 : Int32)) Y dX4_told_11 (by decide) ?_
    exact J_ireturn Y dX4_told_13
theorem c_X4_told (G : JG) (v1 : Int32) (v2 : Int32) (σ : ST) : Con (VC G) vI G.1 yX4_told cX4_told 3 (some .int) 2 80 [.ref (gO G 0), .int v1, .int v2] σ (f_X4_told (gT G) v1 v2 σ) :=
  Con_of (VC_ok G) (by decide +kernel) (Nat.le_of_ble_eq_true rfl) (fun E e1 e2 _ X => j_X4_told ⟨X, e1, e2⟩ v1 v2 σ)
set_option maxRecDepth 100000 in
set_option maxHeartbeats 4000000 in
theorem j_X4_pinches_L18 {E : JE} {G : JG} (X : JC E 4 cX4_pinches RX4 (some .int) 4 160 G) (σ : ST) : Jg E 4 (JF E vI) [] 18 [] σ (f_X4_pinches_L18 (gT G) σ) := by
  have Y := X.1
  unfold f_X4_pinches_L18
  refine J_sipush (v := (-5000 : Int32)) Y dX4_pinches_18 (by decide) ?_
  exact J_ireturn Y dX4_pinches_21
set_option maxRecDepth 100000 in
set_option maxHeartbeats 4000000 in
theorem j_X4_pinches {E : JE} {G : JG} (X : JC E 4 cX4_pinches RX4 (some .int) 4 160 G) (v1 : Int32) (v2 : Int32) (v3 : Int32) (σ : ST) : Jg E 4 (JF E vI) [(0, .ref (gO G 0)), (1, .int v1), (2, .int v2), (3, .int v3)] 0 [] σ (f_X4_pinches (gT G) v1 v2 v3 σ) := by
  have Y := X.1
  unfold f_X4_pinches
  refine J_aload_n Y 0 dX4_pinches_0 rfl rfl ?_
  refine C_get 3 X uw_X4 (cO_0 G _) rfl (by decide) rfl wfl_RX4_58 rfl dX4_pinches_1 ?_
  refine J_iload_n Y 1 dX4_pinches_4 rfl rfl ?_
  refine C_cVi (As := [.int v1]) (st := []) rfl X (c_X0_has G 2 v1 (Or.inl rfl) _) (cO_co G _ (Or.inl rfl)) rfl rfl wi_X0_has win_X0_has wse_X0_has wml_RX4_100 ⟨Nat.le_of_ble_eq_true rfl, Nat.le_of_ble_eq_true rfl⟩ rfl (Nat.le_of_ble_eq_true rfl) dX4_pinches_5 (fun y5 t5 => ?_)
  refine J_if_eq (tgt := 18) Y dX4_pinches_8 (by decide) ?_ ?_
  · refine J_sub [] rfl ?_
    exact j_X4_pinches_L18 X  t5
  · refine J_iload_n Y 2 dX4_pinches_11 rfl rfl ?_
    refine C_cSi (As := [.int v2]) (st := []) rfl X (c_X4_isSort G v2 _) wi_X4_isSort wst_X4_isSort wml_RX4_103 ⟨Nat.le_of_ble_eq_true rfl, Nat.le_of_ble_eq_true rfl⟩ rfl (Nat.le_of_ble_eq_true rfl) dX4_pinches_12 (fun y12 t12 => ?_)
    refine J_if_ne (tgt := 22) Y dX4_pinches_15 (by decide) ?_ ?_
    · refine J_iload_n Y 3 dX4_pinches_22 rfl rfl ?_
      refine J_ite (fun c23_0 => ?_) (fun c23_0 => ?_)
      · refine J_tin (tgt := 48) (0 : Int32) c23_0 Y dX4_pinches_23 (by decide) (by decide) rfl (by decide) ?_
        refine J_aload_n Y 0 dX4_pinches_48 rfl rfl ?_
        refine C_get 3 X uw_X4 (cO_0 G _) rfl (by decide) rfl wfl_RX4_58 rfl dX4_pinches_49 ?_
        refine J_iload_n Y 1 dX4_pinches_52 rfl rfl ?_
        refine J_iload_n Y 2 dX4_pinches_53 rfl rfl ?_
        refine C_cVi (As := [.int v1, .int v2]) (st := []) rfl X (c_X0_gone G 2 v1 v2 (Or.inl rfl) _) (cO_co G _ (Or.inl rfl)) rfl rfl wi_X0_gone win_X0_gone wse_X0_gone wml_RX4_137 ⟨Nat.le_of_ble_eq_true rfl, Nat.le_of_ble_eq_true rfl⟩ rfl (Nat.le_of_ble_eq_true rfl) dX4_pinches_54 (fun y54 t54 => ?_)
        exact J_ireturn Y dX4_pinches_57
      refine J_ite (fun c23_1 => ?_) (fun c23_1 => ?_)
      · refine J_tin (tgt := 58) (1 : Int32) c23_1 Y dX4_pinches_23 (by decide) (by decide) rfl (by decide) ?_
        refine J_aload_n Y 0 dX4_pinches_58 rfl rfl ?_
        refine C_get 3 X uw_X4 (cO_0 G _) rfl (by decide) rfl wfl_RX4_58 rfl dX4_pinches_59 ?_
        refine J_iload_n Y 1 dX4_pinches_62 rfl rfl ?_
        refine J_iload_n Y 2 dX4_pinches_63 rfl rfl ?_
        refine C_cVi (As := [.int v1, .int v2]) (st := []) rfl X (c_X0_gains G 2 v1 v2 (Or.inl rfl) _) (cO_co G _ (Or.inl rfl)) rfl rfl wi_X0_gains win_X0_gains wse_X0_gains wml_RX4_141 ⟨Nat.le_of_ble_eq_true rfl, Nat.le_of_ble_eq_true rfl⟩ rfl (Nat.le_of_ble_eq_true rfl) dX4_pinches_64 (fun y64 t64 => ?_)
        exact J_ireturn Y dX4_pinches_67
      refine J_ite (fun c23_2 => ?_) (fun c23_2 => ?_)
      · refine J_tin (tgt := 68) (2 : Int32) c23_2 Y dX4_pinches_23 (by decide) (by decide) rfl (by decide) ?_
        refine J_aload_n Y 0 dX4_pinches_68 rfl rfl ?_
        refine C_get 3 X uw_X4 (cO_0 G _) rfl (by decide) rfl wfl_RX4_58 rfl dX4_pinches_69 ?_
        refine J_iload_n Y 1 dX4_pinches_72 rfl rfl ?_
        refine J_iload_n Y 2 dX4_pinches_73 rfl rfl ?_
        refine C_cVi (As := [.int v1, .int v2]) (st := []) rfl X (c_X0_spills G 2 v1 v2 (Or.inl rfl) _) (cO_co G _ (Or.inl rfl)) rfl rfl wi_X0_spills win_X0_spills wse_X0_spills wml_RX4_144 ⟨Nat.le_of_ble_eq_true rfl, Nat.le_of_ble_eq_true rfl⟩ rfl (Nat.le_of_ble_eq_true rfl) dX4_pinches_74 (fun y74 t74 => ?_)
        exact J_ireturn Y dX4_pinches_77
      have e23_0 := lv_neT c23_0 (show ((0 : Int32)).toInt = (0 : Int) by decide)
      have e23_1 := lv_neT c23_1 (show ((1 : Int32)).toInt = (1 : Int) by decide)
      have e23_2 := lv_neT c23_2 (show ((2 : Int32)).toInt = (2 : Int) by decide)
      refine J_tout (tgt := 78) Y dX4_pinches_23 (by omega) (by decide) ?_
      refine J_sipush (v := (-7000 : Int32)) Y dX4_pinches_78 (by decide) ?_
      exact J_ireturn Y dX4_pinches_81
    · refine J_sub [] rfl ?_
      exact j_X4_pinches_L18 X  t12
theorem c_X4_pinches (G : JG) (v1 : Int32) (v2 : Int32) (v3 : Int32) (σ : ST) : Con (VC G) vI G.1 yX4_pinches cX4_pinches 4 (some .int) 4 160 [.ref (gO G 0), .int v1, .int v2, .int v3] σ (f_X4_pinches (gT G) v1 v2 v3 σ) :=
  Con_of (VC_ok G) (by decide +kernel) (Nat.le_of_ble_eq_true rfl) (fun E e1 e2 _ X => j_X4_pinches ⟨X, e1, e2⟩ v1 v2 v3 σ)
set_option maxRecDepth 100000 in
set_option maxHeartbeats 4000000 in
theorem j_X4_pinch {E : JE} {G : JG} (X : JC E 3 cX4_pinch RX4 (some .int) 5 200 G) (v1 : Int32) (v2 : Int32) (σ : ST) : Jg E 3 (JF E vI) [(0, .ref (gO G 0)), (1, .int v1), (2, .int v2)] 0 [] σ (f_X4_pinch (gT G) v1 v2 σ) := by
  have Y := X.1
  unfold f_X4_pinch
  refine J_aload_n Y 0 dX4_pinch_0 rfl rfl ?_
  refine C_get 3 X uw_X4 (cO_0 G _) rfl (by decide) rfl wfl_RX4_58 rfl dX4_pinch_1 ?_
  refine J_iload_n Y 1 dX4_pinch_4 rfl rfl ?_
  refine C_cVi (As := [.int v1]) (st := []) rfl X (c_X0_has G 2 v1 (Or.inl rfl) _) (cO_co G _ (Or.inl rfl)) rfl rfl wi_X0_has win_X0_has wse_X0_has wml_RX4_100 ⟨Nat.le_of_ble_eq_true rfl, Nat.le_of_ble_eq_true rfl⟩ rfl (Nat.le_of_ble_eq_true rfl) dX4_pinch_5 (fun y5 t5 => ?_)
  refine J_if_ne (tgt := 14) Y dX4_pinch_8 (by decide) ?_ ?_
  · refine J_iload_n Y 2 dX4_pinch_14 rfl rfl ?_
    refine C_cSi (As := [.int v2]) (st := []) rfl X (c_X4_isSort G v2 _) wi_X4_isSort wst_X4_isSort wml_RX4_103 ⟨Nat.le_of_ble_eq_true rfl, Nat.le_of_ble_eq_true rfl⟩ rfl (Nat.le_of_ble_eq_true rfl) dX4_pinch_15 (fun y15 t15 => ?_)
    refine J_if_ne (tgt := 24) Y dX4_pinch_18 (by decide) ?_ ?_
    · refine J_aload_n Y 0 dX4_pinch_24 rfl rfl ?_
      refine C_get 3 X uw_X4 (cO_0 G _) rfl (by decide) rfl wfl_RX4_58 rfl dX4_pinch_25 ?_
      refine J_iload_n Y 1 dX4_pinch_28 rfl rfl ?_
      refine J_iload_n Y 2 dX4_pinch_29 rfl rfl ?_
      refine C_cVi (As := [.int v1, .int v2]) (st := []) rfl X (c_X0_can G 2 v1 v2 (Or.inl rfl) _) (cO_co G _ (Or.inl rfl)) rfl rfl wi_X0_can win_X0_can wse_X0_can wml_RX4_147 ⟨Nat.le_of_ble_eq_true rfl, Nat.le_of_ble_eq_true rfl⟩ rfl (Nat.le_of_ble_eq_true rfl) dX4_pinch_30 (fun y30 t30 => ?_)
      refine J_if_ne (tgt := 39) Y dX4_pinch_33 (by decide) ?_ ?_
      · refine J_aload_n Y 0 dX4_pinch_39 rfl rfl ?_
        refine C_get 3 X uw_X4 (cO_0 G _) rfl (by decide) rfl wfl_RX4_58 rfl dX4_pinch_40 ?_
        refine J_iload_n Y 1 dX4_pinch_43 rfl rfl ?_
        refine J_iload_n Y 2 dX4_pinch_44 rfl rfl ?_
        refine C_cVv (As := [.int v1, .int v2]) (st := []) rfl X (c_X0_take G 2 v1 v2 (Or.inl rfl) _) (cO_co G _ (Or.inl rfl)) rfl rfl wi_X0_take win_X0_take wse_X0_take wml_RX4_151 ⟨Nat.le_of_ble_eq_true rfl, Nat.le_of_ble_eq_true rfl⟩ rfl (Nat.le_of_ble_eq_true rfl) dX4_pinch_45 (fun t45 => ?_)
        refine J_aload_n Y 0 dX4_pinch_48 rfl rfl ?_
        refine C_get 3 X uw_X4 (cO_0 G _) rfl (by decide) rfl wfl_RX4_58 rfl dX4_pinch_49 ?_
        refine C_get 7 X uw_X0 (cO_co G _ (Or.inl rfl)) rfl (by decide) rfl wfl_RX4_134 rfl dX4_pinch_52 ?_
        refine J_iload_n Y 1 dX4_pinch_55 rfl rfl ?_
        refine C_ald X (cA_co_7 G _ (Or.inl rfl)) dX4_pinch_56 (fun x56 => ?_)
        exact J_ireturn Y dX4_pinch_57
      · refine J_bipush (v := (-3 : Int32)) Y dX4_pinch_36 (by decide) ?_
        exact J_ireturn Y dX4_pinch_38
    · refine J_bipush (v := (-6 : Int32)) Y dX4_pinch_21 (by decide) ?_
      exact J_ireturn Y dX4_pinch_23
  · refine J_bipush (v := (-5 : Int32)) Y dX4_pinch_11 (by decide) ?_
    exact J_ireturn Y dX4_pinch_13
theorem c_X4_pinch (G : JG) (v1 : Int32) (v2 : Int32) (σ : ST) : Con (VC G) vI G.1 yX4_pinch cX4_pinch 3 (some .int) 5 200 [.ref (gO G 0), .int v1, .int v2] σ (f_X4_pinch (gT G) v1 v2 σ) :=
  Con_of (VC_ok G) (by decide +kernel) (Nat.le_of_ble_eq_true rfl) (fun E e1 e2 _ X => j_X4_pinch ⟨X, e1, e2⟩ v1 v2 σ)
set_option maxRecDepth 100000 in
set_option maxHeartbeats 4000000 in
theorem j_X4_give_L27 {E : JE} {G : JG} (X : JC E 6 cX4_give RX4 (some .int) 2 80 G) (σ : ST) : Jg E 6 (JF E vI) [] 27 [] σ (f_X4_give_L27 (gT G) σ) := by
  have Y := X.1
  unfold f_X4_give_L27
  refine J_bipush (v := (-5 : Int32)) Y dX4_give_27 (by decide) ?_
  exact J_ireturn Y dX4_give_29
set_option maxRecDepth 100000 in
set_option maxHeartbeats 4000000 in
theorem j_X4_give_L84 {E : JE} {G : JG} (X : JC E 6 cX4_give RX4 (some .int) 2 80 G) (σ : ST) : Jg E 6 (JF E vI) [] 84 [] σ (f_X4_give_L84 (gT G) σ) := by
  have Y := X.1
  unfold f_X4_give_L84
  refine J_bipush (v := (-3 : Int32)) Y dX4_give_84 (by decide) ?_
  exact J_ireturn Y dX4_give_86
set_option maxRecDepth 100000 in
set_option maxHeartbeats 4000000 in
theorem j_X4_give {E : JE} {G : JG} (X : JC E 6 cX4_give RX4 (some .int) 2 80 G) (v1 : Int32) (v2 : Int32) (v3 : Int32) (σ : ST) : Jg E 6 (JF E vI) [(0, .ref (gO G 0)), (1, .int v1), (2, .int v2), (3, .int v3)] 0 [] σ (f_X4_give (gT G) v1 v2 v3 σ) := by
  have Y := X.1
  unfold f_X4_give
  refine J_aload_n Y 0 dX4_give_0 rfl rfl ?_
  refine C_get 3 X uw_X4 (cO_0 G _) rfl (by decide) rfl wfl_RX4_58 rfl dX4_give_1 ?_
  refine J_iload_n Y 1 dX4_give_4 rfl rfl ?_
  refine C_cVi (As := [.int v1]) (st := []) rfl X (c_X0_has G 2 v1 (Or.inl rfl) _) (cO_co G _ (Or.inl rfl)) rfl rfl wi_X0_has win_X0_has wse_X0_has wml_RX4_100 ⟨Nat.le_of_ble_eq_true rfl, Nat.le_of_ble_eq_true rfl⟩ rfl (Nat.le_of_ble_eq_true rfl) dX4_give_5 (fun y5 t5 => ?_)
  refine J_if_eq (tgt := 27) Y dX4_give_8 (by decide) ?_ ?_
  · refine J_sub [] rfl ?_
    exact j_X4_give_L27 X  t5
  · refine J_aload_n Y 0 dX4_give_11 rfl rfl ?_
    refine C_get 3 X uw_X4 (cO_0 G _) rfl (by decide) rfl wfl_RX4_58 rfl dX4_give_12 ?_
    refine J_iload_n Y 2 dX4_give_15 rfl rfl ?_
    refine C_cVi (As := [.int v2]) (st := []) rfl X (c_X0_has G 2 v2 (Or.inl rfl) _) (cO_co G _ (Or.inl rfl)) rfl rfl wi_X0_has win_X0_has wse_X0_has wml_RX4_100 ⟨Nat.le_of_ble_eq_true rfl, Nat.le_of_ble_eq_true rfl⟩ rfl (Nat.le_of_ble_eq_true rfl) dX4_give_16 (fun y16 t16 => ?_)
    refine J_if_eq (tgt := 27) Y dX4_give_19 (by decide) ?_ ?_
    · refine J_sub [] rfl ?_
      exact j_X4_give_L27 X  t16
    · refine J_iload_n Y 1 dX4_give_22 rfl rfl ?_
      refine J_iload_n Y 2 dX4_give_23 rfl rfl ?_
      refine J_icmp_ne (tgt := 30) Y dX4_give_24 (by decide) ?_ ?_
      · refine J_iload_n Y 3 dX4_give_30 rfl rfl ?_
        refine C_cSi (As := [.int v3]) (st := []) rfl X (c_X4_isSort G v3 _) wi_X4_isSort wst_X4_isSort wml_RX4_103 ⟨Nat.le_of_ble_eq_true rfl, Nat.le_of_ble_eq_true rfl⟩ rfl (Nat.le_of_ble_eq_true rfl) dX4_give_31 (fun y31 t31 => ?_)
        refine J_if_ne (tgt := 40) Y dX4_give_34 (by decide) ?_ ?_
        · refine J_iload_n Y 1 dX4_give_40 rfl rfl ?_
          refine J_bipush (v := (8 : Int32)) Y dX4_give_41 (by decide) ?_
          refine J_imul Y dX4_give_43 ?_
          refine J_iload_n Y 3 dX4_give_44 rfl rfl ?_
          refine J_iadd Y dX4_give_45 ?_
          refine J_istore [(4, .int ((v1 * (8 : Int32)) + v3)), (0, .ref (gO G 0)), (1, .int v1), (2, .int v2), (3, .int v3)] Y dX4_give_46 (by decide) rfl ?_
          refine J_iload_n Y 3 dX4_give_48 rfl rfl ?_
          refine J_bipush (v := (8 : Int32)) Y dX4_give_49 (by decide) ?_
          refine J_imul Y dX4_give_51 ?_
          refine J_iload_n Y 4 dX4_give_52 rfl rfl ?_
          refine J_iadd Y dX4_give_53 ?_
          refine J_istore [(5, .int ((v2 * (8 : Int32)) + v3)), (4, .int ((v1 * (8 : Int32)) + v3)), (0, .ref (gO G 0)), (1, .int v1), (2, .int v2), (3, .int v3)] Y dX4_give_54 (by decide) rfl ?_
          refine J_aload_n Y 2 dX4_give_56 rfl rfl ?_
          refine C_get 3 X uw_X4 (cO_0 G _) rfl (by decide) rfl wfl_RX4_58 rfl dX4_give_57 ?_
          refine C_get 8 X uw_X0 (cO_co G _ (Or.inl rfl)) rfl (by decide) rfl wfl_RX4_116 rfl dX4_give_60 ?_
          refine J_iload Y 1 dX4_give_63 rfl ?_
          refine C_ald X (cA_co_8 G _ (Or.inl rfl)) dX4_give_65 (fun x65 => ?_)
          refine J_if_le (tgt := 84) Y dX4_give_66 (by decide) ?_ ?_
          · refine J_sub [] rfl ?_
            exact j_X4_give_L84 X  t31
          · refine J_aload_n Y 2 dX4_give_69 rfl rfl ?_
            refine C_get 3 X uw_X4 (cO_0 G _) rfl (by decide) rfl wfl_RX4_58 rfl dX4_give_70 ?_
            refine C_get 8 X uw_X0 (cO_co G _ (Or.inl rfl)) rfl (by decide) rfl wfl_RX4_116 rfl dX4_give_73 ?_
            refine J_iload Y 0 dX4_give_76 rfl ?_
            refine C_ald X (cA_co_8 G _ (Or.inl rfl)) dX4_give_78 (fun x78 => ?_)
            refine J_bipush (v := (9 : Int32)) Y dX4_give_79 (by decide) ?_
            refine J_icmp_lt (tgt := 87) Y dX4_give_81 (by decide) ?_ ?_
            · refine J_aload_n Y 2 dX4_give_87 rfl rfl ?_
              refine C_get 3 X uw_X4 (cO_0 G _) rfl (by decide) rfl wfl_RX4_58 rfl dX4_give_88 ?_
              refine C_get 8 X uw_X0 (cO_co G _ (Or.inl rfl)) rfl (by decide) rfl wfl_RX4_116 rfl dX4_give_91 ?_
              refine J_iload Y 1 dX4_give_94 rfl ?_
              refine J_dup2 Y dX4_give_96 rfl rfl ?_
              refine C_ald X (cA_co_8 G _ (Or.inl rfl)) dX4_give_97 (fun x97 => ?_)
              refine J_iconst (v := (1 : Int32)) Y dX4_give_98 (by decide) ?_
              refine J_isub Y dX4_give_99 ?_
              refine C_ast X (cA_co_8 G _ (Or.inl rfl)) (cS_co_8 G _ (Or.inl rfl)) dX4_give_100 (fun t100 => ?_)
              refine J_aload_n Y 2 dX4_give_101 rfl rfl ?_
              refine C_get 3 X uw_X4 (cO_0 G _) rfl (by decide) rfl wfl_RX4_58 rfl dX4_give_102 ?_
              refine C_get 8 X uw_X0 (cO_co G _ (Or.inl rfl)) rfl (by decide) rfl wfl_RX4_116 rfl dX4_give_105 ?_
              refine J_iload Y 0 dX4_give_108 rfl ?_
              refine J_dup2 Y dX4_give_110 rfl rfl ?_
              refine C_ald X (cA_co_8 G _ (Or.inl rfl)) dX4_give_111 (fun x111 => ?_)
              refine J_iconst (v := (1 : Int32)) Y dX4_give_112 (by decide) ?_
              refine J_iadd Y dX4_give_113 ?_
              refine C_ast X (cA_co_8 G _ (Or.inl rfl)) (cS_co_8 G _ (Or.inl rfl)) dX4_give_114 (fun t114 => ?_)
              refine J_aload_n Y 2 dX4_give_115 rfl rfl ?_
              refine C_get 3 X uw_X4 (cO_0 G _) rfl (by decide) rfl wfl_RX4_58 rfl dX4_give_116 ?_
              refine C_get 8 X uw_X0 (cO_co G _ (Or.inl rfl)) rfl (by decide) rfl wfl_RX4_116 rfl dX4_give_119 ?_
              refine J_iload Y 0 dX4_give_122 rfl ?_
              refine C_ald X (cA_co_8 G _ (Or.inl rfl)) dX4_give_124 (fun x124 => ?_)
              exact J_ireturn Y dX4_give_125
            · refine J_sub [] rfl ?_
              exact j_X4_give_L84 X  t31
        · refine J_bipush (v := (-6 : Int32)) Y dX4_give_37 (by decide) ?_
          exact J_ireturn Y dX4_give_39
      · refine J_sub [] rfl ?_
        exact j_X4_give_L27 X  t16
theorem c_X4_give (G : JG) (v1 : Int32) (v2 : Int32) (v3 : Int32) (σ : ST) : Con (VC G) vI G.1 yX4_give cX4_give 6 (some .int) 2 80 [.ref (gO G 0), .int v1, .int v2, .int v3] σ (f_X4_give (gT G) v1 v2 v3 σ) :=
  Con_of (VC_ok G) (by decide +kernel) (Nat.le_of_ble_eq_true rfl) (fun E e1 e2 _ X => j_X4_give ⟨X, e1, e2⟩ v1 v2 v3 σ)
set_option maxRecDepth 100000 in
set_option maxHeartbeats 4000000 in
theorem j_X4_minute {E : JE} {G : JG} (X : JC E 1 cX4_minute RX4 (some .int) 1 40 G) (σ : ST) : Jg E 1 (JF E vI) [(0, .ref (gO G 0))] 0 [] σ (f_X4_minute (gT G) σ) := by
  have Y := X.1
  unfold f_X4_minute
  refine J_aload_n Y 0 dX4_minute_0 rfl rfl ?_
  refine C_get 3 X uw_X4 (cO_0 G _) rfl (by decide) rfl wfl_RX4_58 rfl dX4_minute_1 ?_
  refine C_get 10 X uw_X0 (cO_co G _ (Or.inl rfl)) rfl (by decide) rfl wfl_RX4_80 rfl dX4_minute_4 ?_
  refine J_sipush (v := (999 : Int32)) Y dX4_minute_7 (by decide) ?_
  refine J_icmp_lt (tgt := 16) Y dX4_minute_10 (by decide) ?_ ?_
  · refine J_aload_n Y 0 dX4_minute_16 rfl rfl ?_
    refine C_get 3 X uw_X4 (cO_0 G _) rfl (by decide) rfl wfl_RX4_58 rfl dX4_minute_17 ?_
    refine C_cVi (As := []) (st := []) rfl X (c_X0_pass G 2 (Or.inl rfl) _) (cO_co G _ (Or.inl rfl)) rfl rfl wi_X0_pass win_X0_pass wse_X0_pass wml_RX4_155 ⟨Nat.le_of_ble_eq_true rfl, Nat.le_of_ble_eq_true rfl⟩ rfl (Nat.le_of_ble_eq_true rfl) dX4_minute_20 (fun y20 t20 => ?_)
    exact J_ireturn Y dX4_minute_23
  · refine J_bipush (v := (-3 : Int32)) Y dX4_minute_13 (by decide) ?_
    exact J_ireturn Y dX4_minute_15
theorem c_X4_minute (G : JG) (σ : ST) : Con (VC G) vI G.1 yX4_minute cX4_minute 1 (some .int) 1 40 [.ref (gO G 0)] σ (f_X4_minute (gT G) σ) :=
  Con_of (VC_ok G) (by decide +kernel) (Nat.le_of_ble_eq_true rfl) (fun E e1 e2 _ X => j_X4_minute ⟨X, e1, e2⟩ σ)
set_option maxRecDepth 100000 in
set_option maxHeartbeats 4000000 in
theorem j_X4_room_L52 {E : JE} {G : JG} (X : JC E 2 cX4_room RX4 (some .int) 2 80 G) (s0 : Int32) (σ : ST) : Jg E 2 (JF E vI) [] 52 [.int s0] σ (f_X4_room_L52 (gT G) s0 σ) := by
  have Y := X.1
  unfold f_X4_room_L52
  exact J_ireturn Y dX4_room_52
set_option maxRecDepth 100000 in
set_option maxHeartbeats 4000000 in
theorem j_X4_room {E : JE} {G : JG} (X : JC E 2 cX4_room RX4 (some .int) 2 80 G) (v1 : Int32) (σ : ST) : Jg E 2 (JF E vI) [(0, .ref (gO G 0)), (1, .int v1)] 0 [] σ (f_X4_room (gT G) v1 σ) := by
  have Y := X.1
  unfold f_X4_room
  refine J_iload_n Y 1 dX4_room_0 rfl rfl ?_
  refine J_if_ne (tgt := 13) Y dX4_room_1 (by decide) ?_ ?_
  · refine J_iload_n Y 1 dX4_room_13 rfl rfl ?_
    refine J_iconst (v := (1 : Int32)) Y dX4_room_14 (by decide) ?_
    refine J_bipush (v := (8 : Int32)) Y dX4_room_15 (by decide) ?_
    refine C_cSi (As := [.int v1, .int (1 : Int32), .int (8 : Int32)]) (st := []) rfl X (c_X4_within G v1 (1 : Int32) (8 : Int32) _) wi_X4_within wst_X4_within wml_RX4_89 ⟨Nat.le_of_ble_eq_true rfl, Nat.le_of_ble_eq_true rfl⟩ rfl (Nat.le_of_ble_eq_true rfl) dX4_room_17 (fun y17 t17 => ?_)
    refine J_if_eq (tgt := 34) Y dX4_room_20 (by decide) ?_ ?_
    · refine J_iload_n Y 1 dX4_room_34 rfl rfl ?_
      refine J_bipush (v := (9 : Int32)) Y dX4_room_35 (by decide) ?_
      refine J_icmp_ne (tgt := 50) Y dX4_room_37 (by decide) ?_ ?_
      · refine J_bipush (v := (-2 : Int32)) Y dX4_room_50 (by decide) ?_
        refine J_sub [] rfl ?_
        exact j_X4_room_L52 X (-2 : Int32) t17
      · refine J_aload_n Y 0 dX4_room_40 rfl rfl ?_
        refine C_get 3 X uw_X4 (cO_0 G _) rfl (by decide) rfl wfl_RX4_58 rfl dX4_room_41 ?_
        refine C_cVi (As := []) (st := []) rfl X (c_X0_mostLeft G 2 (Or.inl rfl) _) (cO_co G _ (Or.inl rfl)) rfl rfl wi_X0_mostLeft win_X0_mostLeft wse_X0_mostLeft wml_RX4_162 ⟨Nat.le_of_ble_eq_true rfl, Nat.le_of_ble_eq_true rfl⟩ rfl (Nat.le_of_ble_eq_true rfl) dX4_room_44 (fun y44 t44 => ?_)
        refine J_goto (tgt := 52) Y dX4_room_47 (by decide) ?_
        refine J_sub [] rfl ?_
        exact j_X4_room_L52 X y44 t44
    · refine J_aload_n Y 0 dX4_room_23 rfl rfl ?_
      refine C_get 3 X uw_X4 (cO_0 G _) rfl (by decide) rfl wfl_RX4_58 rfl dX4_room_24 ?_
      refine J_iload_n Y 1 dX4_room_27 rfl rfl ?_
      refine J_iconst (v := (1 : Int32)) Y dX4_room_28 (by decide) ?_
      refine J_isub Y dX4_room_29 ?_
      refine C_cVi (As := [.int (v1 - (1 : Int32))]) (st := []) rfl X (c_X0_whoIsIn G 2 (v1 - (1 : Int32)) (Or.inl rfl) _) (cO_co G _ (Or.inl rfl)) rfl rfl wi_X0_whoIsIn win_X0_whoIsIn wse_X0_whoIsIn wml_RX4_158 ⟨Nat.le_of_ble_eq_true rfl, Nat.le_of_ble_eq_true rfl⟩ rfl (Nat.le_of_ble_eq_true rfl) dX4_room_30 (fun y30 t30 => ?_)
      exact J_ireturn Y dX4_room_33
  · refine J_aload_n Y 0 dX4_room_4 rfl rfl ?_
    refine C_get 3 X uw_X4 (cO_0 G _) rfl (by decide) rfl wfl_RX4_58 rfl dX4_room_5 ?_
    refine J_iconst (v := (-1 : Int32)) Y dX4_room_8 (by decide) ?_
    refine C_cVi (As := [.int (-1 : Int32)]) (st := []) rfl X (c_X0_whoIsIn G 2 (-1 : Int32) (Or.inl rfl) _) (cO_co G _ (Or.inl rfl)) rfl rfl wi_X0_whoIsIn win_X0_whoIsIn wse_X0_whoIsIn wml_RX4_158 ⟨Nat.le_of_ble_eq_true rfl, Nat.le_of_ble_eq_true rfl⟩ rfl (Nat.le_of_ble_eq_true rfl) dX4_room_9 (fun y9 t9 => ?_)
    exact J_ireturn Y dX4_room_12
theorem c_X4_room (G : JG) (v1 : Int32) (σ : ST) : Con (VC G) vI G.1 yX4_room cX4_room 2 (some .int) 2 80 [.ref (gO G 0), .int v1] σ (f_X4_room (gT G) v1 σ) :=
  Con_of (VC_ok G) (by decide +kernel) (Nat.le_of_ble_eq_true rfl) (fun E e1 e2 _ X => j_X4_room ⟨X, e1, e2⟩ v1 σ)
set_option maxRecDepth 100000 in
set_option maxHeartbeats 4000000 in
theorem j_X4_isSheet {E : JE} {G : JG} (X : JC E 1 cX4_isSheet RX4 (some .boolean) 1 40 G) (v0 : Int32) (σ : ST) : Jg E 1 (JF E vI) [(0, .int v0)] 0 [] σ (f_X4_isSheet (gT G) v0 σ) := by
  have Y := X.1
  unfold f_X4_isSheet
  refine J_iload_n Y 0 dX4_isSheet_0 rfl rfl ?_
  refine J_iconst (v := (0 : Int32)) Y dX4_isSheet_1 (by decide) ?_
  refine J_iconst (v := (3 : Int32)) Y dX4_isSheet_2 (by decide) ?_
  refine C_cSi (As := [.int v0, .int (0 : Int32), .int (3 : Int32)]) (st := []) rfl X (c_X4_within G v0 (0 : Int32) (3 : Int32) _) wi_X4_within wst_X4_within wml_RX4_89 ⟨Nat.le_of_ble_eq_true rfl, Nat.le_of_ble_eq_true rfl⟩ rfl (Nat.le_of_ble_eq_true rfl) dX4_isSheet_3 (fun y3 t3 => ?_)
  exact J_zreturn Y dX4_isSheet_6
theorem c_X4_isSheet (G : JG) (v0 : Int32) (σ : ST) : Con (VC G) vI G.1 yX4_isSheet cX4_isSheet 1 (some .boolean) 1 40 [.int v0] σ (f_X4_isSheet (gT G) v0 σ) :=
  Con_of (VC_ok G) (by decide +kernel) (Nat.le_of_ble_eq_true rfl) (fun E e1 e2 _ X => j_X4_isSheet ⟨X, e1, e2⟩ v0 σ)
set_option maxRecDepth 100000 in
set_option maxHeartbeats 4000000 in
theorem j_X4_refusesEvening_L82 {E : JE} {G : JG} (X : JC E 5 cX4_refusesEvening RX4 (some .int) 2 80 G) (σ : ST) : Jg E 5 (JF E vI) [] 82 [] σ (f_X4_refusesEvening_L82 (gT G) σ) := by
  have Y := X.1
  unfold f_X4_refusesEvening_L82
  refine J_bipush (v := (-2 : Int32)) Y dX4_refusesEvening_82 (by decide) ?_
  exact J_ireturn Y dX4_refusesEvening_84
set_option maxRecDepth 100000 in
set_option maxHeartbeats 4000000 in
theorem j_X4_refusesEvening_L85 {E : JE} {G : JG} (X : JC E 5 cX4_refusesEvening RX4 (some .int) 2 80 G) {k29 : Nat → Int32 → ST → Option (Int32 × ST)} (hk29 : ∀ (o2 : Nat) (v3 : Int32) (ho2 : isSh o2) (σ : ST), Jg E 5 (JF E vI) [(0, .ref (gO G 0)), (2, .ref (gO G o2)), (3, .int v3)] 29 [] σ (k29 o2 v3 σ)) (o2 : Nat) (v3 : Int32) (ho2 : isSh o2) (σ : ST) : Jg E 5 (JF E vI) [(0, .ref (gO G 0)), (2, .ref (gO G o2)), (3, .int v3)] 85 [] σ (f_X4_refusesEvening_L85 (gT G) k29 o2 v3 σ) := by
  have Y := X.1
  unfold f_X4_refusesEvening_L85
  refine J_iinc (v := v3 + (1 : Int32)) [(3, .int (v3 + (1 : Int32))), (0, .ref (gO G 0)), (2, .ref (gO G o2))] Y 2 dX4_refusesEvening_85 rfl (congrArg (fun z => _ + z) (by decide)) (by decide) rfl ?_
  refine J_goto (tgt := 29) Y dX4_refusesEvening_88 (by decide) ?_
  refine J_sub [1, 2, 0] rfl ?_
  exact hk29 o2 (v3 + (1 : Int32)) ho2 σ
set_option maxRecDepth 100000 in
set_option maxHeartbeats 4000000 in
theorem j_X4_refusesEvening_L29 {E : JE} {G : JG} (X : JC E 5 cX4_refusesEvening RX4 (some .int) 2 80 G) : ∀ (n : Nat) (o2 : Nat) (v3 : Int32) (ho2 : isSh o2) (σ : ST), Jg E 5 (JF E vI) [(0, .ref (gO G 0)), (2, .ref (gO G o2)), (3, .int v3)] 29 [] σ (f_X4_refusesEvening_L29 (gT G) n o2 v3 σ) := by
  have Y := X.1
  intro n
  induction n with
  | zero => intro o2 v3 ho2 σ; rw [f_X4_refusesEvening_L29]; exact J_none
  | succ n ih =>
    intro o2 v3 ho2 σ
    rw [f_X4_refusesEvening_L29]
    refine J_iload_n Y 2 dX4_refusesEvening_29 rfl rfl ?_
    refine J_aload_n Y 1 dX4_refusesEvening_30 rfl rfl ?_
    refine C_get 2 X uw_X1 (cO_sh G _ ho2) rfl (by decide) rfl wfl_RX4_172 rfl dX4_refusesEvening_31 ?_
    refine J_icmp_ge (tgt := 91) Y dX4_refusesEvening_34 (by decide) ?_ ?_
    · refine J_iconst (v := (0 : Int32)) Y dX4_refusesEvening_91 (by decide) ?_
      exact J_ireturn Y dX4_refusesEvening_92
    · refine J_aload_n Y 1 dX4_refusesEvening_37 rfl rfl ?_
      refine C_get 0 X uw_X1 (cO_sh G _ ho2) rfl (by decide) rfl wfl_RX4_173 rfl dX4_refusesEvening_38 ?_
      refine J_iload_n Y 2 dX4_refusesEvening_41 rfl rfl ?_
      refine C_ald X (cA_sh_0 G _ ho2) dX4_refusesEvening_42 (fun x42 => ?_)
      refine J_istore [(4, .int x42), (0, .ref (gO G 0)), (2, .ref (gO G o2)), (3, .int v3)] Y dX4_refusesEvening_43 (by decide) rfl ?_
      refine J_iload Y 0 dX4_refusesEvening_45 rfl ?_
      refine J_iconst (v := (-1 : Int32)) Y dX4_refusesEvening_47 (by decide) ?_
      refine J_icmp_eq (tgt := 85) Y dX4_refusesEvening_48 (by decide) ?_ ?_
      · refine J_sub [1, 2, 3] rfl ?_
        exact j_X4_refusesEvening_L85 X (fun o2 v3 ho2 σ => ih o2 v3 ho2 σ) o2 v3 ho2 σ
      · refine J_iload Y 0 dX4_refusesEvening_51 rfl ?_
        refine J_if_lt (tgt := 82) Y dX4_refusesEvening_53 (by decide) ?_ ?_
        · refine J_sub [] rfl ?_
          exact j_X4_refusesEvening_L82 X  σ
        · refine J_aload_n Y 1 dX4_refusesEvening_56 rfl rfl ?_
          refine C_get 3 X uw_X4 (cO_0 G _) rfl (by decide) rfl wfl_RX4_58 rfl dX4_refusesEvening_57 ?_
          refine J_iload Y 0 dX4_refusesEvening_60 rfl ?_
          refine J_bipush (v := (10 : Int32)) Y dX4_refusesEvening_62 (by decide) ?_
          refine J_idiv Y dX4_refusesEvening_64 (by decide) ?_
          refine C_cVi (As := [.int (x42 / (10 : Int32))]) (st := []) rfl X (c_X0_has G 2 (x42 / (10 : Int32)) (Or.inl rfl) _) (cO_co G _ (Or.inl rfl)) rfl rfl wi_X0_has win_X0_has wse_X0_has wml_RX4_100 ⟨Nat.le_of_ble_eq_true rfl, Nat.le_of_ble_eq_true rfl⟩ rfl (Nat.le_of_ble_eq_true rfl) dX4_refusesEvening_65 (fun y65 t65 => ?_)
          refine J_if_eq (tgt := 82) Y dX4_refusesEvening_68 (by decide) ?_ ?_
          · refine J_sub [] rfl ?_
            exact j_X4_refusesEvening_L82 X  t65
          · refine J_iload Y 0 dX4_refusesEvening_71 rfl ?_
            refine J_bipush (v := (10 : Int32)) Y dX4_refusesEvening_73 (by decide) ?_
            refine J_irem Y dX4_refusesEvening_75 (by decide) ?_
            refine C_cSi (As := [.int (x42 - x42 / (10 : Int32) * (10 : Int32))]) (st := []) rfl X (c_X4_isSort G (x42 - x42 / (10 : Int32) * (10 : Int32)) _) wi_X4_isSort wst_X4_isSort wml_RX4_103 ⟨Nat.le_of_ble_eq_true rfl, Nat.le_of_ble_eq_true rfl⟩ rfl (Nat.le_of_ble_eq_true rfl) dX4_refusesEvening_76 (fun y76 t76 => ?_)
            refine J_if_ne (tgt := 85) Y dX4_refusesEvening_79 (by decide) ?_ ?_
            · refine J_sub [1, 2, 3] rfl ?_
              exact j_X4_refusesEvening_L85 X (fun o2 v3 ho2 σ => ih o2 v3 ho2 σ) o2 v3 ho2 t76
            · refine J_sub [] rfl ?_
              exact j_X4_refusesEvening_L82 X  t76
set_option maxRecDepth 100000 in
set_option maxHeartbeats 4000000 in
theorem j_X4_refusesEvening {E : JE} {G : JG} (X : JC E 5 cX4_refusesEvening RX4 (some .int) 2 80 G) (v1 : Int32) (σ : ST) : Jg E 5 (JF E vI) [(0, .ref (gO G 0)), (1, .int v1)] 0 [] σ (f_X4_refusesEvening (gT G) v1 σ) := by
  have Y := X.1
  unfold f_X4_refusesEvening
  refine J_iload_n Y 1 dX4_refusesEvening_0 rfl rfl ?_
  refine C_cSi (As := [.int v1]) (st := []) rfl X (c_X4_isSheet G v1 _) wi_X4_isSheet wst_X4_isSheet wml_RX4_223 ⟨Nat.le_of_ble_eq_true rfl, Nat.le_of_ble_eq_true rfl⟩ rfl (Nat.le_of_ble_eq_true rfl) dX4_refusesEvening_1 (fun y1 t1 => ?_)
  refine J_if_ne (tgt := 10) Y dX4_refusesEvening_4 (by decide) ?_ ?_
  · refine J_aload_n Y 0 dX4_refusesEvening_10 rfl rfl ?_
    refine C_get 7 X uw_X4 (cO_0 G _) rfl (by decide) rfl wfl_RX4_71 rfl dX4_refusesEvening_11 ?_
    refine J_iload_n Y 1 dX4_refusesEvening_14 rfl rfl ?_
    refine J_chk (fun h15 => ?_)
    refine C_aalS X h15 dX4_refusesEvening_15 ?_
    refine J_astore_n [(2, .ref (gO G (5 + v1.toNatClampNeg))), (0, .ref (gO G 0)), (1, .int v1)] Y dX4_refusesEvening_16 rfl (by decide) rfl ?_
    refine J_aload_n Y 0 dX4_refusesEvening_17 rfl rfl ?_
    refine C_cVi (As := []) (st := []) rfl X (c_X1_isMissing G (5 + v1.toNatClampNeg) (shI h15) _) (cO_sh G _ (shI h15)) rfl rfl wi_X1_isMissing win_X1_isMissing wse_X1_isMissing wml_RX4_247 ⟨Nat.le_of_ble_eq_true rfl, Nat.le_of_ble_eq_true rfl⟩ rfl (Nat.le_of_ble_eq_true rfl) dX4_refusesEvening_18 (fun y18 t18 => ?_)
    refine J_if_eq (tgt := 27) Y dX4_refusesEvening_21 (by decide) ?_ ?_
    · refine J_iconst (v := (0 : Int32)) Y dX4_refusesEvening_27 (by decide) ?_
      refine J_istore_n [(3, .int (0 : Int32)), (2, .ref (gO G (5 + v1.toNatClampNeg))), (0, .ref (gO G 0)), (1, .int v1)] Y dX4_refusesEvening_28 rfl (by decide) rfl ?_
      refine J_sub [2, 1, 0] rfl ?_
      exact j_X4_refusesEvening_L29 X 1000 (5 + v1.toNatClampNeg) (0 : Int32) (shI h15) t18
    · refine J_bipush (v := (-11 : Int32)) Y dX4_refusesEvening_24 (by decide) ?_
      exact J_ireturn Y dX4_refusesEvening_26
  · refine J_bipush (v := (-2 : Int32)) Y dX4_refusesEvening_7 (by decide) ?_
    exact J_ireturn Y dX4_refusesEvening_9
theorem c_X4_refusesEvening (G : JG) (v1 : Int32) (σ : ST) : Con (VC G) vI G.1 yX4_refusesEvening cX4_refusesEvening 5 (some .int) 2 80 [.ref (gO G 0), .int v1] σ (f_X4_refusesEvening (gT G) v1 σ) :=
  Con_of (VC_ok G) (by decide +kernel) (Nat.le_of_ble_eq_true rfl) (fun E e1 e2 _ X => j_X4_refusesEvening ⟨X, e1, e2⟩ v1 σ)
set_option maxRecDepth 100000 in
set_option maxHeartbeats 4000000 in
theorem j_X4_evening_L159 {E : JE} {G : JG} (X : JC E 13 cX4_evening RX4 (some .int) 6 240 G) {k104 : Int32 → Int32 → Int32 → Nat → Int32 → Int32 → Int32 → Int32 → Int32 → ST → Option (Int32 × ST)} (hk104 : ∀ (v2 : Int32) (v4 : Int32) (v5 : Int32) (o6 : Nat) (v7 : Int32) (v8 : Int32) (v9 : Int32) (v10 : Int32) (v11 : Int32) (ho6 : isSh o6) (σ : ST), Jg E 13 (JF E vI) [(0, .ref (gO G 0)), (2, .int v2), (4, .int v4), (5, .int v5), (6, .ref (gO G o6)), (7, .int v7), (8, .int v8), (9, .int v9), (10, .int v10), (11, .int v11)] 104 [] σ (k104 v2 v4 v5 o6 v7 v8 v9 v10 v11 σ)) (v2 : Int32) (v4 : Int32) (v5 : Int32) (o6 : Nat) (v7 : Int32) (v8 : Int32) (v9 : Int32) (v10 : Int32) (v11 : Int32) (ho6 : isSh o6) (σ : ST) : Jg E 13 (JF E vI) [(0, .ref (gO G 0)), (2, .int v2), (4, .int v4), (5, .int v5), (6, .ref (gO G o6)), (7, .int v7), (8, .int v8), (9, .int v9), (10, .int v10), (11, .int v11)] 159 [] σ (f_X4_evening_L159 (gT G) k104 v2 v4 v5 o6 v7 v8 v9 v10 v11 σ) := by
  have Y := X.1
  unfold f_X4_evening_L159
  refine J_aload_n Y 0 dX4_evening_159 rfl rfl ?_
  refine C_get 4 X uw_X4 (cO_0 G _) rfl (by decide) rfl wfl_RX4_62 rfl dX4_evening_160 ?_
  refine C_get 9 X uw_X0 (cO_co G _ (Or.inr (Or.inl rfl))) rfl (by decide) rfl wfl_RX4_79 rfl dX4_evening_163 ?_
  refine J_aload_n Y 0 dX4_evening_166 rfl rfl ?_
  refine C_get 4 X uw_X4 (cO_0 G _) rfl (by decide) rfl wfl_RX4_62 rfl dX4_evening_167 ?_
  refine C_cVi (As := []) (st := [.int (gs 3 9 σ)]) rfl X (c_X0_howManyHere G 3 (Or.inr (Or.inl rfl)) _) (cO_co G _ (Or.inr (Or.inl rfl))) rfl rfl wi_X0_howManyHere win_X0_howManyHere wse_X0_howManyHere wml_RX4_83 ⟨Nat.le_of_ble_eq_true rfl, Nat.le_of_ble_eq_true rfl⟩ rfl (Nat.le_of_ble_eq_true rfl) dX4_evening_170 (fun y170 t170 => ?_)
  refine J_isub Y dX4_evening_173 ?_
  refine J_istore [(12, .int ((gs 3 9 σ) - y170)), (0, .ref (gO G 0)), (2, .int v2), (4, .int v4), (5, .int v5), (6, .ref (gO G o6)), (7, .int v7), (8, .int v8), (9, .int v9), (10, .int v10), (11, .int v11)] Y dX4_evening_174 (by decide) rfl ?_
  refine J_iload Y 7 dX4_evening_176 rfl ?_
  refine J_iload Y 0 dX4_evening_178 rfl ?_
  refine J_mmax (st := []) Y wml_RX4_179 wst_Lib_Math_max wini_RJ9 wco_Lib_Math_max (Nat.le_of_ble_eq_true rfl) (Nat.le_of_ble_eq_true rfl) dX4_evening_180 ?_
  refine J_istore [(8, .int (mxI v8 ((gs 3 9 σ) - y170))), (12, .int ((gs 3 9 σ) - y170)), (0, .ref (gO G 0)), (2, .int v2), (4, .int v4), (5, .int v5), (6, .ref (gO G o6)), (7, .int v7), (9, .int v9), (10, .int v10), (11, .int v11)] Y dX4_evening_183 (by decide) rfl ?_
  refine J_iload Y 8 dX4_evening_185 rfl ?_
  refine J_iload Y 1 dX4_evening_187 rfl ?_
  refine J_iadd Y dX4_evening_189 ?_
  refine J_istore [(9, .int (v9 + ((gs 3 9 σ) - y170))), (8, .int (mxI v8 ((gs 3 9 σ) - y170))), (12, .int ((gs 3 9 σ) - y170)), (0, .ref (gO G 0)), (2, .int v2), (4, .int v4), (5, .int v5), (6, .ref (gO G o6)), (7, .int v7), (10, .int v10), (11, .int v11)] Y dX4_evening_190 (by decide) rfl ?_
  refine J_aload_n Y 3 dX4_evening_192 rfl rfl ?_
  refine C_get 4 X uw_X4 (cO_0 G _) rfl (by decide) rfl wfl_RX4_62 rfl dX4_evening_193 ?_
  refine C_cVi (As := []) (st := []) rfl X (c_X0_pass G 3 (Or.inr (Or.inl rfl)) _) (cO_co G _ (Or.inr (Or.inl rfl))) rfl rfl wi_X0_pass win_X0_pass wse_X0_pass wml_RX4_155 ⟨Nat.le_of_ble_eq_true rfl, Nat.le_of_ble_eq_true rfl⟩ rfl (Nat.le_of_ble_eq_true rfl) dX4_evening_196 (fun y196 t196 => ?_)
  refine J_pop Y dX4_evening_199 rfl ?_
  refine J_iinc (v := v11 + (1 : Int32)) [(11, .int (v11 + (1 : Int32))), (9, .int (v9 + ((gs 3 9 σ) - y170))), (8, .int (mxI v8 ((gs 3 9 σ) - y170))), (12, .int ((gs 3 9 σ) - y170)), (0, .ref (gO G 0)), (2, .int v2), (4, .int v4), (5, .int v5), (6, .ref (gO G o6)), (7, .int v7), (10, .int v10)] Y 10 dX4_evening_200 rfl (congrArg (fun z => _ + z) (by decide)) (by decide) rfl ?_
  refine J_goto (tgt := 104) Y dX4_evening_203 (by decide) ?_
  refine J_sub [4, 5, 6, 7, 8, 9, 2, 1, 10, 0] rfl ?_
  exact hk104 v2 v4 v5 o6 v7 (mxI v8 ((gs 3 9 σ) - y170)) (v9 + ((gs 3 9 σ) - y170)) v10 (v11 + (1 : Int32)) ho6 t196
set_option maxRecDepth 100000 in
set_option maxHeartbeats 4000000 in
theorem j_X4_evening_L273 {E : JE} {G : JG} (X : JC E 13 cX4_evening RX4 (some .int) 6 240 G) (s0 : Int32) (σ : ST) : Jg E 13 (JF E vI) [] 273 [.int s0] σ (f_X4_evening_L273 (gT G) s0 σ) := by
  have Y := X.1
  unfold f_X4_evening_L273
  exact J_ireturn Y dX4_evening_273
set_option maxRecDepth 100000 in
set_option maxHeartbeats 4000000 in
theorem j_X4_evening_L206 {E : JE} {G : JG} (X : JC E 13 cX4_evening RX4 (some .int) 6 240 G) (v2 : Int32) (v4 : Int32) (v5 : Int32) (v7 : Int32) (v8 : Int32) (v9 : Int32) (v10 : Int32) (σ : ST) : Jg E 13 (JF E vI) [(0, .ref (gO G 0)), (2, .int v2), (4, .int v4), (5, .int v5), (7, .int v7), (8, .int v8), (9, .int v9), (10, .int v10)] 206 [] σ (f_X4_evening_L206 (gT G) v2 v4 v5 v7 v8 v9 v10 σ) := by
  have Y := X.1
  unfold f_X4_evening_L206
  refine J_iload Y 2 dX4_evening_206 rfl ?_
  refine J_if_eq (tgt := 224) Y dX4_evening_208 (by decide) ?_ ?_
  · refine J_iload Y 3 dX4_evening_224 rfl ?_
    refine J_if_eq (tgt := 242) Y dX4_evening_226 (by decide) ?_ ?_
    · refine J_iload_n Y 1 dX4_evening_242 rfl rfl ?_
      refine J_if_ne (tgt := 251) Y dX4_evening_243 (by decide) ?_ ?_
      · refine J_iload_n Y 1 dX4_evening_251 rfl rfl ?_
        refine J_iconst (v := (1 : Int32)) Y dX4_evening_252 (by decide) ?_
        refine J_icmp_ne (tgt := 261) Y dX4_evening_253 (by decide) ?_ ?_
        · refine J_iload_n Y 1 dX4_evening_261 rfl rfl ?_
          refine J_iconst (v := (2 : Int32)) Y dX4_evening_262 (by decide) ?_
          refine J_icmp_ne (tgt := 271) Y dX4_evening_263 (by decide) ?_ ?_
          · refine J_iload Y 7 dX4_evening_271 rfl ?_
            refine J_sub [] rfl ?_
            exact j_X4_evening_L273 X v10 σ
          · refine J_iload Y 6 dX4_evening_266 rfl ?_
            refine J_goto (tgt := 273) Y dX4_evening_268 (by decide) ?_
            refine J_sub [] rfl ?_
            exact j_X4_evening_L273 X v9 σ
        · refine J_iload Y 5 dX4_evening_256 rfl ?_
          refine J_goto (tgt := 273) Y dX4_evening_258 (by decide) ?_
          refine J_sub [] rfl ?_
          exact j_X4_evening_L273 X v8 σ
      · refine J_iload Y 4 dX4_evening_246 rfl ?_
        refine J_goto (tgt := 273) Y dX4_evening_248 (by decide) ?_
        refine J_sub [] rfl ?_
        exact j_X4_evening_L273 X v7 σ
    · refine J_aload_n Y 0 dX4_evening_229 rfl rfl ?_
      refine C_get 4 X uw_X4 (cO_0 G _) rfl (by decide) rfl wfl_RX4_62 rfl dX4_evening_230 ?_
      refine C_get 5 X uw_X0 (cO_co G _ (Or.inr (Or.inl rfl))) rfl (by decide) rfl wfl_RX4_128 rfl dX4_evening_233 ?_
      refine J_iload_n Y 1 dX4_evening_236 rfl rfl ?_
      refine J_bipush (v := (20 : Int32)) Y dX4_evening_237 (by decide) ?_
      refine J_isub Y dX4_evening_239 ?_
      refine C_ald X (cA_co_5 G _ (Or.inr (Or.inl rfl))) dX4_evening_240 (fun x240 => ?_)
      exact J_ireturn Y dX4_evening_241
  · refine J_aload_n Y 0 dX4_evening_211 rfl rfl ?_
    refine C_get 4 X uw_X4 (cO_0 G _) rfl (by decide) rfl wfl_RX4_62 rfl dX4_evening_212 ?_
    refine C_get 4 X uw_X0 (cO_co G _ (Or.inr (Or.inl rfl))) rfl (by decide) rfl wfl_RX4_119 rfl dX4_evening_215 ?_
    refine J_iload_n Y 1 dX4_evening_218 rfl rfl ?_
    refine J_bipush (v := (10 : Int32)) Y dX4_evening_219 (by decide) ?_
    refine J_isub Y dX4_evening_221 ?_
    refine C_ald X (cA_co_4 G _ (Or.inr (Or.inl rfl))) dX4_evening_222 (fun x222 => ?_)
    exact J_ireturn Y dX4_evening_223
set_option maxRecDepth 100000 in
set_option maxHeartbeats 4000000 in
theorem j_X4_evening_L104 {E : JE} {G : JG} (X : JC E 13 cX4_evening RX4 (some .int) 6 240 G) : ∀ (n : Nat) (v2 : Int32) (v4 : Int32) (v5 : Int32) (o6 : Nat) (v7 : Int32) (v8 : Int32) (v9 : Int32) (v10 : Int32) (v11 : Int32) (ho6 : isSh o6) (σ : ST), Jg E 13 (JF E vI) [(0, .ref (gO G 0)), (2, .int v2), (4, .int v4), (5, .int v5), (6, .ref (gO G o6)), (7, .int v7), (8, .int v8), (9, .int v9), (10, .int v10), (11, .int v11)] 104 [] σ (f_X4_evening_L104 (gT G) n v2 v4 v5 o6 v7 v8 v9 v10 v11 σ) := by
  have Y := X.1
  intro n
  induction n with
  | zero => intro v2 v4 v5 o6 v7 v8 v9 v10 v11 ho6 σ; rw [f_X4_evening_L104]; exact J_none
  | succ n ih =>
    intro v2 v4 v5 o6 v7 v8 v9 v10 v11 ho6 σ
    rw [f_X4_evening_L104]
    refine J_iload Y 9 dX4_evening_104 rfl ?_
    refine J_aload Y 4 dX4_evening_106 rfl ?_
    refine C_get 2 X uw_X1 (cO_sh G _ ho6) rfl (by decide) rfl wfl_RX4_172 rfl dX4_evening_108 ?_
    refine J_icmp_ge (tgt := 206) Y dX4_evening_111 (by decide) ?_ ?_
    · refine J_sub [0, 1, 2, 3, 5, 6, 7, 8] rfl ?_
      exact j_X4_evening_L206 X v2 v4 v5 v7 v8 v9 v10 σ
    · refine J_aload_n Y 0 dX4_evening_114 rfl rfl ?_
      refine C_get 4 X uw_X4 (cO_0 G _) rfl (by decide) rfl wfl_RX4_62 rfl dX4_evening_115 ?_
      refine J_aload Y 4 dX4_evening_118 rfl ?_
      refine C_get 0 X uw_X1 (cO_sh G _ ho6) rfl (by decide) rfl wfl_RX4_173 rfl dX4_evening_120 ?_
      refine J_iload Y 9 dX4_evening_123 rfl ?_
      refine C_ald X (cA_sh_0 G _ ho6) dX4_evening_125 (fun x125 => ?_)
      refine C_cVi (As := [.int x125]) (st := []) rfl X (c_X0_tries G 3 x125 (Or.inr (Or.inl rfl)) _) (cO_co G _ (Or.inr (Or.inl rfl))) rfl rfl wi_X0_tries win_X0_tries wse_X0_tries wml_RX4_176 ⟨Nat.le_of_ble_eq_true rfl, Nat.le_of_ble_eq_true rfl⟩ rfl (Nat.le_of_ble_eq_true rfl) dX4_evening_126 (fun y126 t126 => ?_)
      refine J_if_eq (tgt := 138) Y dX4_evening_129 (by decide) ?_ ?_
      · refine J_aload Y 4 dX4_evening_138 rfl ?_
        refine C_get 0 X uw_X1 (cO_sh G _ ho6) rfl (by decide) rfl wfl_RX4_173 rfl dX4_evening_140 ?_
        refine J_iload Y 9 dX4_evening_143 rfl ?_
        refine C_ald X (cA_sh_0 G _ ho6) dX4_evening_145 (fun x145 => ?_)
        refine J_iconst (v := (-1 : Int32)) Y dX4_evening_146 (by decide) ?_
        refine J_icmp_eq (tgt := 159) Y dX4_evening_147 (by decide) ?_ ?_
        · exact j_X4_evening_L159 X (fun v2 v4 v5 o6 v7 v8 v9 v10 v11 ho6 σ => ih v2 v4 v5 o6 v7 v8 v9 v10 v11 ho6 σ) v2 v4 v5 o6 v7 v8 v9 v10 v11 ho6 t126
        · refine J_iload Y 8 dX4_evening_150 rfl ?_
          refine J_if_ge (tgt := 159) Y dX4_evening_152 (by decide) ?_ ?_
          · exact j_X4_evening_L159 X (fun v2 v4 v5 o6 v7 v8 v9 v10 v11 ho6 σ => ih v2 v4 v5 o6 v7 v8 v9 v10 v11 ho6 σ) v2 v4 v5 o6 v7 v8 v9 v10 v11 ho6 t126
          · refine J_iload Y 9 dX4_evening_155 rfl ?_
            refine J_istore [(10, .int v11), (0, .ref (gO G 0)), (2, .int v2), (4, .int v4), (5, .int v5), (6, .ref (gO G o6)), (7, .int v7), (8, .int v8), (9, .int v9), (11, .int v11)] Y dX4_evening_157 (by decide) rfl ?_
            refine J_sub [1, 2, 3, 4, 5, 6, 7, 8, 0, 9] rfl ?_
            exact j_X4_evening_L159 X (fun v2 v4 v5 o6 v7 v8 v9 v10 v11 ho6 σ => ih v2 v4 v5 o6 v7 v8 v9 v10 v11 ho6 σ) v2 v4 v5 o6 v7 v8 v9 v11 v11 ho6 t126
      · refine J_iinc (v := v7 + (1 : Int32)) [(7, .int (v7 + (1 : Int32))), (0, .ref (gO G 0)), (2, .int v2), (4, .int v4), (5, .int v5), (6, .ref (gO G o6)), (8, .int v8), (9, .int v9), (10, .int v10), (11, .int v11)] Y 5 dX4_evening_132 rfl (congrArg (fun z => _ + z) (by decide)) (by decide) rfl ?_
        refine J_goto (tgt := 159) Y dX4_evening_135 (by decide) ?_
        refine J_sub [1, 2, 3, 4, 5, 0, 6, 7, 8, 9] rfl ?_
        exact j_X4_evening_L159 X (fun v2 v4 v5 o6 v7 v8 v9 v10 v11 ho6 σ => ih v2 v4 v5 o6 v7 v8 v9 v10 v11 ho6 σ) v2 v4 v5 o6 (v7 + (1 : Int32)) v8 v9 v10 v11 ho6 t126
set_option maxRecDepth 100000 in
set_option maxHeartbeats 4000000 in
theorem j_X4_evening_L70 {E : JE} {G : JG} (X : JC E 13 cX4_evening RX4 (some .int) 6 240 G) (v1 : Int32) (v2 : Int32) (v4 : Int32) (v5 : Int32) (σ : ST) : Jg E 13 (JF E vI) [(0, .ref (gO G 0)), (1, .int v1), (2, .int v2), (4, .int v4), (5, .int v5)] 70 [] σ (f_X4_evening_L70 (gT G) v1 v2 v4 v5 σ) := by
  have Y := X.1
  unfold f_X4_evening_L70
  refine J_aload_n Y 0 dX4_evening_70 rfl rfl ?_
  refine C_get 7 X uw_X4 (cO_0 G _) rfl (by decide) rfl wfl_RX4_71 rfl dX4_evening_71 ?_
  refine J_iload_n Y 1 dX4_evening_74 rfl rfl ?_
  refine J_chk (fun h75 => ?_)
  refine C_aalS X h75 dX4_evening_75 ?_
  refine J_astore [(6, .ref (gO G (5 + v1.toNatClampNeg))), (0, .ref (gO G 0)), (1, .int v1), (2, .int v2), (4, .int v4), (5, .int v5)] Y dX4_evening_76 (by decide) rfl ?_
  refine J_aload_n Y 1 dX4_evening_78 rfl rfl ?_
  refine C_get 4 X uw_X4 (cO_0 G _) rfl (by decide) rfl wfl_RX4_62 rfl dX4_evening_79 ?_
  refine J_aload_n Y 1 dX4_evening_82 rfl rfl ?_
  refine C_get 3 X uw_X4 (cO_0 G _) rfl (by decide) rfl wfl_RX4_58 rfl dX4_evening_83 ?_
  refine C_cVv (As := [.ref (gO G 2)]) (st := []) rfl X (c_X0_becomes G 3 2 (Or.inr (Or.inl rfl)) (Or.inl rfl) _) (cO_co G _ (Or.inr (Or.inl rfl))) rfl rfl wi_X0_becomes win_X0_becomes wse_X0_becomes wml_RX4_168 ⟨Nat.le_of_ble_eq_true rfl, Nat.le_of_ble_eq_true rfl⟩ rfl (Nat.le_of_ble_eq_true rfl) dX4_evening_86 (fun t86 => ?_)
  refine J_iconst (v := (0 : Int32)) Y dX4_evening_89 (by decide) ?_
  refine J_istore [(7, .int (0 : Int32)), (6, .ref (gO G (5 + v1.toNatClampNeg))), (0, .ref (gO G 0)), (1, .int v1), (2, .int v2), (4, .int v4), (5, .int v5)] Y dX4_evening_90 (by decide) rfl ?_
  refine J_iconst (v := (0 : Int32)) Y dX4_evening_92 (by decide) ?_
  refine J_istore [(8, .int (0 : Int32)), (7, .int (0 : Int32)), (6, .ref (gO G (5 + v1.toNatClampNeg))), (0, .ref (gO G 0)), (1, .int v1), (2, .int v2), (4, .int v4), (5, .int v5)] Y dX4_evening_93 (by decide) rfl ?_
  refine J_iconst (v := (0 : Int32)) Y dX4_evening_95 (by decide) ?_
  refine J_istore [(9, .int (0 : Int32)), (8, .int (0 : Int32)), (7, .int (0 : Int32)), (6, .ref (gO G (5 + v1.toNatClampNeg))), (0, .ref (gO G 0)), (1, .int v1), (2, .int v2), (4, .int v4), (5, .int v5)] Y dX4_evening_96 (by decide) rfl ?_
  refine J_iconst (v := (-1 : Int32)) Y dX4_evening_98 (by decide) ?_
  refine J_istore [(10, .int (-1 : Int32)), (9, .int (0 : Int32)), (8, .int (0 : Int32)), (7, .int (0 : Int32)), (6, .ref (gO G (5 + v1.toNatClampNeg))), (0, .ref (gO G 0)), (1, .int v1), (2, .int v2), (4, .int v4), (5, .int v5)] Y dX4_evening_99 (by decide) rfl ?_
  refine J_iconst (v := (0 : Int32)) Y dX4_evening_101 (by decide) ?_
  refine J_istore [(11, .int (0 : Int32)), (10, .int (-1 : Int32)), (9, .int (0 : Int32)), (8, .int (0 : Int32)), (7, .int (0 : Int32)), (6, .ref (gO G (5 + v1.toNatClampNeg))), (0, .ref (gO G 0)), (1, .int v1), (2, .int v2), (4, .int v4), (5, .int v5)] Y dX4_evening_102 (by decide) rfl ?_
  refine J_sub [6, 8, 9, 10, 5, 4, 3, 2, 1, 0] rfl ?_
  exact j_X4_evening_L104 X 1000 v2 v4 v5 (5 + v1.toNatClampNeg) (0 : Int32) (0 : Int32) (0 : Int32) (-1 : Int32) (0 : Int32) (shI h75) t86
set_option maxRecDepth 100000 in
set_option maxHeartbeats 4000000 in
theorem j_X4_evening {E : JE} {G : JG} (X : JC E 13 cX4_evening RX4 (some .int) 6 240 G) (v1 : Int32) (v2 : Int32) (σ : ST) : Jg E 13 (JF E vI) [(0, .ref (gO G 0)), (1, .int v1), (2, .int v2)] 0 [] σ (f_X4_evening (gT G) v1 v2 σ) := by
  have Y := X.1
  unfold f_X4_evening
  refine J_aload_n Y 0 dX4_evening_0 rfl rfl ?_
  refine J_iload_n Y 1 dX4_evening_1 rfl rfl ?_
  refine C_cVi (As := [.int v1]) (st := []) rfl X (c_X4_refusesEvening G v1 _) (cO_0 G _) rfl rfl wi_X4_refusesEvening win_X4_refusesEvening wse_X4_refusesEvening wml_RX4_165 ⟨Nat.le_of_ble_eq_true rfl, Nat.le_of_ble_eq_true rfl⟩ rfl (Nat.le_of_ble_eq_true rfl) dX4_evening_2 (fun y2 t2 => ?_)
  refine J_istore_n [(3, .int y2), (0, .ref (gO G 0)), (1, .int v1), (2, .int v2)] Y dX4_evening_5 rfl (by decide) rfl ?_
  refine J_iload_n Y 0 dX4_evening_6 rfl rfl ?_
  refine J_if_eq (tgt := 12) Y dX4_evening_7 (by decide) ?_ ?_
  · refine J_iload_n Y 3 dX4_evening_12 rfl rfl ?_
    refine J_bipush (v := (10 : Int32)) Y dX4_evening_13 (by decide) ?_
    refine J_bipush (v := (9 : Int32)) Y dX4_evening_15 (by decide) ?_
    refine J_aload_n Y 1 dX4_evening_17 rfl rfl ?_
    refine C_get 3 X uw_X4 (cO_0 G _) rfl (by decide) rfl wfl_RX4_58 rfl dX4_evening_18 ?_
    refine C_get 9 X uw_X0 (cO_co G _ (Or.inl rfl)) rfl (by decide) rfl wfl_RX4_79 rfl dX4_evening_21 ?_
    refine J_iadd Y dX4_evening_24 ?_
    refine C_cSi (As := [.int v2, .int (10 : Int32), .int ((9 : Int32) + (gs 2 9 t2))]) (st := []) rfl X (c_X4_within G v2 (10 : Int32) ((9 : Int32) + (gs 2 9 t2)) _) wi_X4_within wst_X4_within wml_RX4_89 ⟨Nat.le_of_ble_eq_true rfl, Nat.le_of_ble_eq_true rfl⟩ rfl (Nat.le_of_ble_eq_true rfl) dX4_evening_25 (fun y25 t25 => ?_)
    refine J_istore [(4, .int y25), (3, .int y2), (0, .ref (gO G 0)), (1, .int v1), (2, .int v2)] Y dX4_evening_28 (by decide) rfl ?_
    refine J_iload_n Y 4 dX4_evening_30 rfl rfl ?_
    refine J_bipush (v := (20 : Int32)) Y dX4_evening_31 (by decide) ?_
    refine J_bipush (v := (19 : Int32)) Y dX4_evening_33 (by decide) ?_
    refine J_aload_n Y 2 dX4_evening_35 rfl rfl ?_
    refine C_get 3 X uw_X4 (cO_0 G _) rfl (by decide) rfl wfl_RX4_58 rfl dX4_evening_36 ?_
    refine C_get 9 X uw_X0 (cO_co G _ (Or.inl rfl)) rfl (by decide) rfl wfl_RX4_79 rfl dX4_evening_39 ?_
    refine J_iadd Y dX4_evening_42 ?_
    refine C_cSi (As := [.int v2, .int (20 : Int32), .int ((19 : Int32) + (gs 2 9 t25))]) (st := []) rfl X (c_X4_within G v2 (20 : Int32) ((19 : Int32) + (gs 2 9 t25)) _) wi_X4_within wst_X4_within wml_RX4_89 ⟨Nat.le_of_ble_eq_true rfl, Nat.le_of_ble_eq_true rfl⟩ rfl (Nat.le_of_ble_eq_true rfl) dX4_evening_43 (fun y43 t43 => ?_)
    refine J_istore [(5, .int y43), (4, .int y25), (3, .int y2), (0, .ref (gO G 0)), (1, .int v1), (2, .int v2)] Y dX4_evening_46 (by decide) rfl ?_
    refine J_iload_n Y 5 dX4_evening_48 rfl rfl ?_
    refine J_iconst (v := (0 : Int32)) Y dX4_evening_49 (by decide) ?_
    refine J_iconst (v := (3 : Int32)) Y dX4_evening_50 (by decide) ?_
    refine C_cSi (As := [.int v2, .int (0 : Int32), .int (3 : Int32)]) (st := []) rfl X (c_X4_within G v2 (0 : Int32) (3 : Int32) _) wi_X4_within wst_X4_within wml_RX4_89 ⟨Nat.le_of_ble_eq_true rfl, Nat.le_of_ble_eq_true rfl⟩ rfl (Nat.le_of_ble_eq_true rfl) dX4_evening_51 (fun y51 t51 => ?_)
    refine J_if_ne (tgt := 70) Y dX4_evening_54 (by decide) ?_ ?_
    · refine J_sub [3, 4, 5, 1, 0] rfl ?_
      exact j_X4_evening_L70 X v1 v2 y25 y43 t51
    · refine J_iload Y 1 dX4_evening_57 rfl ?_
      refine J_if_ne (tgt := 70) Y dX4_evening_59 (by decide) ?_ ?_
      · refine J_sub [3, 4, 5, 1, 0] rfl ?_
        exact j_X4_evening_L70 X v1 v2 y25 y43 t51
      · refine J_iload Y 0 dX4_evening_62 rfl ?_
        refine J_if_ne (tgt := 70) Y dX4_evening_64 (by decide) ?_ ?_
        · refine J_sub [3, 4, 5, 1, 0] rfl ?_
          exact j_X4_evening_L70 X v1 v2 y25 y43 t51
        · refine J_bipush (v := (-7 : Int32)) Y dX4_evening_67 (by decide) ?_
          exact J_ireturn Y dX4_evening_69
  · refine J_iload_n Y 0 dX4_evening_10 rfl rfl ?_
    exact J_ireturn Y dX4_evening_11
theorem c_X4_evening (G : JG) (v1 : Int32) (v2 : Int32) (σ : ST) : Con (VC G) vI G.1 yX4_evening cX4_evening 13 (some .int) 6 240 [.ref (gO G 0), .int v1, .int v2] σ (f_X4_evening (gT G) v1 v2 σ) :=
  Con_of (VC_ok G) (by decide +kernel) (Nat.le_of_ble_eq_true rfl) (fun E e1 e2 _ X => j_X4_evening ⟨X, e1, e2⟩ v1 v2 σ)
set_option maxRecDepth 100000 in
set_option maxHeartbeats 4000000 in
theorem j_X4_spend_L75 {E : JE} {G : JG} (X : JC E 6 cX4_spend RX4 (some .int) 6 240 G) {k46 : Nat → Int32 → Int32 → ST → Option (Int32 × ST)} (hk46 : ∀ (o3 : Nat) (v4 : Int32) (v5 : Int32) (ho3 : isSh o3) (σ : ST), Jg E 6 (JF E vI) [(0, .ref (gO G 0)), (3, .ref (gO G o3)), (4, .int v4), (5, .int v5)] 46 [] σ (k46 o3 v4 v5 σ)) (o3 : Nat) (v4 : Int32) (v5 : Int32) (ho3 : isSh o3) (σ : ST) : Jg E 6 (JF E vI) [(0, .ref (gO G 0)), (3, .ref (gO G o3)), (4, .int v4), (5, .int v5)] 75 [] σ (f_X4_spend_L75 (gT G) k46 o3 v4 v5 σ) := by
  have Y := X.1
  unfold f_X4_spend_L75
  refine J_aload_n Y 0 dX4_spend_75 rfl rfl ?_
  refine C_get 3 X uw_X4 (cO_0 G _) rfl (by decide) rfl wfl_RX4_58 rfl dX4_spend_76 ?_
  refine C_cVi (As := []) (st := []) rfl X (c_X0_pass G 2 (Or.inl rfl) _) (cO_co G _ (Or.inl rfl)) rfl rfl wi_X0_pass win_X0_pass wse_X0_pass wml_RX4_155 ⟨Nat.le_of_ble_eq_true rfl, Nat.le_of_ble_eq_true rfl⟩ rfl (Nat.le_of_ble_eq_true rfl) dX4_spend_79 (fun y79 t79 => ?_)
  refine J_pop Y dX4_spend_82 rfl ?_
  refine J_iinc (v := v5 + (1 : Int32)) [(5, .int (v5 + (1 : Int32))), (0, .ref (gO G 0)), (3, .ref (gO G o3)), (4, .int v4)] Y 3 dX4_spend_83 rfl (congrArg (fun z => _ + z) (by decide)) (by decide) rfl ?_
  refine J_goto (tgt := 46) Y dX4_spend_86 (by decide) ?_
  refine J_sub [1, 2, 3, 0] rfl ?_
  exact hk46 o3 v4 (v5 + (1 : Int32)) ho3 t79
set_option maxRecDepth 100000 in
set_option maxHeartbeats 4000000 in
theorem j_X4_spend_L46 {E : JE} {G : JG} (X : JC E 6 cX4_spend RX4 (some .int) 6 240 G) : ∀ (n : Nat) (o3 : Nat) (v4 : Int32) (v5 : Int32) (ho3 : isSh o3) (σ : ST), Jg E 6 (JF E vI) [(0, .ref (gO G 0)), (3, .ref (gO G o3)), (4, .int v4), (5, .int v5)] 46 [] σ (f_X4_spend_L46 (gT G) n o3 v4 v5 σ) := by
  have Y := X.1
  intro n
  induction n with
  | zero => intro o3 v4 v5 ho3 σ; rw [f_X4_spend_L46]; exact J_none
  | succ n ih =>
    intro o3 v4 v5 ho3 σ
    rw [f_X4_spend_L46]
    refine J_iload Y 3 dX4_spend_46 rfl ?_
    refine J_aload_n Y 1 dX4_spend_48 rfl rfl ?_
    refine C_get 2 X uw_X1 (cO_sh G _ ho3) rfl (by decide) rfl wfl_RX4_172 rfl dX4_spend_49 ?_
    refine J_icmp_ge (tgt := 89) Y dX4_spend_52 (by decide) ?_ ?_
    · refine J_iload Y 2 dX4_spend_89 rfl ?_
      exact J_ireturn Y dX4_spend_91
    · refine J_aload_n Y 0 dX4_spend_55 rfl rfl ?_
      refine C_get 3 X uw_X4 (cO_0 G _) rfl (by decide) rfl wfl_RX4_58 rfl dX4_spend_56 ?_
      refine J_aload_n Y 1 dX4_spend_59 rfl rfl ?_
      refine C_get 0 X uw_X1 (cO_sh G _ ho3) rfl (by decide) rfl wfl_RX4_173 rfl dX4_spend_60 ?_
      refine J_iload Y 3 dX4_spend_63 rfl ?_
      refine C_ald X (cA_sh_0 G _ ho3) dX4_spend_65 (fun x65 => ?_)
      refine C_cVi (As := [.int x65]) (st := []) rfl X (c_X0_tries G 2 x65 (Or.inl rfl) _) (cO_co G _ (Or.inl rfl)) rfl rfl wi_X0_tries win_X0_tries wse_X0_tries wml_RX4_176 ⟨Nat.le_of_ble_eq_true rfl, Nat.le_of_ble_eq_true rfl⟩ rfl (Nat.le_of_ble_eq_true rfl) dX4_spend_66 (fun y66 t66 => ?_)
      refine J_if_eq (tgt := 75) Y dX4_spend_69 (by decide) ?_ ?_
      · exact j_X4_spend_L75 X (fun o3 v4 v5 ho3 σ => ih o3 v4 v5 ho3 σ) o3 v4 v5 ho3 t66
      · refine J_iinc (v := v4 + (1 : Int32)) [(4, .int (v4 + (1 : Int32))), (0, .ref (gO G 0)), (3, .ref (gO G o3)), (5, .int v5)] Y 2 dX4_spend_72 rfl (congrArg (fun z => _ + z) (by decide)) (by decide) rfl ?_
        refine J_sub [1, 2, 0, 3] rfl ?_
        exact j_X4_spend_L75 X (fun o3 v4 v5 ho3 σ => ih o3 v4 v5 ho3 σ) o3 (v4 + (1 : Int32)) v5 ho3 t66
set_option maxRecDepth 100000 in
set_option maxHeartbeats 4000000 in
theorem j_X4_spend {E : JE} {G : JG} (X : JC E 6 cX4_spend RX4 (some .int) 6 240 G) (v1 : Int32) (σ : ST) : Jg E 6 (JF E vI) [(0, .ref (gO G 0)), (1, .int v1)] 0 [] σ (f_X4_spend (gT G) v1 σ) := by
  have Y := X.1
  unfold f_X4_spend
  refine J_aload_n Y 0 dX4_spend_0 rfl rfl ?_
  refine J_iload_n Y 1 dX4_spend_1 rfl rfl ?_
  refine C_cVi (As := [.int v1]) (st := []) rfl X (c_X4_refusesEvening G v1 _) (cO_0 G _) rfl rfl wi_X4_refusesEvening win_X4_refusesEvening wse_X4_refusesEvening wml_RX4_165 ⟨Nat.le_of_ble_eq_true rfl, Nat.le_of_ble_eq_true rfl⟩ rfl (Nat.le_of_ble_eq_true rfl) dX4_spend_2 (fun y2 t2 => ?_)
  refine J_istore_n [(2, .int y2), (0, .ref (gO G 0)), (1, .int v1)] Y dX4_spend_5 rfl (by decide) rfl ?_
  refine J_iload_n Y 0 dX4_spend_6 rfl rfl ?_
  refine J_if_eq (tgt := 12) Y dX4_spend_7 (by decide) ?_ ?_
  · refine J_aload_n Y 1 dX4_spend_12 rfl rfl ?_
    refine C_get 7 X uw_X4 (cO_0 G _) rfl (by decide) rfl wfl_RX4_71 rfl dX4_spend_13 ?_
    refine J_iload_n Y 2 dX4_spend_16 rfl rfl ?_
    refine J_chk (fun h17 => ?_)
    refine C_aalS X h17 dX4_spend_17 ?_
    refine J_astore_n [(3, .ref (gO G (5 + v1.toNatClampNeg))), (2, .int y2), (0, .ref (gO G 0)), (1, .int v1)] Y dX4_spend_18 rfl (by decide) rfl ?_
    refine J_aload_n Y 2 dX4_spend_19 rfl rfl ?_
    refine C_get 3 X uw_X4 (cO_0 G _) rfl (by decide) rfl wfl_RX4_58 rfl dX4_spend_20 ?_
    refine C_get 10 X uw_X0 (cO_co G _ (Or.inl rfl)) rfl (by decide) rfl wfl_RX4_80 rfl dX4_spend_23 ?_
    refine J_aload_n Y 0 dX4_spend_26 rfl rfl ?_
    refine C_get 2 X uw_X1 (cO_sh G _ (shI h17)) rfl (by decide) rfl wfl_RX4_172 rfl dX4_spend_27 ?_
    refine J_iadd Y dX4_spend_30 ?_
    refine J_sipush (v := (999 : Int32)) Y dX4_spend_31 (by decide) ?_
    refine J_icmp_le (tgt := 40) Y dX4_spend_34 (by decide) ?_ ?_
    · refine J_iconst (v := (0 : Int32)) Y dX4_spend_40 (by decide) ?_
      refine J_istore [(4, .int (0 : Int32)), (3, .ref (gO G (5 + v1.toNatClampNeg))), (2, .int y2), (0, .ref (gO G 0)), (1, .int v1)] Y dX4_spend_41 (by decide) rfl ?_
      refine J_iconst (v := (0 : Int32)) Y dX4_spend_43 (by decide) ?_
      refine J_istore [(5, .int (0 : Int32)), (4, .int (0 : Int32)), (3, .ref (gO G (5 + v1.toNatClampNeg))), (2, .int y2), (0, .ref (gO G 0)), (1, .int v1)] Y dX4_spend_44 (by decide) rfl ?_
      refine J_sub [4, 2, 1, 0] rfl ?_
      exact j_X4_spend_L46 X 1000 (5 + v1.toNatClampNeg) (0 : Int32) (0 : Int32) (shI h17) t2
    · refine J_bipush (v := (-3 : Int32)) Y dX4_spend_37 (by decide) ?_
      exact J_ireturn Y dX4_spend_39
  · refine J_iload_n Y 0 dX4_spend_10 rfl rfl ?_
    exact J_ireturn Y dX4_spend_11
theorem c_X4_spend (G : JG) (v1 : Int32) (σ : ST) : Con (VC G) vI G.1 yX4_spend cX4_spend 6 (some .int) 6 240 [.ref (gO G 0), .int v1] σ (f_X4_spend (gT G) v1 σ) :=
  Con_of (VC_ok G) (by decide +kernel) (Nat.le_of_ble_eq_true rfl) (fun E e1 e2 _ X => j_X4_spend ⟨X, e1, e2⟩ v1 σ)
set_option maxRecDepth 100000 in
set_option maxHeartbeats 4000000 in
theorem j_X4_fillBest_L117 {E : JE} {G : JG} (X : JC E 8 cX4_fillBest RX4 none 4 160 G) {k22 : Int32 → Int32 → Int32 → ST → Option (Unit × ST)} (hk22 : ∀ (v1 : Int32) (v2 : Int32) (v3 : Int32) (σ : ST), Jg E 8 (JF E vV) [(0, .ref (gO G 0)), (1, .int v1), (2, .int v2), (3, .int v3)] 22 [] σ (k22 v1 v2 v3 σ)) {k66 : Int32 → Int32 → Int32 → Int32 → Int32 → Int32 → ST → Option (Unit × ST)} (hk66 : ∀ (v1 : Int32) (v2 : Int32) (v3 : Int32) (v4 : Int32) (v5 : Int32) (v6 : Int32) (σ : ST), Jg E 8 (JF E vV) [(0, .ref (gO G 0)), (1, .int v1), (2, .int v2), (3, .int v3), (4, .int v4), (5, .int v5), (6, .int v6)] 66 [] σ (k66 v1 v2 v3 v4 v5 v6 σ)) (v1 : Int32) (v2 : Int32) (v3 : Int32) (v4 : Int32) (v5 : Int32) (v6 : Int32) (σ : ST) : Jg E 8 (JF E vV) [(0, .ref (gO G 0)), (1, .int v1), (2, .int v2), (3, .int v3), (4, .int v4), (5, .int v5), (6, .int v6)] 117 [] σ (f_X4_fillBest_L117 (gT G) k22 k66 v1 v2 v3 v4 v5 v6 σ) := by
  have Y := X.1
  unfold f_X4_fillBest_L117
  refine J_iinc (v := v6 + (-1 : Int32)) [(6, .int (v6 + (-1 : Int32))), (0, .ref (gO G 0)), (1, .int v1), (2, .int v2), (3, .int v3), (4, .int v4), (5, .int v5)] Y 6 dX4_fillBest_117 rfl (congrArg (fun z => _ + z) (by decide)) (by decide) rfl ?_
  refine J_goto (tgt := 66) Y dX4_fillBest_120 (by decide) ?_
  refine J_sub [1, 2, 3, 4, 5, 6, 0] rfl ?_
  exact hk66 v1 v2 v3 v4 v5 (v6 + (-1 : Int32)) σ
set_option maxRecDepth 100000 in
set_option maxHeartbeats 4000000 in
theorem j_X4_fillBest_L74 {E : JE} {G : JG} (X : JC E 8 cX4_fillBest RX4 none 4 160 G) {k22 : Int32 → Int32 → Int32 → ST → Option (Unit × ST)} (hk22 : ∀ (v1 : Int32) (v2 : Int32) (v3 : Int32) (σ : ST), Jg E 8 (JF E vV) [(0, .ref (gO G 0)), (1, .int v1), (2, .int v2), (3, .int v3)] 22 [] σ (k22 v1 v2 v3 σ)) {k66 : Int32 → Int32 → Int32 → Int32 → Int32 → Int32 → ST → Option (Unit × ST)} (hk66 : ∀ (v1 : Int32) (v2 : Int32) (v3 : Int32) (v4 : Int32) (v5 : Int32) (v6 : Int32) (σ : ST), Jg E 8 (JF E vV) [(0, .ref (gO G 0)), (1, .int v1), (2, .int v2), (3, .int v3), (4, .int v4), (5, .int v5), (6, .int v6)] 66 [] σ (k66 v1 v2 v3 v4 v5 v6 σ)) : ∀ (n : Nat) (v1 : Int32) (v2 : Int32) (v3 : Int32) (v4 : Int32) (v5 : Int32) (v6 : Int32) (v7 : Int32) (σ : ST), Jg E 8 (JF E vV) [(0, .ref (gO G 0)), (1, .int v1), (2, .int v2), (3, .int v3), (4, .int v4), (5, .int v5), (6, .int v6), (7, .int v7)] 74 [] σ (f_X4_fillBest_L74 (gT G) n k22 k66 v1 v2 v3 v4 v5 v6 v7 σ) := by
  have Y := X.1
  intro n
  induction n with
  | zero => intro v1 v2 v3 v4 v5 v6 v7 σ; rw [f_X4_fillBest_L74]; exact J_none
  | succ n ih =>
    intro v1 v2 v3 v4 v5 v6 v7 σ
    rw [f_X4_fillBest_L74]
    refine J_iload Y 7 dX4_fillBest_74 rfl ?_
    refine J_iload Y 4 dX4_fillBest_76 rfl ?_
    refine J_icmp_lt (tgt := 117) Y dX4_fillBest_78 (by decide) ?_ ?_
    · refine J_sub [0, 1, 2, 3, 4, 5, 6] rfl ?_
      exact j_X4_fillBest_L117 X hk22 hk66 v1 v2 v3 v4 v5 v6 σ
    · refine J_aload_n Y 0 dX4_fillBest_81 rfl rfl ?_
      refine C_get 8 X uw_X4 (cO_0 G _) rfl (by decide) rfl wfl_RX4_75 rfl dX4_fillBest_82 ?_
      refine J_iload Y 7 dX4_fillBest_85 rfl ?_
      refine J_aload_n Y 0 dX4_fillBest_87 rfl rfl ?_
      refine C_get 8 X uw_X4 (cO_0 G _) rfl (by decide) rfl wfl_RX4_75 rfl dX4_fillBest_88 ?_
      refine J_iload Y 7 dX4_fillBest_91 rfl ?_
      refine C_ald X (cA_0_8 G _) dX4_fillBest_93 (fun x93 => ?_)
      refine J_aload_n Y 0 dX4_fillBest_94 rfl rfl ?_
      refine C_get 8 X uw_X4 (cO_0 G _) rfl (by decide) rfl wfl_RX4_75 rfl dX4_fillBest_95 ?_
      refine J_iload Y 7 dX4_fillBest_98 rfl ?_
      refine J_iload Y 4 dX4_fillBest_100 rfl ?_
      refine J_isub Y dX4_fillBest_102 ?_
      refine C_ald X (cA_0_8 G _) dX4_fillBest_103 (fun x103 => ?_)
      refine J_iload Y 5 dX4_fillBest_104 rfl ?_
      refine J_iadd Y dX4_fillBest_106 ?_
      refine J_mmax (st := [.int v7, .ref (gA G 0 8)]) Y wml_RX4_179 wst_Lib_Math_max wini_RJ9 wco_Lib_Math_max (Nat.le_of_ble_eq_true rfl) (Nat.le_of_ble_eq_true rfl) dX4_fillBest_107 ?_
      refine C_ast X (cA_0_8 G _) (cS_0_8 G _) dX4_fillBest_110 (fun t110 => ?_)
      refine J_iinc (v := v7 + (-1 : Int32)) [(7, .int (v7 + (-1 : Int32))), (0, .ref (gO G 0)), (1, .int v1), (2, .int v2), (3, .int v3), (4, .int v4), (5, .int v5), (6, .int v6)] Y 7 dX4_fillBest_111 rfl (congrArg (fun z => _ + z) (by decide)) (by decide) rfl ?_
      refine J_goto (tgt := 74) Y dX4_fillBest_114 (by decide) ?_
      refine J_sub [1, 2, 3, 4, 5, 6, 7, 0] rfl ?_
      exact ih v1 v2 v3 v4 v5 v6 (v7 + (-1 : Int32)) t110
set_option maxRecDepth 100000 in
set_option maxHeartbeats 4000000 in
theorem j_X4_fillBest_L123 {E : JE} {G : JG} (X : JC E 8 cX4_fillBest RX4 none 4 160 G) {k22 : Int32 → Int32 → Int32 → ST → Option (Unit × ST)} (hk22 : ∀ (v1 : Int32) (v2 : Int32) (v3 : Int32) (σ : ST), Jg E 8 (JF E vV) [(0, .ref (gO G 0)), (1, .int v1), (2, .int v2), (3, .int v3)] 22 [] σ (k22 v1 v2 v3 σ)) (v1 : Int32) (v2 : Int32) (v3 : Int32) (σ : ST) : Jg E 8 (JF E vV) [(0, .ref (gO G 0)), (1, .int v1), (2, .int v2), (3, .int v3)] 123 [] σ (f_X4_fillBest_L123 (gT G) k22 v1 v2 v3 σ) := by
  have Y := X.1
  unfold f_X4_fillBest_L123
  refine J_iinc (v := v3 + (1 : Int32)) [(3, .int (v3 + (1 : Int32))), (0, .ref (gO G 0)), (1, .int v1), (2, .int v2)] Y 3 dX4_fillBest_123 rfl (congrArg (fun z => _ + z) (by decide)) (by decide) rfl ?_
  refine J_goto (tgt := 22) Y dX4_fillBest_126 (by decide) ?_
  refine J_sub [1, 2, 3, 0] rfl ?_
  exact hk22 v1 v2 (v3 + (1 : Int32)) σ
set_option maxRecDepth 100000 in
set_option maxHeartbeats 4000000 in
theorem j_X4_fillBest_L66 {E : JE} {G : JG} (X : JC E 8 cX4_fillBest RX4 none 4 160 G) {k22 : Int32 → Int32 → Int32 → ST → Option (Unit × ST)} (hk22 : ∀ (v1 : Int32) (v2 : Int32) (v3 : Int32) (σ : ST), Jg E 8 (JF E vV) [(0, .ref (gO G 0)), (1, .int v1), (2, .int v2), (3, .int v3)] 22 [] σ (k22 v1 v2 v3 σ)) : ∀ (n : Nat) (v1 : Int32) (v2 : Int32) (v3 : Int32) (v4 : Int32) (v5 : Int32) (v6 : Int32) (σ : ST), Jg E 8 (JF E vV) [(0, .ref (gO G 0)), (1, .int v1), (2, .int v2), (3, .int v3), (4, .int v4), (5, .int v5), (6, .int v6)] 66 [] σ (f_X4_fillBest_L66 (gT G) n k22 v1 v2 v3 v4 v5 v6 σ) := by
  have Y := X.1
  intro n
  induction n with
  | zero => intro v1 v2 v3 v4 v5 v6 σ; rw [f_X4_fillBest_L66]; exact J_none
  | succ n ih =>
    intro v1 v2 v3 v4 v5 v6 σ
    rw [f_X4_fillBest_L66]
    refine J_iload Y 6 dX4_fillBest_66 rfl ?_
    refine J_if_le (tgt := 123) Y dX4_fillBest_68 (by decide) ?_ ?_
    · refine J_sub [0, 1, 2, 3] rfl ?_
      exact j_X4_fillBest_L123 X hk22 v1 v2 v3 σ
    · refine J_iload_n Y 2 dX4_fillBest_71 rfl rfl ?_
      refine J_istore [(7, .int v2), (0, .ref (gO G 0)), (1, .int v1), (2, .int v2), (3, .int v3), (4, .int v4), (5, .int v5), (6, .int v6)] Y dX4_fillBest_72 (by decide) rfl ?_
      refine J_sub [1, 2, 3, 4, 5, 6, 7, 0] rfl ?_
      exact j_X4_fillBest_L74 X hk22 (fun v1 v2 v3 v4 v5 v6 σ => ih v1 v2 v3 v4 v5 v6 σ) 1000 v1 v2 v3 v4 v5 v6 v2 σ
set_option maxRecDepth 100000 in
set_option maxHeartbeats 4000000 in
theorem j_X4_fillBest_L22 {E : JE} {G : JG} (X : JC E 8 cX4_fillBest RX4 none 4 160 G) : ∀ (n : Nat) (v1 : Int32) (v2 : Int32) (v3 : Int32) (σ : ST), Jg E 8 (JF E vV) [(0, .ref (gO G 0)), (1, .int v1), (2, .int v2), (3, .int v3)] 22 [] σ (f_X4_fillBest_L22 (gT G) n v1 v2 v3 σ) := by
  have Y := X.1
  intro n
  induction n with
  | zero => intro v1 v2 v3 σ; rw [f_X4_fillBest_L22]; exact J_none
  | succ n ih =>
    intro v1 v2 v3 σ
    rw [f_X4_fillBest_L22]
    refine J_iload_n Y 3 dX4_fillBest_22 rfl rfl ?_
    refine J_bipush (v := (8 : Int32)) Y dX4_fillBest_23 (by decide) ?_
    refine J_icmp_ge (tgt := 129) Y dX4_fillBest_25 (by decide) ?_ ?_
    · exact J_return Y dX4_fillBest_129
    · refine J_aload_n Y 0 dX4_fillBest_28 rfl rfl ?_
      refine C_get 3 X uw_X4 (cO_0 G _) rfl (by decide) rfl wfl_RX4_58 rfl dX4_fillBest_29 ?_
      refine J_iload_n Y 1 dX4_fillBest_32 rfl rfl ?_
      refine J_iload_n Y 3 dX4_fillBest_33 rfl rfl ?_
      refine C_cVi (As := [.int v1, .int v3]) (st := []) rfl X (c_X0_gone G 2 v1 v3 (Or.inl rfl) _) (cO_co G _ (Or.inl rfl)) rfl rfl wi_X0_gone win_X0_gone wse_X0_gone wml_RX4_137 ⟨Nat.le_of_ble_eq_true rfl, Nat.le_of_ble_eq_true rfl⟩ rfl (Nat.le_of_ble_eq_true rfl) dX4_fillBest_34 (fun y34 t34 => ?_)
      refine J_istore [(4, .int y34), (0, .ref (gO G 0)), (1, .int v1), (2, .int v2), (3, .int v3)] Y dX4_fillBest_37 (by decide) rfl ?_
      refine J_aload_n Y 1 dX4_fillBest_39 rfl rfl ?_
      refine C_get 3 X uw_X4 (cO_0 G _) rfl (by decide) rfl wfl_RX4_58 rfl dX4_fillBest_40 ?_
      refine J_iload_n Y 2 dX4_fillBest_43 rfl rfl ?_
      refine J_iload_n Y 4 dX4_fillBest_44 rfl rfl ?_
      refine C_cVi (As := [.int v1, .int v3]) (st := []) rfl X (c_X0_gains G 2 v1 v3 (Or.inl rfl) _) (cO_co G _ (Or.inl rfl)) rfl rfl wi_X0_gains win_X0_gains wse_X0_gains wml_RX4_141 ⟨Nat.le_of_ble_eq_true rfl, Nat.le_of_ble_eq_true rfl⟩ rfl (Nat.le_of_ble_eq_true rfl) dX4_fillBest_45 (fun y45 t45 => ?_)
      refine J_istore [(5, .int y45), (4, .int y34), (0, .ref (gO G 0)), (1, .int v1), (2, .int v2), (3, .int v3)] Y dX4_fillBest_48 (by decide) rfl ?_
      refine J_aload_n Y 2 dX4_fillBest_50 rfl rfl ?_
      refine C_get 3 X uw_X4 (cO_0 G _) rfl (by decide) rfl wfl_RX4_58 rfl dX4_fillBest_51 ?_
      refine C_get 8 X uw_X0 (cO_co G _ (Or.inl rfl)) rfl (by decide) rfl wfl_RX4_116 rfl dX4_fillBest_54 ?_
      refine J_iload_n Y 3 dX4_fillBest_57 rfl rfl ?_
      refine J_bipush (v := (8 : Int32)) Y dX4_fillBest_58 (by decide) ?_
      refine J_imul Y dX4_fillBest_60 ?_
      refine J_iload_n Y 5 dX4_fillBest_61 rfl rfl ?_
      refine J_iadd Y dX4_fillBest_62 ?_
      refine C_ald X (cA_co_8 G _ (Or.inl rfl)) dX4_fillBest_63 (fun x63 => ?_)
      refine J_istore [(6, .int x63), (5, .int y45), (4, .int y34), (0, .ref (gO G 0)), (1, .int v1), (2, .int v2), (3, .int v3)] Y dX4_fillBest_64 (by decide) rfl ?_
      refine J_sub [3, 4, 5, 6, 2, 1, 0] rfl ?_
      exact j_X4_fillBest_L66 X (fun v1 v2 v3 σ => ih v1 v2 v3 σ) 1000 v1 v2 v3 y34 y45 x63 t45
set_option maxRecDepth 100000 in
set_option maxHeartbeats 4000000 in
theorem j_X4_fillBest_L20 {E : JE} {G : JG} (X : JC E 8 cX4_fillBest RX4 none 4 160 G) (v1 : Int32) (v2 : Int32) (σ : ST) : Jg E 8 (JF E vV) [(0, .ref (gO G 0)), (1, .int v1), (2, .int v2)] 20 [] σ (f_X4_fillBest_L20 (gT G) v1 v2 σ) := by
  have Y := X.1
  unfold f_X4_fillBest_L20
  refine J_iconst (v := (0 : Int32)) Y dX4_fillBest_20 (by decide) ?_
  refine J_istore_n [(3, .int (0 : Int32)), (0, .ref (gO G 0)), (1, .int v1), (2, .int v2)] Y dX4_fillBest_21 rfl (by decide) rfl ?_
  refine J_sub [1, 2, 3, 0] rfl ?_
  exact j_X4_fillBest_L22 X 1000 v1 v2 (0 : Int32) σ
set_option maxRecDepth 100000 in
set_option maxHeartbeats 4000000 in
theorem j_X4_fillBest_L2 {E : JE} {G : JG} (X : JC E 8 cX4_fillBest RX4 none 4 160 G) : ∀ (n : Nat) (v1 : Int32) (v2 : Int32) (v3 : Int32) (σ : ST), Jg E 8 (JF E vV) [(0, .ref (gO G 0)), (1, .int v1), (2, .int v2), (3, .int v3)] 2 [] σ (f_X4_fillBest_L2 (gT G) n v1 v2 v3 σ) := by
  have Y := X.1
  intro n
  induction n with
  | zero => intro v1 v2 v3 σ; rw [f_X4_fillBest_L2]; exact J_none
  | succ n ih =>
    intro v1 v2 v3 σ
    rw [f_X4_fillBest_L2]
    refine J_iload_n Y 3 dX4_fillBest_2 rfl rfl ?_
    refine J_iload_n Y 2 dX4_fillBest_3 rfl rfl ?_
    refine J_icmp_gt (tgt := 20) Y dX4_fillBest_4 (by decide) ?_ ?_
    · refine J_sub [0, 1, 2] rfl ?_
      exact j_X4_fillBest_L20 X v1 v2 σ
    · refine J_aload_n Y 0 dX4_fillBest_7 rfl rfl ?_
      refine C_get 8 X uw_X4 (cO_0 G _) rfl (by decide) rfl wfl_RX4_75 rfl dX4_fillBest_8 ?_
      refine J_iload_n Y 3 dX4_fillBest_11 rfl rfl ?_
      refine J_iconst (v := (0 : Int32)) Y dX4_fillBest_12 (by decide) ?_
      refine C_ast X (cA_0_8 G _) (cS_0_8 G _) dX4_fillBest_13 (fun t13 => ?_)
      refine J_iinc (v := v3 + (1 : Int32)) [(3, .int (v3 + (1 : Int32))), (0, .ref (gO G 0)), (1, .int v1), (2, .int v2)] Y 3 dX4_fillBest_14 rfl (congrArg (fun z => _ + z) (by decide)) (by decide) rfl ?_
      refine J_goto (tgt := 2) Y dX4_fillBest_17 (by decide) ?_
      refine J_sub [1, 2, 3, 0] rfl ?_
      exact ih v1 v2 (v3 + (1 : Int32)) t13
set_option maxRecDepth 100000 in
set_option maxHeartbeats 4000000 in
theorem j_X4_fillBest {E : JE} {G : JG} (X : JC E 8 cX4_fillBest RX4 none 4 160 G) (v1 : Int32) (v2 : Int32) (σ : ST) : Jg E 8 (JF E vV) [(0, .ref (gO G 0)), (1, .int v1), (2, .int v2)] 0 [] σ (f_X4_fillBest (gT G) v1 v2 σ) := by
  have Y := X.1
  unfold f_X4_fillBest
  refine J_iconst (v := (0 : Int32)) Y dX4_fillBest_0 (by decide) ?_
  refine J_istore_n [(3, .int (0 : Int32)), (0, .ref (gO G 0)), (1, .int v1), (2, .int v2)] Y dX4_fillBest_1 rfl (by decide) rfl ?_
  refine J_sub [1, 2, 3, 0] rfl ?_
  exact j_X4_fillBest_L2 X 1000 v1 v2 (0 : Int32) σ
theorem c_X4_fillBest (G : JG) (v1 : Int32) (v2 : Int32) (σ : ST) : Con (VC G) vV G.1 yX4_fillBest cX4_fillBest 8 none 4 160 [.ref (gO G 0), .int v1, .int v2] σ (f_X4_fillBest (gT G) v1 v2 σ) :=
  Con_of (VC_ok G) (by decide +kernel) (Nat.le_of_ble_eq_true rfl) (fun E e1 e2 _ X => j_X4_fillBest ⟨X, e1, e2⟩ v1 v2 σ)
set_option maxRecDepth 100000 in
set_option maxHeartbeats 4000000 in
theorem j_X4_plan_L33 {E : JE} {G : JG} (X : JC E 5 cX4_plan RX4 (some .int) 5 200 G) (σ : ST) : Jg E 5 (JF E vI) [] 33 [] σ (f_X4_plan_L33 (gT G) σ) := by
  have Y := X.1
  unfold f_X4_plan_L33
  refine J_bipush (v := (-7 : Int32)) Y dX4_plan_33 (by decide) ?_
  exact J_ireturn Y dX4_plan_35
set_option maxRecDepth 100000 in
set_option maxHeartbeats 4000000 in
theorem j_X4_plan_L84 {E : JE} {G : JG} (X : JC E 5 cX4_plan RX4 (some .int) 5 200 G) (v4 : Int32) (σ : ST) : Jg E 5 (JF E vI) [(4, .int v4)] 84 [] σ (f_X4_plan_L84 (gT G) v4 σ) := by
  have Y := X.1
  unfold f_X4_plan_L84
  refine J_iload Y 0 dX4_plan_84 rfl ?_
  exact J_ireturn Y dX4_plan_86
set_option maxRecDepth 100000 in
set_option maxHeartbeats 4000000 in
theorem j_X4_plan_L56 {E : JE} {G : JG} (X : JC E 5 cX4_plan RX4 (some .int) 5 200 G) : ∀ (n : Nat) (v2 : Int32) (v4 : Int32) (σ : ST), Jg E 5 (JF E vI) [(0, .ref (gO G 0)), (2, .int v2), (4, .int v4)] 56 [] σ (f_X4_plan_L56 (gT G) n v2 v4 σ) := by
  have Y := X.1
  intro n
  induction n with
  | zero => intro v2 v4 σ; rw [f_X4_plan_L56]; exact J_none
  | succ n ih =>
    intro v2 v4 σ
    rw [f_X4_plan_L56]
    refine J_iload Y 2 dX4_plan_56 rfl ?_
    refine J_iload_n Y 1 dX4_plan_58 rfl rfl ?_
    refine J_icmp_ge (tgt := 84) Y dX4_plan_59 (by decide) ?_ ?_
    · refine J_sub [2] rfl ?_
      exact j_X4_plan_L84 X v4 σ
    · refine J_aload_n Y 0 dX4_plan_62 rfl rfl ?_
      refine C_get 8 X uw_X4 (cO_0 G _) rfl (by decide) rfl wfl_RX4_75 rfl dX4_plan_63 ?_
      refine J_iload Y 2 dX4_plan_66 rfl ?_
      refine C_ald X (cA_0_8 G _) dX4_plan_68 (fun x68 => ?_)
      refine J_aload_n Y 0 dX4_plan_69 rfl rfl ?_
      refine C_get 8 X uw_X4 (cO_0 G _) rfl (by decide) rfl wfl_RX4_75 rfl dX4_plan_70 ?_
      refine J_iload_n Y 1 dX4_plan_73 rfl rfl ?_
      refine C_ald X (cA_0_8 G _) dX4_plan_74 (fun x74 => ?_)
      refine J_icmp_eq (tgt := 84) Y dX4_plan_75 (by decide) ?_ ?_
      · refine J_sub [2] rfl ?_
        exact j_X4_plan_L84 X v4 σ
      · refine J_iinc (v := v4 + (1 : Int32)) [(4, .int (v4 + (1 : Int32))), (0, .ref (gO G 0)), (2, .int v2)] Y 2 dX4_plan_78 rfl (congrArg (fun z => _ + z) (by decide)) (by decide) rfl ?_
        refine J_goto (tgt := 56) Y dX4_plan_81 (by decide) ?_
        refine J_sub [1, 2, 0] rfl ?_
        exact ih v2 (v4 + (1 : Int32)) σ
set_option maxRecDepth 100000 in
set_option maxHeartbeats 4000000 in
theorem j_X4_plan {E : JE} {G : JG} (X : JC E 5 cX4_plan RX4 (some .int) 5 200 G) (v1 : Int32) (v2 : Int32) (v3 : Int32) (σ : ST) : Jg E 5 (JF E vI) [(0, .ref (gO G 0)), (1, .int v1), (2, .int v2), (3, .int v3)] 0 [] σ (f_X4_plan (gT G) v1 v2 v3 σ) := by
  have Y := X.1
  unfold f_X4_plan
  refine J_aload_n Y 0 dX4_plan_0 rfl rfl ?_
  refine C_get 3 X uw_X4 (cO_0 G _) rfl (by decide) rfl wfl_RX4_58 rfl dX4_plan_1 ?_
  refine J_iload_n Y 1 dX4_plan_4 rfl rfl ?_
  refine C_cVi (As := [.int v1]) (st := []) rfl X (c_X0_has G 2 v1 (Or.inl rfl) _) (cO_co G _ (Or.inl rfl)) rfl rfl wi_X0_has win_X0_has wse_X0_has wml_RX4_100 ⟨Nat.le_of_ble_eq_true rfl, Nat.le_of_ble_eq_true rfl⟩ rfl (Nat.le_of_ble_eq_true rfl) dX4_plan_5 (fun y5 t5 => ?_)
  refine J_if_ne (tgt := 14) Y dX4_plan_8 (by decide) ?_ ?_
  · refine J_iload_n Y 2 dX4_plan_14 rfl rfl ?_
    refine J_iconst (v := (0 : Int32)) Y dX4_plan_15 (by decide) ?_
    refine J_bipush (v := (60 : Int32)) Y dX4_plan_16 (by decide) ?_
    refine C_cSi (As := [.int v2, .int (0 : Int32), .int (60 : Int32)]) (st := []) rfl X (c_X4_within G v2 (0 : Int32) (60 : Int32) _) wi_X4_within wst_X4_within wml_RX4_89 ⟨Nat.le_of_ble_eq_true rfl, Nat.le_of_ble_eq_true rfl⟩ rfl (Nat.le_of_ble_eq_true rfl) dX4_plan_18 (fun y18 t18 => ?_)
    refine J_if_eq (tgt := 33) Y dX4_plan_21 (by decide) ?_ ?_
    · refine J_sub [] rfl ?_
      exact j_X4_plan_L33 X  t18
    · refine J_iload_n Y 3 dX4_plan_24 rfl rfl ?_
      refine J_iconst (v := (0 : Int32)) Y dX4_plan_25 (by decide) ?_
      refine J_iconst (v := (1 : Int32)) Y dX4_plan_26 (by decide) ?_
      refine C_cSi (As := [.int v3, .int (0 : Int32), .int (1 : Int32)]) (st := []) rfl X (c_X4_within G v3 (0 : Int32) (1 : Int32) _) wi_X4_within wst_X4_within wml_RX4_89 ⟨Nat.le_of_ble_eq_true rfl, Nat.le_of_ble_eq_true rfl⟩ rfl (Nat.le_of_ble_eq_true rfl) dX4_plan_27 (fun y27 t27 => ?_)
      refine J_if_ne (tgt := 36) Y dX4_plan_30 (by decide) ?_ ?_
      · refine J_aload_n Y 0 dX4_plan_36 rfl rfl ?_
        refine J_iload_n Y 1 dX4_plan_37 rfl rfl ?_
        refine J_iload_n Y 2 dX4_plan_38 rfl rfl ?_
        refine C_cVv (As := [.int v1, .int v2]) (st := []) rfl X (c_X4_fillBest G v1 v2 _) (cO_0 G _) rfl rfl wi_X4_fillBest win_X4_fillBest wse_X4_fillBest wml_RX4_184 ⟨Nat.le_of_ble_eq_true rfl, Nat.le_of_ble_eq_true rfl⟩ rfl (Nat.le_of_ble_eq_true rfl) dX4_plan_39 (fun t39 => ?_)
        refine J_iload_n Y 3 dX4_plan_42 rfl rfl ?_
        refine J_if_ne (tgt := 53) Y dX4_plan_43 (by decide) ?_ ?_
        · refine J_iconst (v := (0 : Int32)) Y dX4_plan_53 (by decide) ?_
          refine J_istore [(4, .int (0 : Int32)), (0, .ref (gO G 0)), (1, .int v1), (2, .int v2), (3, .int v3)] Y dX4_plan_54 (by decide) rfl ?_
          refine J_sub [1, 3, 0] rfl ?_
          exact j_X4_plan_L56 X 1000 v2 (0 : Int32) t39
        · refine J_aload_n Y 0 dX4_plan_46 rfl rfl ?_
          refine C_get 8 X uw_X4 (cO_0 G _) rfl (by decide) rfl wfl_RX4_75 rfl dX4_plan_47 ?_
          refine J_iload_n Y 2 dX4_plan_50 rfl rfl ?_
          refine C_ald X (cA_0_8 G _) dX4_plan_51 (fun x51 => ?_)
          exact J_ireturn Y dX4_plan_52
      · refine J_sub [] rfl ?_
        exact j_X4_plan_L33 X  t27
  · refine J_bipush (v := (-5 : Int32)) Y dX4_plan_11 (by decide) ?_
    exact J_ireturn Y dX4_plan_13
theorem c_X4_plan (G : JG) (v1 : Int32) (v2 : Int32) (v3 : Int32) (σ : ST) : Con (VC G) vI G.1 yX4_plan cX4_plan 5 (some .int) 5 200 [.ref (gO G 0), .int v1, .int v2, .int v3] σ (f_X4_plan (gT G) v1 v2 v3 σ) :=
  Con_of (VC_ok G) (by decide +kernel) (Nat.le_of_ble_eq_true rfl) (fun E e1 e2 _ X => j_X4_plan ⟨X, e1, e2⟩ v1 v2 v3 σ)
