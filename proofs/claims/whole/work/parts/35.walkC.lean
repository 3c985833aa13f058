set_option maxRecDepth 100000 in
set_option maxHeartbeats 4000000 in
theorem j_X4_drawn_L29 {E : JE} {G : JG} (X : JC E 5 cX4_drawn RX4 (some .int) 7 280 G) (σ : ST) : Jg E 5 (JF E vI) [] 29 [] σ (f_X4_drawn_L29 (gT G) σ) := by
  have Y := X.1
  unfold f_X4_drawn_L29
  refine J_bipush (v := (-2 : Int32)) Y dX4_drawn_29 (by decide) ?_
  exact J_ireturn Y dX4_drawn_31
set_option maxRecDepth 100000 in
set_option maxHeartbeats 4000000 in
theorem j_X4_drawn_L56 {E : JE} {G : JG} (X : JC E 5 cX4_drawn RX4 (some .int) 7 280 G) (s0 : Int32) (σ : ST) : Jg E 5 (JF E vI) [] 56 [.int s0] σ (f_X4_drawn_L56 (gT G) s0 σ) := by
  have Y := X.1
  unfold f_X4_drawn_L56
  exact J_ireturn Y dX4_drawn_56
set_option maxRecDepth 100000 in
set_option maxHeartbeats 4000000 in
theorem j_X4_drawn {E : JE} {G : JG} (X : JC E 5 cX4_drawn RX4 (some .int) 7 280 G) (v1 : Int32) (v2 : Int32) (v3 : Int32) (σ : ST) : Jg E 5 (JF E vI) [(0, .ref (gO G 0)), (1, .int v1), (2, .int v2), (3, .int v3)] 0 [] σ (f_X4_drawn (gT G) v1 v2 v3 σ) := by
  have Y := X.1
  unfold f_X4_drawn
  refine J_iload_n Y 1 dX4_drawn_0 rfl rfl ?_
  refine J_iconst (v := (0 : Int32)) Y dX4_drawn_1 (by decide) ?_
  refine J_ldc (v := (99999 : Int32)) Y wcn_RX4_231 dX4_drawn_2 ?_
  refine C_cSi (As := [.int v1, .int (0 : Int32), .int (99999 : Int32)]) (st := []) rfl X (c_X4_within G v1 (0 : Int32) (99999 : Int32) _) wi_X4_within wst_X4_within wml_RX4_89 ⟨Nat.le_of_ble_eq_true rfl, Nat.le_of_ble_eq_true rfl⟩ rfl (Nat.le_of_ble_eq_true rfl) dX4_drawn_4 (fun y4 t4 => ?_)
  refine J_if_eq (tgt := 29) Y dX4_drawn_7 (by decide) ?_ ?_
  · refine J_sub [] rfl ?_
    exact j_X4_drawn_L29 X  t4
  · refine J_iload_n Y 2 dX4_drawn_10 rfl rfl ?_
    refine J_iconst (v := (0 : Int32)) Y dX4_drawn_11 (by decide) ?_
    refine J_bipush (v := (60 : Int32)) Y dX4_drawn_12 (by decide) ?_
    refine C_cSi (As := [.int v2, .int (0 : Int32), .int (60 : Int32)]) (st := []) rfl X (c_X4_within G v2 (0 : Int32) (60 : Int32) _) wi_X4_within wst_X4_within wml_RX4_89 ⟨Nat.le_of_ble_eq_true rfl, Nat.le_of_ble_eq_true rfl⟩ rfl (Nat.le_of_ble_eq_true rfl) dX4_drawn_14 (fun y14 t14 => ?_)
    refine J_if_eq (tgt := 29) Y dX4_drawn_17 (by decide) ?_ ?_
    · refine J_sub [] rfl ?_
      exact j_X4_drawn_L29 X  t14
    · refine J_iload_n Y 3 dX4_drawn_20 rfl rfl ?_
      refine J_iconst (v := (0 : Int32)) Y dX4_drawn_21 (by decide) ?_
      refine J_iconst (v := (1 : Int32)) Y dX4_drawn_22 (by decide) ?_
      refine C_cSi (As := [.int v3, .int (0 : Int32), .int (1 : Int32)]) (st := []) rfl X (c_X4_within G v3 (0 : Int32) (1 : Int32) _) wi_X4_within wst_X4_within wml_RX4_89 ⟨Nat.le_of_ble_eq_true rfl, Nat.le_of_ble_eq_true rfl⟩ rfl (Nat.le_of_ble_eq_true rfl) dX4_drawn_23 (fun y23 t23 => ?_)
      refine J_if_ne (tgt := 32) Y dX4_drawn_26 (by decide) ?_ ?_
      · refine J_aload_n Y 0 dX4_drawn_32 rfl rfl ?_
        refine J_iload_n Y 1 dX4_drawn_33 rfl rfl ?_
        refine J_iload_n Y 2 dX4_drawn_34 rfl rfl ?_
        refine C_cVi (As := [.int v1, .int v2]) (st := []) rfl X (c_X4_drawEvening G v1 v2 _) (cO_0 G _) rfl rfl wi_X4_drawEvening win_X4_drawEvening wse_X4_drawEvening wml_RX4_232 ⟨Nat.le_of_ble_eq_true rfl, Nat.le_of_ble_eq_true rfl⟩ rfl (Nat.le_of_ble_eq_true rfl) dX4_drawn_35 (fun y35 t35 => ?_)
        refine J_istore [(4, .int y35), (0, .ref (gO G 0)), (1, .int v1), (2, .int v2), (3, .int v3)] Y dX4_drawn_38 (by decide) rfl ?_
        refine J_iload_n Y 4 dX4_drawn_40 rfl rfl ?_
        refine J_if_ne (tgt := 54) Y dX4_drawn_41 (by decide) ?_ ?_
        · refine J_iload Y 0 dX4_drawn_54 rfl ?_
          refine J_sub [] rfl ?_
          exact j_X4_drawn_L56 X y35 t35
        · refine J_aload_n Y 1 dX4_drawn_44 rfl rfl ?_
          refine C_get 4 X uw_X4 (cO_0 G _) rfl (by decide) rfl wfl_RX4_62 rfl dX4_drawn_45 ?_
          refine C_cVi (As := []) (st := []) rfl X (c_X0_allWit G 3 (Or.inr (Or.inl rfl)) _) (cO_co G _ (Or.inr (Or.inl rfl))) rfl rfl wi_X0_allWit win_X0_allWit wse_X0_allWit wml_RX4_199 ⟨Nat.le_of_ble_eq_true rfl, Nat.le_of_ble_eq_true rfl⟩ rfl (Nat.le_of_ble_eq_true rfl) dX4_drawn_48 (fun y48 t48 => ?_)
          refine J_goto (tgt := 56) Y dX4_drawn_51 (by decide) ?_
          refine J_sub [] rfl ?_
          exact j_X4_drawn_L56 X y48 t48
      · refine J_sub [] rfl ?_
        exact j_X4_drawn_L29 X  t23
theorem c_X4_drawn (G : JG) (v1 : Int32) (v2 : Int32) (v3 : Int32) (σ : ST) : Con (VC G) vI G.1 yX4_drawn cX4_drawn 5 (some .int) 7 280 [.ref (gO G 0), .int v1, .int v2, .int v3] σ (f_X4_drawn (gT G) v1 v2 v3 σ) :=
  Con_of (VC_ok G) (by decide +kernel) (Nat.le_of_ble_eq_true rfl) (fun E e1 e2 _ X => j_X4_drawn ⟨X, e1, e2⟩ v1 v2 v3 σ)
set_option maxRecDepth 100000 in
set_option maxHeartbeats 4000000 in
theorem j_X4_odds_L41 {E : JE} {G : JG} (X : JC E 7 cX4_odds RX4 (some .long) 7 280 G) (σ : ST) : Jg E 7 (JF E vL) [] 41 [] σ (f_X4_odds_L41 (gT G) σ) := by
  have Y := X.1
  unfold f_X4_odds_L41
  refine J_ldc2 (v := (-4611686018427387904 : Int64)) Y wcl_RX4_205 dX4_odds_41 ?_
  exact J_lreturn Y dX4_odds_44
set_option maxRecDepth 100000 in
set_option maxHeartbeats 4000000 in
theorem j_X4_odds_L82 {E : JE} {G : JG} (X : JC E 7 cX4_odds RX4 (some .long) 7 280 G) {k51 : Int32 → Int32 → Int32 → Int32 → Int32 → Int32 → ST → Option (Int64 × ST)} (hk51 : ∀ (v1 : Int32) (v2 : Int32) (v3 : Int32) (v4 : Int32) (v5 : Int32) (v6 : Int32) (σ : ST), Jg E 7 (JF E vL) [(0, .ref (gO G 0)), (1, .int v1), (2, .int v2), (3, .int v3), (4, .int v4), (5, .int v5), (6, .int v6)] 51 [] σ (k51 v1 v2 v3 v4 v5 v6 σ)) (v1 : Int32) (v2 : Int32) (v3 : Int32) (v4 : Int32) (v5 : Int32) (v6 : Int32) (σ : ST) : Jg E 7 (JF E vL) [(0, .ref (gO G 0)), (1, .int v1), (2, .int v2), (3, .int v3), (4, .int v4), (5, .int v5), (6, .int v6)] 82 [] σ (f_X4_odds_L82 (gT G) k51 v1 v2 v3 v4 v5 v6 σ) := by
  have Y := X.1
  unfold f_X4_odds_L82
  refine J_iinc (v := v6 + (1 : Int32)) [(6, .int (v6 + (1 : Int32))), (0, .ref (gO G 0)), (1, .int v1), (2, .int v2), (3, .int v3), (4, .int v4), (5, .int v5)] Y 6 dX4_odds_82 rfl (congrArg (fun z => _ + z) (by decide)) (by decide) rfl ?_
  refine J_goto (tgt := 51) Y dX4_odds_85 (by decide) ?_
  refine J_sub [1, 2, 3, 4, 5, 6, 0] rfl ?_
  exact hk51 v1 v2 v3 v4 v5 (v6 + (1 : Int32)) σ
set_option maxRecDepth 100000 in
set_option maxHeartbeats 4000000 in
theorem j_X4_odds_L88 {E : JE} {G : JG} (X : JC E 7 cX4_odds RX4 (some .long) 7 280 G) (v2 : Int32) (v4 : Int32) (v5 : Int32) (σ : ST) : Jg E 7 (JF E vL) [(2, .int v2), (4, .int v4), (5, .int v5)] 88 [] σ (f_X4_odds_L88 (gT G) v2 v4 v5 σ) := by
  have Y := X.1
  unfold f_X4_odds_L88
  refine J_iload Y 2 dX4_odds_88 rfl ?_
  refine J_iload_n Y 0 dX4_odds_90 rfl rfl ?_
  refine J_iload Y 1 dX4_odds_91 rfl ?_
  refine C_cSl (As := [.int v5, .int v2, .int v4]) (st := []) rfl X (c_X4_lowest G v5 v2 v4 _) wi_X4_lowest wst_X4_lowest wml_RX4_210 ⟨Nat.le_of_ble_eq_true rfl, Nat.le_of_ble_eq_true rfl⟩ rfl (Nat.le_of_ble_eq_true rfl) dX4_odds_93 (fun y93 t93 => ?_)
  exact J_lreturn Y dX4_odds_96
set_option maxRecDepth 100000 in
set_option maxHeartbeats 4000000 in
theorem j_X4_odds_L51 {E : JE} {G : JG} (X : JC E 7 cX4_odds RX4 (some .long) 7 280 G) : ∀ (n : Nat) (v1 : Int32) (v2 : Int32) (v3 : Int32) (v4 : Int32) (v5 : Int32) (v6 : Int32) (σ : ST), Jg E 7 (JF E vL) [(0, .ref (gO G 0)), (1, .int v1), (2, .int v2), (3, .int v3), (4, .int v4), (5, .int v5), (6, .int v6)] 51 [] σ (f_X4_odds_L51 (gT G) n v1 v2 v3 v4 v5 v6 σ) := by
  have Y := X.1
  intro n
  induction n with
  | zero => intro v1 v2 v3 v4 v5 v6 σ; rw [f_X4_odds_L51]; exact J_none
  | succ n ih =>
    intro v1 v2 v3 v4 v5 v6 σ
    rw [f_X4_odds_L51]
    refine J_iload Y 6 dX4_odds_51 rfl ?_
    refine J_iload_n Y 2 dX4_odds_53 rfl rfl ?_
    refine J_icmp_ge (tgt := 88) Y dX4_odds_54 (by decide) ?_ ?_
    · refine J_sub [2, 4, 5] rfl ?_
      exact j_X4_odds_L88 X v2 v4 v5 σ
    · refine J_aload_n Y 0 dX4_odds_57 rfl rfl ?_
      refine J_iload_n Y 1 dX4_odds_58 rfl rfl ?_
      refine J_iload Y 6 dX4_odds_59 rfl ?_
      refine J_iadd Y dX4_odds_61 ?_
      refine J_bipush (v := (20 : Int32)) Y dX4_odds_62 (by decide) ?_
      refine C_cVi (As := [.int (v1 + v6), .int (20 : Int32)]) (st := []) rfl X (c_X4_drawEvening G (v1 + v6) (20 : Int32) _) (cO_0 G _) rfl rfl wi_X4_drawEvening win_X4_drawEvening wse_X4_drawEvening wml_RX4_232 ⟨Nat.le_of_ble_eq_true rfl, Nat.le_of_ble_eq_true rfl⟩ rfl (Nat.le_of_ble_eq_true rfl) dX4_odds_64 (fun y64 t64 => ?_)
      refine J_pop Y dX4_odds_67 rfl ?_
      refine J_aload_n Y 0 dX4_odds_68 rfl rfl ?_
      refine C_get 4 X uw_X4 (cO_0 G _) rfl (by decide) rfl wfl_RX4_62 rfl dX4_odds_69 ?_
      refine C_cVi (As := []) (st := []) rfl X (c_X0_allWit G 3 (Or.inr (Or.inl rfl)) _) (cO_co G _ (Or.inr (Or.inl rfl))) rfl rfl wi_X0_allWit win_X0_allWit wse_X0_allWit wml_RX4_199 ⟨Nat.le_of_ble_eq_true rfl, Nat.le_of_ble_eq_true rfl⟩ rfl (Nat.le_of_ble_eq_true rfl) dX4_odds_72 (fun y72 t72 => ?_)
      refine J_iload_n Y 3 dX4_odds_75 rfl rfl ?_
      refine J_icmp_lt (tgt := 82) Y dX4_odds_76 (by decide) ?_ ?_
      · exact j_X4_odds_L82 X (fun v1 v2 v3 v4 v5 v6 σ => ih v1 v2 v3 v4 v5 v6 σ) v1 v2 v3 v4 v5 v6 t72
      · refine J_iinc (v := v5 + (1 : Int32)) [(5, .int (v5 + (1 : Int32))), (0, .ref (gO G 0)), (1, .int v1), (2, .int v2), (3, .int v3), (4, .int v4), (6, .int v6)] Y 5 dX4_odds_79 rfl (congrArg (fun z => _ + z) (by decide)) (by decide) rfl ?_
        refine J_sub [1, 2, 3, 4, 5, 0, 6] rfl ?_
        exact j_X4_odds_L82 X (fun v1 v2 v3 v4 v5 v6 σ => ih v1 v2 v3 v4 v5 v6 σ) v1 v2 v3 v4 (v5 + (1 : Int32)) v6 t72
set_option maxRecDepth 100000 in
set_option maxHeartbeats 4000000 in
theorem j_X4_odds {E : JE} {G : JG} (X : JC E 7 cX4_odds RX4 (some .long) 7 280 G) (v1 : Int32) (v2 : Int32) (v3 : Int32) (v4 : Int32) (σ : ST) : Jg E 7 (JF E vL) [(0, .ref (gO G 0)), (1, .int v1), (2, .int v2), (3, .int v3), (4, .int v4)] 0 [] σ (f_X4_odds (gT G) v1 v2 v3 v4 σ) := by
  have Y := X.1
  unfold f_X4_odds
  refine J_iload_n Y 1 dX4_odds_0 rfl rfl ?_
  refine J_iconst (v := (0 : Int32)) Y dX4_odds_1 (by decide) ?_
  refine J_ldc (v := (99999 : Int32)) Y wcn_RX4_231 dX4_odds_2 ?_
  refine C_cSi (As := [.int v1, .int (0 : Int32), .int (99999 : Int32)]) (st := []) rfl X (c_X4_within G v1 (0 : Int32) (99999 : Int32) _) wi_X4_within wst_X4_within wml_RX4_89 ⟨Nat.le_of_ble_eq_true rfl, Nat.le_of_ble_eq_true rfl⟩ rfl (Nat.le_of_ble_eq_true rfl) dX4_odds_4 (fun y4 t4 => ?_)
  refine J_if_eq (tgt := 41) Y dX4_odds_7 (by decide) ?_ ?_
  · refine J_sub [] rfl ?_
    exact j_X4_odds_L41 X  t4
  · refine J_iload_n Y 2 dX4_odds_10 rfl rfl ?_
    refine J_iconst (v := (1 : Int32)) Y dX4_odds_11 (by decide) ?_
    refine J_bipush (v := (40 : Int32)) Y dX4_odds_12 (by decide) ?_
    refine C_cSi (As := [.int v2, .int (1 : Int32), .int (40 : Int32)]) (st := []) rfl X (c_X4_within G v2 (1 : Int32) (40 : Int32) _) wi_X4_within wst_X4_within wml_RX4_89 ⟨Nat.le_of_ble_eq_true rfl, Nat.le_of_ble_eq_true rfl⟩ rfl (Nat.le_of_ble_eq_true rfl) dX4_odds_14 (fun y14 t14 => ?_)
    refine J_if_eq (tgt := 41) Y dX4_odds_17 (by decide) ?_ ?_
    · refine J_sub [] rfl ?_
      exact j_X4_odds_L41 X  t14
    · refine J_iload_n Y 3 dX4_odds_20 rfl rfl ?_
      refine J_iconst (v := (0 : Int32)) Y dX4_odds_21 (by decide) ?_
      refine J_sipush (v := (999 : Int32)) Y dX4_odds_22 (by decide) ?_
      refine C_cSi (As := [.int v3, .int (0 : Int32), .int (999 : Int32)]) (st := []) rfl X (c_X4_within G v3 (0 : Int32) (999 : Int32) _) wi_X4_within wst_X4_within wml_RX4_89 ⟨Nat.le_of_ble_eq_true rfl, Nat.le_of_ble_eq_true rfl⟩ rfl (Nat.le_of_ble_eq_true rfl) dX4_odds_25 (fun y25 t25 => ?_)
      refine J_if_eq (tgt := 41) Y dX4_odds_28 (by decide) ?_ ?_
      · refine J_sub [] rfl ?_
        exact j_X4_odds_L41 X  t25
      · refine J_iload Y 4 dX4_odds_31 rfl ?_
        refine J_iconst (v := (0 : Int32)) Y dX4_odds_33 (by decide) ?_
        refine J_iconst (v := (1 : Int32)) Y dX4_odds_34 (by decide) ?_
        refine C_cSi (As := [.int v4, .int (0 : Int32), .int (1 : Int32)]) (st := []) rfl X (c_X4_within G v4 (0 : Int32) (1 : Int32) _) wi_X4_within wst_X4_within wml_RX4_89 ⟨Nat.le_of_ble_eq_true rfl, Nat.le_of_ble_eq_true rfl⟩ rfl (Nat.le_of_ble_eq_true rfl) dX4_odds_35 (fun y35 t35 => ?_)
        refine J_if_ne (tgt := 45) Y dX4_odds_38 (by decide) ?_ ?_
        · refine J_iconst (v := (0 : Int32)) Y dX4_odds_45 (by decide) ?_
          refine J_istore [(5, .int (0 : Int32)), (0, .ref (gO G 0)), (1, .int v1), (2, .int v2), (3, .int v3), (4, .int v4)] Y dX4_odds_46 (by decide) rfl ?_
          refine J_iconst (v := (0 : Int32)) Y dX4_odds_48 (by decide) ?_
          refine J_istore [(6, .int (0 : Int32)), (5, .int (0 : Int32)), (0, .ref (gO G 0)), (1, .int v1), (2, .int v2), (3, .int v3), (4, .int v4)] Y dX4_odds_49 (by decide) rfl ?_
          refine J_sub [2, 3, 4, 5, 6, 1, 0] rfl ?_
          exact j_X4_odds_L51 X 1000 v1 v2 v3 v4 (0 : Int32) (0 : Int32) t35
        · refine J_sub [] rfl ?_
          exact j_X4_odds_L41 X  t35
theorem c_X4_odds (G : JG) (v1 : Int32) (v2 : Int32) (v3 : Int32) (v4 : Int32) (σ : ST) : Con (VC G) vL G.1 yX4_odds cX4_odds 7 (some .long) 7 280 [.ref (gO G 0), .int v1, .int v2, .int v3, .int v4] σ (f_X4_odds (gT G) v1 v2 v3 v4 σ) :=
  Con_of (VC_ok G) (by decide +kernel) (Nat.le_of_ble_eq_true rfl) (fun E e1 e2 _ X => j_X4_odds ⟨X, e1, e2⟩ v1 v2 v3 v4 σ)
set_option maxRecDepth 100000 in
set_option maxHeartbeats 4000000 in
theorem j_X4_image {E : JE} {G : JG} (X : JC E 1 cX4_image RX4 (some .int) 2 80 G) (σ : ST) : Jg E 1 (JF E vI) [(0, .ref (gO G 0))] 0 [] σ (f_X4_image (gT G) σ) := by
  have Y := X.1
  unfold f_X4_image
  refine J_aload_n Y 0 dX4_image_0 rfl rfl ?_
  refine C_get 5 X uw_X4 (cO_0 G _) rfl (by decide) rfl wfl_RX4_65 rfl dX4_image_1 ?_
  refine J_aload_n Y 0 dX4_image_4 rfl rfl ?_
  refine C_get 3 X uw_X4 (cO_0 G _) rfl (by decide) rfl wfl_RX4_58 rfl dX4_image_5 ?_
  refine C_cVv (As := [.ref (gO G 2)]) (st := []) rfl X (c_X0_becomes G 4 2 (Or.inr (Or.inr rfl)) (Or.inl rfl) _) (cO_co G _ (Or.inr (Or.inr rfl))) rfl rfl wi_X0_becomes win_X0_becomes wse_X0_becomes wml_RX4_168 ⟨Nat.le_of_ble_eq_true rfl, Nat.le_of_ble_eq_true rfl⟩ rfl (Nat.le_of_ble_eq_true rfl) dX4_image_8 (fun t8 => ?_)
  refine J_aload_n Y 0 dX4_image_11 rfl rfl ?_
  refine J_iconst (v := (1 : Int32)) Y dX4_image_12 (by decide) ?_
  refine C_put 6 0 (ty := .boolean) X uw_X4 tyX4 tyX4_ok nmX4 (cO_0 G _) rfl (by decide) rfl wfl_RX4_243 rfl (by decide +kernel) (by decide +kernel) (by decide +kernel) (Nat.le_of_ble_eq_true rfl) (cF_0_6 G _ _) dX4_image_13 (fun t13 => ?_)
  refine J_aload_n Y 0 dX4_image_16 rfl rfl ?_
  refine C_get 3 X uw_X4 (cO_0 G _) rfl (by decide) rfl wfl_RX4_58 rfl dX4_image_17 ?_
  refine C_get 9 X uw_X0 (cO_co G _ (Or.inl rfl)) rfl (by decide) rfl wfl_RX4_79 rfl dX4_image_20 ?_
  exact J_ireturn Y dX4_image_23
theorem c_X4_image (G : JG) (σ : ST) : Con (VC G) vI G.1 yX4_image cX4_image 1 (some .int) 2 80 [.ref (gO G 0)] σ (f_X4_image (gT G) σ) :=
  Con_of (VC_ok G) (by decide +kernel) (Nat.le_of_ble_eq_true rfl) (fun E e1 e2 _ X => j_X4_image ⟨X, e1, e2⟩ σ)
set_option maxRecDepth 100000 in
set_option maxHeartbeats 4000000 in
theorem j_X4_back {E : JE} {G : JG} (X : JC E 1 cX4_back RX4 (some .int) 2 80 G) (σ : ST) : Jg E 1 (JF E vI) [(0, .ref (gO G 0))] 0 [] σ (f_X4_back (gT G) σ) := by
  have Y := X.1
  unfold f_X4_back
  refine J_aload_n Y 0 dX4_back_0 rfl rfl ?_
  refine C_get 6 X uw_X4 (cO_0 G _) rfl (by decide) rfl wfl_RX4_243 rfl dX4_back_1 ?_
  refine J_if_ne (tgt := 10) Y dX4_back_4 (by decide) ?_ ?_
  · refine J_aload_n Y 0 dX4_back_10 rfl rfl ?_
    refine C_get 3 X uw_X4 (cO_0 G _) rfl (by decide) rfl wfl_RX4_58 rfl dX4_back_11 ?_
    refine J_aload_n Y 0 dX4_back_14 rfl rfl ?_
    refine C_get 5 X uw_X4 (cO_0 G _) rfl (by decide) rfl wfl_RX4_65 rfl dX4_back_15 ?_
    refine C_cVv (As := [.ref (gO G 4)]) (st := []) rfl X (c_X0_becomes G 2 4 (Or.inl rfl) (Or.inr (Or.inr rfl)) _) (cO_co G _ (Or.inl rfl)) rfl rfl wi_X0_becomes win_X0_becomes wse_X0_becomes wml_RX4_168 ⟨Nat.le_of_ble_eq_true rfl, Nat.le_of_ble_eq_true rfl⟩ rfl (Nat.le_of_ble_eq_true rfl) dX4_back_18 (fun t18 => ?_)
    refine J_aload_n Y 0 dX4_back_21 rfl rfl ?_
    refine C_get 3 X uw_X4 (cO_0 G _) rfl (by decide) rfl wfl_RX4_58 rfl dX4_back_22 ?_
    refine C_get 9 X uw_X0 (cO_co G _ (Or.inl rfl)) rfl (by decide) rfl wfl_RX4_79 rfl dX4_back_25 ?_
    exact J_ireturn Y dX4_back_28
  · refine J_bipush (v := (-3 : Int32)) Y dX4_back_7 (by decide) ?_
    exact J_ireturn Y dX4_back_9
theorem c_X4_back (G : JG) (σ : ST) : Con (VC G) vI G.1 yX4_back cX4_back 1 (some .int) 2 80 [.ref (gO G 0)] σ (f_X4_back (gT G) σ) :=
  Con_of (VC_ok G) (by decide +kernel) (Nat.le_of_ble_eq_true rfl) (fun E e1 e2 _ X => j_X4_back ⟨X, e1, e2⟩ σ)
set_option maxRecDepth 100000 in
set_option maxHeartbeats 4000000 in
theorem j_X4_sheet_L16 {E : JE} {G : JG} (X : JC E 4 cX4_sheet RX4 (some .int) 2 80 G) (σ : ST) : Jg E 4 (JF E vI) [] 16 [] σ (f_X4_sheet_L16 (gT G) σ) := by
  have Y := X.1
  unfold f_X4_sheet_L16
  refine J_bipush (v := (-2 : Int32)) Y dX4_sheet_16 (by decide) ?_
  exact J_ireturn Y dX4_sheet_18
set_option maxRecDepth 100000 in
set_option maxHeartbeats 4000000 in
theorem j_X4_sheet {E : JE} {G : JG} (X : JC E 4 cX4_sheet RX4 (some .int) 2 80 G) (v1 : Int32) (v2 : Int32) (v3 : Int32) (σ : ST) : Jg E 4 (JF E vI) [(0, .ref (gO G 0)), (1, .int v1), (2, .int v2), (3, .int v3)] 0 [] σ (f_X4_sheet (gT G) v1 v2 v3 σ) := by
  have Y := X.1
  unfold f_X4_sheet
  refine J_iload_n Y 1 dX4_sheet_0 rfl rfl ?_
  refine C_cSi (As := [.int v1]) (st := []) rfl X (c_X4_isSheet G v1 _) wi_X4_isSheet wst_X4_isSheet wml_RX4_223 ⟨Nat.le_of_ble_eq_true rfl, Nat.le_of_ble_eq_true rfl⟩ rfl (Nat.le_of_ble_eq_true rfl) dX4_sheet_1 (fun y1 t1 => ?_)
  refine J_if_eq (tgt := 16) Y dX4_sheet_4 (by decide) ?_ ?_
  · refine J_sub [] rfl ?_
    exact j_X4_sheet_L16 X  t1
  · refine J_iload_n Y 2 dX4_sheet_7 rfl rfl ?_
    refine J_iconst (v := (-1 : Int32)) Y dX4_sheet_8 (by decide) ?_
    refine J_iconst (v := (2 : Int32)) Y dX4_sheet_9 (by decide) ?_
    refine C_cSi (As := [.int v2, .int (-1 : Int32), .int (2 : Int32)]) (st := []) rfl X (c_X4_within G v2 (-1 : Int32) (2 : Int32) _) wi_X4_within wst_X4_within wml_RX4_89 ⟨Nat.le_of_ble_eq_true rfl, Nat.le_of_ble_eq_true rfl⟩ rfl (Nat.le_of_ble_eq_true rfl) dX4_sheet_10 (fun y10 t10 => ?_)
    refine J_if_ne (tgt := 19) Y dX4_sheet_13 (by decide) ?_ ?_
    · refine J_iload_n Y 2 dX4_sheet_19 rfl rfl ?_
      refine J_iconst (v := (-1 : Int32)) Y dX4_sheet_20 (by decide) ?_
      refine J_icmp_ne (tgt := 37) Y dX4_sheet_21 (by decide) ?_ ?_
      · refine J_iload_n Y 3 dX4_sheet_37 rfl rfl ?_
        refine J_bipush (v := (40 : Int32)) Y dX4_sheet_38 (by decide) ?_
        refine J_icmp_le (tgt := 46) Y dX4_sheet_40 (by decide) ?_ ?_
        · refine J_iload_n Y 3 dX4_sheet_46 rfl rfl ?_
          refine J_if_ge (tgt := 53) Y dX4_sheet_47 (by decide) ?_ ?_
          · refine J_aload_n Y 0 dX4_sheet_53 rfl rfl ?_
            refine C_get 7 X uw_X4 (cO_0 G _) rfl (by decide) rfl wfl_RX4_71 rfl dX4_sheet_54 ?_
            refine J_iload_n Y 1 dX4_sheet_57 rfl rfl ?_
            refine J_chk (fun h58 => ?_)
            refine C_aalS X h58 dX4_sheet_58 ?_
            refine J_iload_n Y 2 dX4_sheet_59 rfl rfl ?_
            refine J_iload_n Y 3 dX4_sheet_60 rfl rfl ?_
            refine C_cVv (As := [.int v2, .int v3]) (st := []) rfl X (c_X1_becomes G (5 + v1.toNatClampNeg) v2 v3 (shI h58) _) (cO_sh G _ (shI h58)) rfl rfl wi_X1_becomes win_X1_becomes wse_X1_becomes wml_RX4_226 ⟨Nat.le_of_ble_eq_true rfl, Nat.le_of_ble_eq_true rfl⟩ rfl (Nat.le_of_ble_eq_true rfl) dX4_sheet_61 (fun t61 => ?_)
            refine J_iconst (v := (1 : Int32)) Y dX4_sheet_64 (by decide) ?_
            exact J_ireturn Y dX4_sheet_65
          · refine J_bipush (v := (-14 : Int32)) Y dX4_sheet_50 (by decide) ?_
            exact J_ireturn Y dX4_sheet_52
        · refine J_bipush (v := (-2 : Int32)) Y dX4_sheet_43 (by decide) ?_
          exact J_ireturn Y dX4_sheet_45
      · refine J_aload_n Y 0 dX4_sheet_24 rfl rfl ?_
        refine C_get 7 X uw_X4 (cO_0 G _) rfl (by decide) rfl wfl_RX4_71 rfl dX4_sheet_25 ?_
        refine J_iload_n Y 1 dX4_sheet_28 rfl rfl ?_
        refine J_chk (fun h29 => ?_)
        refine C_aalS X h29 dX4_sheet_29 ?_
        refine J_iconst (v := (-1 : Int32)) Y dX4_sheet_30 (by decide) ?_
        refine J_iconst (v := (0 : Int32)) Y dX4_sheet_31 (by decide) ?_
        refine C_cVv (As := [.int (-1 : Int32), .int (0 : Int32)]) (st := []) rfl X (c_X1_becomes G (5 + v1.toNatClampNeg) (-1 : Int32) (0 : Int32) (shI h29) _) (cO_sh G _ (shI h29)) rfl rfl wi_X1_becomes win_X1_becomes wse_X1_becomes wml_RX4_226 ⟨Nat.le_of_ble_eq_true rfl, Nat.le_of_ble_eq_true rfl⟩ rfl (Nat.le_of_ble_eq_true rfl) dX4_sheet_32 (fun t32 => ?_)
        refine J_iconst (v := (1 : Int32)) Y dX4_sheet_35 (by decide) ?_
        exact J_ireturn Y dX4_sheet_36
    · refine J_sub [] rfl ?_
      exact j_X4_sheet_L16 X  t10
theorem c_X4_sheet (G : JG) (v1 : Int32) (v2 : Int32) (v3 : Int32) (σ : ST) : Con (VC G) vI G.1 yX4_sheet cX4_sheet 4 (some .int) 2 80 [.ref (gO G 0), .int v1, .int v2, .int v3] σ (f_X4_sheet (gT G) v1 v2 v3 σ) :=
  Con_of (VC_ok G) (by decide +kernel) (Nat.le_of_ble_eq_true rfl) (fun E e1 e2 _ X => j_X4_sheet ⟨X, e1, e2⟩ v1 v2 v3 σ)
set_option maxRecDepth 100000 in
set_option maxHeartbeats 4000000 in
theorem j_X4_cell {E : JE} {G : JG} (X : JC E 4 cX4_cell RX4 (some .int) 2 80 G) (v1 : Int32) (v2 : Int32) (v3 : Int32) (σ : ST) : Jg E 4 (JF E vI) [(0, .ref (gO G 0)), (1, .int v1), (2, .int v2), (3, .int v3)] 0 [] σ (f_X4_cell (gT G) v1 v2 v3 σ) := by
  have Y := X.1
  unfold f_X4_cell
  refine J_iload_n Y 1 dX4_cell_0 rfl rfl ?_
  refine C_cSi (As := [.int v1]) (st := []) rfl X (c_X4_isSheet G v1 _) wi_X4_isSheet wst_X4_isSheet wml_RX4_223 ⟨Nat.le_of_ble_eq_true rfl, Nat.le_of_ble_eq_true rfl⟩ rfl (Nat.le_of_ble_eq_true rfl) dX4_cell_1 (fun y1 t1 => ?_)
  refine J_if_ne (tgt := 10) Y dX4_cell_4 (by decide) ?_ ?_
  · refine J_aload_n Y 0 dX4_cell_10 rfl rfl ?_
    refine C_get 7 X uw_X4 (cO_0 G _) rfl (by decide) rfl wfl_RX4_71 rfl dX4_cell_11 ?_
    refine J_iload_n Y 1 dX4_cell_14 rfl rfl ?_
    refine J_chk (fun h15 => ?_)
    refine C_aalS X h15 dX4_cell_15 ?_
    refine C_cVi (As := []) (st := []) rfl X (c_X1_isMissing G (5 + v1.toNatClampNeg) (shI h15) _) (cO_sh G _ (shI h15)) rfl rfl wi_X1_isMissing win_X1_isMissing wse_X1_isMissing wml_RX4_247 ⟨Nat.le_of_ble_eq_true rfl, Nat.le_of_ble_eq_true rfl⟩ rfl (Nat.le_of_ble_eq_true rfl) dX4_cell_16 (fun y16 t16 => ?_)
    refine J_if_eq (tgt := 25) Y dX4_cell_19 (by decide) ?_ ?_
    · refine J_aload_n Y 0 dX4_cell_25 rfl rfl ?_
      refine C_get 7 X uw_X4 (cO_0 G _) rfl (by decide) rfl wfl_RX4_71 rfl dX4_cell_26 ?_
      refine J_iload_n Y 1 dX4_cell_29 rfl rfl ?_
      refine J_chk (fun h30 => ?_)
      refine C_aalS X h30 dX4_cell_30 ?_
      refine J_iload_n Y 2 dX4_cell_31 rfl rfl ?_
      refine C_cVi (As := [.int v2]) (st := []) rfl X (c_X1_has G (5 + v1.toNatClampNeg) v2 (shI h30) _) (cO_sh G _ (shI h30)) rfl rfl wi_X1_has win_X1_has wse_X1_has wml_RX4_250 ⟨Nat.le_of_ble_eq_true rfl, Nat.le_of_ble_eq_true rfl⟩ rfl (Nat.le_of_ble_eq_true rfl) dX4_cell_32 (fun y32 t32 => ?_)
      refine J_if_ne (tgt := 41) Y dX4_cell_35 (by decide) ?_ ?_
      · refine J_aload_n Y 0 dX4_cell_41 rfl rfl ?_
        refine C_get 7 X uw_X4 (cO_0 G _) rfl (by decide) rfl wfl_RX4_71 rfl dX4_cell_42 ?_
        refine J_iload_n Y 1 dX4_cell_45 rfl rfl ?_
        refine J_chk (fun h46 => ?_)
        refine C_aalS X h46 dX4_cell_46 ?_
        refine J_iload_n Y 2 dX4_cell_47 rfl rfl ?_
        refine J_iload_n Y 3 dX4_cell_48 rfl rfl ?_
        refine C_cVv (As := [.int v2, .int v3]) (st := []) rfl X (c_X1_write G (5 + v1.toNatClampNeg) v2 v3 (shI h46) _) (cO_sh G _ (shI h46)) rfl rfl wi_X1_write win_X1_write wse_X1_write wml_RX4_228 ⟨Nat.le_of_ble_eq_true rfl, Nat.le_of_ble_eq_true rfl⟩ rfl (Nat.le_of_ble_eq_true rfl) dX4_cell_49 (fun t49 => ?_)
        refine J_iconst (v := (1 : Int32)) Y dX4_cell_52 (by decide) ?_
        exact J_ireturn Y dX4_cell_53
      · refine J_bipush (v := (-12 : Int32)) Y dX4_cell_38 (by decide) ?_
        exact J_ireturn Y dX4_cell_40
    · refine J_bipush (v := (-11 : Int32)) Y dX4_cell_22 (by decide) ?_
      exact J_ireturn Y dX4_cell_24
  · refine J_bipush (v := (-2 : Int32)) Y dX4_cell_7 (by decide) ?_
    exact J_ireturn Y dX4_cell_9
theorem c_X4_cell (G : JG) (v1 : Int32) (v2 : Int32) (v3 : Int32) (σ : ST) : Con (VC G) vI G.1 yX4_cell cX4_cell 4 (some .int) 2 80 [.ref (gO G 0), .int v1, .int v2, .int v3] σ (f_X4_cell (gT G) v1 v2 v3 σ) :=
  Con_of (VC_ok G) (by decide +kernel) (Nat.le_of_ble_eq_true rfl) (fun E e1 e2 _ X => j_X4_cell ⟨X, e1, e2⟩ v1 v2 v3 σ)
set_option maxRecDepth 100000 in
set_option maxHeartbeats 4000000 in
theorem j_X4_copy_L14 {E : JE} {G : JG} (X : JC E 8 cX4_copy RX4 (some .int) 2 80 G) (σ : ST) : Jg E 8 (JF E vI) [] 14 [] σ (f_X4_copy_L14 (gT G) σ) := by
  have Y := X.1
  unfold f_X4_copy_L14
  refine J_bipush (v := (-2 : Int32)) Y dX4_copy_14 (by decide) ?_
  exact J_ireturn Y dX4_copy_16
set_option maxRecDepth 100000 in
set_option maxHeartbeats 4000000 in
theorem j_X4_copy_L49 {E : JE} {G : JG} (X : JC E 8 cX4_copy RX4 (some .int) 2 80 G) (σ : ST) : Jg E 8 (JF E vI) [] 49 [] σ (f_X4_copy_L49 (gT G) σ) := by
  have Y := X.1
  unfold f_X4_copy_L49
  refine J_bipush (v := (-11 : Int32)) Y dX4_copy_49 (by decide) ?_
  exact J_ireturn Y dX4_copy_51
set_option maxRecDepth 100000 in
set_option maxHeartbeats 4000000 in
theorem j_X4_copy_L91 {E : JE} {G : JG} (X : JC E 8 cX4_copy RX4 (some .int) 2 80 G) (σ : ST) : Jg E 8 (JF E vI) [] 91 [] σ (f_X4_copy_L91 (gT G) σ) := by
  have Y := X.1
  unfold f_X4_copy_L91
  refine J_bipush (v := (-12 : Int32)) Y dX4_copy_91 (by decide) ?_
  exact J_ireturn Y dX4_copy_93
set_option maxRecDepth 100000 in
set_option maxHeartbeats 4000000 in
theorem j_X4_copy {E : JE} {G : JG} (X : JC E 8 cX4_copy RX4 (some .int) 2 80 G) (v1 : Int32) (v2 : Int32) (v3 : Int32) (v4 : Int32) (v5 : Int32) (σ : ST) : Jg E 8 (JF E vI) [(0, .ref (gO G 0)), (1, .int v1), (2, .int v2), (3, .int v3), (4, .int v4), (5, .int v5)] 0 [] σ (f_X4_copy (gT G) v1 v2 v3 v4 v5 σ) := by
  have Y := X.1
  unfold f_X4_copy
  refine J_iload_n Y 1 dX4_copy_0 rfl rfl ?_
  refine C_cSi (As := [.int v1]) (st := []) rfl X (c_X4_isSheet G v1 _) wi_X4_isSheet wst_X4_isSheet wml_RX4_223 ⟨Nat.le_of_ble_eq_true rfl, Nat.le_of_ble_eq_true rfl⟩ rfl (Nat.le_of_ble_eq_true rfl) dX4_copy_1 (fun y1 t1 => ?_)
  refine J_if_eq (tgt := 14) Y dX4_copy_4 (by decide) ?_ ?_
  · refine J_sub [] rfl ?_
    exact j_X4_copy_L14 X  t1
  · refine J_iload_n Y 3 dX4_copy_7 rfl rfl ?_
    refine C_cSi (As := [.int v3]) (st := []) rfl X (c_X4_isSheet G v3 _) wi_X4_isSheet wst_X4_isSheet wml_RX4_223 ⟨Nat.le_of_ble_eq_true rfl, Nat.le_of_ble_eq_true rfl⟩ rfl (Nat.le_of_ble_eq_true rfl) dX4_copy_8 (fun y8 t8 => ?_)
    refine J_if_ne (tgt := 17) Y dX4_copy_11 (by decide) ?_ ?_
    · refine J_aload_n Y 0 dX4_copy_17 rfl rfl ?_
      refine C_get 7 X uw_X4 (cO_0 G _) rfl (by decide) rfl wfl_RX4_71 rfl dX4_copy_18 ?_
      refine J_iload_n Y 1 dX4_copy_21 rfl rfl ?_
      refine J_chk (fun h22 => ?_)
      refine C_aalS X h22 dX4_copy_22 ?_
      refine J_astore [(6, .ref (gO G (5 + v1.toNatClampNeg))), (0, .ref (gO G 0)), (1, .int v1), (2, .int v2), (3, .int v3), (4, .int v4), (5, .int v5)] Y dX4_copy_23 (by decide) rfl ?_
      refine J_aload_n Y 1 dX4_copy_25 rfl rfl ?_
      refine C_get 7 X uw_X4 (cO_0 G _) rfl (by decide) rfl wfl_RX4_71 rfl dX4_copy_26 ?_
      refine J_iload_n Y 4 dX4_copy_29 rfl rfl ?_
      refine J_chk (fun h30 => ?_)
      refine C_aalS X h30 dX4_copy_30 ?_
      refine J_astore [(7, .ref (gO G (5 + v3.toNatClampNeg))), (6, .ref (gO G (5 + v1.toNatClampNeg))), (0, .ref (gO G 0)), (1, .int v1), (2, .int v2), (3, .int v3), (4, .int v4), (5, .int v5)] Y dX4_copy_31 (by decide) rfl ?_
      refine J_aload Y 1 dX4_copy_33 rfl ?_
      refine C_cVi (As := []) (st := []) rfl X (c_X1_isMissing G (5 + v1.toNatClampNeg) (shI h22) _) (cO_sh G _ (shI h22)) rfl rfl wi_X1_isMissing win_X1_isMissing wse_X1_isMissing wml_RX4_247 ⟨Nat.le_of_ble_eq_true rfl, Nat.le_of_ble_eq_true rfl⟩ rfl (Nat.le_of_ble_eq_true rfl) dX4_copy_35 (fun y35 t35 => ?_)
      refine J_if_ne (tgt := 49) Y dX4_copy_38 (by decide) ?_ ?_
      · refine J_sub [] rfl ?_
        exact j_X4_copy_L49 X  t35
      · refine J_aload Y 0 dX4_copy_41 rfl ?_
        refine C_cVi (As := []) (st := []) rfl X (c_X1_isMissing G (5 + v3.toNatClampNeg) (shI h30) _) (cO_sh G _ (shI h30)) rfl rfl wi_X1_isMissing win_X1_isMissing wse_X1_isMissing wml_RX4_247 ⟨Nat.le_of_ble_eq_true rfl, Nat.le_of_ble_eq_true rfl⟩ rfl (Nat.le_of_ble_eq_true rfl) dX4_copy_43 (fun y43 t43 => ?_)
        refine J_if_eq (tgt := 52) Y dX4_copy_46 (by decide) ?_ ?_
        · refine J_aload Y 1 dX4_copy_52 rfl ?_
          refine C_get 1 X uw_X1 (cO_sh G _ (shI h22)) rfl (by decide) rfl wfl_RX4_251 rfl dX4_copy_54 ?_
          refine J_aload Y 0 dX4_copy_57 rfl ?_
          refine C_get 1 X uw_X1 (cO_sh G _ (shI h30)) rfl (by decide) rfl wfl_RX4_251 rfl dX4_copy_59 ?_
          refine J_icmp_eq (tgt := 68) Y dX4_copy_62 (by decide) ?_ ?_
          · refine J_aload Y 1 dX4_copy_68 rfl ?_
            refine J_iload_n Y 4 dX4_copy_70 rfl rfl ?_
            refine J_iload Y 7 dX4_copy_71 rfl ?_
            refine C_cVi (As := [.int v2, .int v5]) (st := []) rfl X (c_X1_holds G (5 + v1.toNatClampNeg) v2 v5 (shI h22) _) (cO_sh G _ (shI h22)) rfl rfl wi_X1_holds win_X1_holds wse_X1_holds wml_RX4_254 ⟨Nat.le_of_ble_eq_true rfl, Nat.le_of_ble_eq_true rfl⟩ rfl (Nat.le_of_ble_eq_true rfl) dX4_copy_73 (fun y73 t73 => ?_)
            refine J_if_eq (tgt := 91) Y dX4_copy_76 (by decide) ?_ ?_
            · refine J_sub [] rfl ?_
              exact j_X4_copy_L91 X  t73
            · refine J_aload Y 0 dX4_copy_79 rfl ?_
              refine J_iload Y 6 dX4_copy_81 rfl ?_
              refine J_iload Y 7 dX4_copy_83 rfl ?_
              refine C_cVi (As := [.int v4, .int v5]) (st := []) rfl X (c_X1_holds G (5 + v3.toNatClampNeg) v4 v5 (shI h30) _) (cO_sh G _ (shI h30)) rfl rfl wi_X1_holds win_X1_holds wse_X1_holds wml_RX4_254 ⟨Nat.le_of_ble_eq_true rfl, Nat.le_of_ble_eq_true rfl⟩ rfl (Nat.le_of_ble_eq_true rfl) dX4_copy_85 (fun y85 t85 => ?_)
              refine J_if_ne (tgt := 94) Y dX4_copy_88 (by decide) ?_ ?_
              · refine J_aload Y 1 dX4_copy_94 rfl ?_
                refine C_get 0 X uw_X1 (cO_sh G _ (shI h22)) rfl (by decide) rfl wfl_RX4_173 rfl dX4_copy_96 ?_
                refine J_iload_n Y 4 dX4_copy_99 rfl rfl ?_
                refine J_aload Y 0 dX4_copy_100 rfl ?_
                refine C_get 0 X uw_X1 (cO_sh G _ (shI h30)) rfl (by decide) rfl wfl_RX4_173 rfl dX4_copy_102 ?_
                refine J_iload Y 6 dX4_copy_105 rfl ?_
                refine J_iload Y 7 dX4_copy_107 rfl ?_
                refine C_acp (st := []) X (cA_sh_0 G _ (shI h22)) (cA_sh_0 G _ (shI h30)) (cS_sh_0 G _ (shI h30)) wml_RX4_257 wnat_acp wst_acp wini_RJ10 (Nat.le_of_ble_eq_true rfl) (Nat.le_of_ble_eq_true rfl) dX4_copy_109 (fun t109 => ?_)
                refine J_iload Y 7 dX4_copy_112 rfl ?_
                exact J_ireturn Y dX4_copy_114
              · refine J_sub [] rfl ?_
                exact j_X4_copy_L91 X  t85
          · refine J_bipush (v := (-13 : Int32)) Y dX4_copy_65 (by decide) ?_
            exact J_ireturn Y dX4_copy_67
        · refine J_sub [] rfl ?_
          exact j_X4_copy_L49 X  t43
    · refine J_sub [] rfl ?_
      exact j_X4_copy_L14 X  t8
theorem c_X4_copy (G : JG) (v1 : Int32) (v2 : Int32) (v3 : Int32) (v4 : Int32) (v5 : Int32) (σ : ST) : Con (VC G) vI G.1 yX4_copy cX4_copy 8 (some .int) 2 80 [.ref (gO G 0), .int v1, .int v2, .int v3, .int v4, .int v5] σ (f_X4_copy (gT G) v1 v2 v3 v4 v5 σ) :=
  Con_of (VC_ok G) (by decide +kernel) (Nat.le_of_ble_eq_true rfl) (fun E e1 e2 _ X => j_X4_copy ⟨X, e1, e2⟩ v1 v2 v3 v4 v5 σ)
set_option maxRecDepth 100000 in
set_option maxHeartbeats 4000000 in
theorem j_X4_setBy_L27 {E : JE} {G : JG} (X : JC E 9 cX4_setBy RX4 (some .int) 2 80 G) (σ : ST) : Jg E 9 (JF E vI) [] 27 [] σ (f_X4_setBy_L27 (gT G) σ) := by
  have Y := X.1
  unfold f_X4_setBy_L27
  refine J_bipush (v := (-2 : Int32)) Y dX4_setBy_27 (by decide) ?_
  exact J_ireturn Y dX4_setBy_29
set_option maxRecDepth 100000 in
set_option maxHeartbeats 4000000 in
theorem j_X4_setBy_L104 {E : JE} {G : JG} (X : JC E 9 cX4_setBy RX4 (some .int) 2 80 G) (σ : ST) : Jg E 9 (JF E vI) [] 104 [] σ (f_X4_setBy_L104 (gT G) σ) := by
  have Y := X.1
  unfold f_X4_setBy_L104
  refine J_bipush (v := (-12 : Int32)) Y dX4_setBy_104 (by decide) ?_
  exact J_ireturn Y dX4_setBy_106
set_option maxRecDepth 100000 in
set_option maxHeartbeats 4000000 in
theorem j_X4_setBy_L135 {E : JE} {G : JG} (X : JC E 9 cX4_setBy RX4 (some .int) 2 80 G) {k67 : Int32 → Int32 → Nat → Int32 → Int32 → ST → Option (Int32 × ST)} (hk67 : ∀ (v3 : Int32) (v4 : Int32) (o5 : Nat) (v6 : Int32) (v7 : Int32) (ho5 : isSh o5) (σ : ST), Jg E 9 (JF E vI) [(0, .ref (gO G 0)), (3, .int v3), (4, .int v4), (5, .ref (gO G o5)), (6, .int v6), (7, .int v7)] 67 [] σ (k67 v3 v4 o5 v6 v7 σ)) (v3 : Int32) (v4 : Int32) (o5 : Nat) (v6 : Int32) (v7 : Int32) (ho5 : isSh o5) (σ : ST) : Jg E 9 (JF E vI) [(0, .ref (gO G 0)), (3, .int v3), (4, .int v4), (5, .ref (gO G o5)), (6, .int v6), (7, .int v7)] 135 [] σ (f_X4_setBy_L135 (gT G) k67 v3 v4 o5 v6 v7 σ) := by
  have Y := X.1
  unfold f_X4_setBy_L135
  refine J_iinc (v := v7 + (1 : Int32)) [(7, .int (v7 + (1 : Int32))), (0, .ref (gO G 0)), (3, .int v3), (4, .int v4), (5, .ref (gO G o5)), (6, .int v6)] Y 5 dX4_setBy_135 rfl (congrArg (fun z => _ + z) (by decide)) (by decide) rfl ?_
  refine J_goto (tgt := 67) Y dX4_setBy_138 (by decide) ?_
  refine J_sub [1, 2, 3, 4, 5, 0] rfl ?_
  exact hk67 v3 v4 o5 v6 (v7 + (1 : Int32)) ho5 σ
set_option maxRecDepth 100000 in
set_option maxHeartbeats 4000000 in
theorem j_X4_setBy_L67 {E : JE} {G : JG} (X : JC E 9 cX4_setBy RX4 (some .int) 2 80 G) : ∀ (n : Nat) (v3 : Int32) (v4 : Int32) (o5 : Nat) (v6 : Int32) (v7 : Int32) (ho5 : isSh o5) (σ : ST), Jg E 9 (JF E vI) [(0, .ref (gO G 0)), (3, .int v3), (4, .int v4), (5, .ref (gO G o5)), (6, .int v6), (7, .int v7)] 67 [] σ (f_X4_setBy_L67 (gT G) n v3 v4 o5 v6 v7 σ) := by
  have Y := X.1
  intro n
  induction n with
  | zero => intro v3 v4 o5 v6 v7 ho5 σ; rw [f_X4_setBy_L67]; exact J_none
  | succ n ih =>
    intro v3 v4 o5 v6 v7 ho5 σ
    rw [f_X4_setBy_L67]
    refine J_iload Y 5 dX4_setBy_67 rfl ?_
    refine J_iload Y 2 dX4_setBy_69 rfl ?_
    refine J_icmp_ge (tgt := 141) Y dX4_setBy_71 (by decide) ?_ ?_
    · refine J_iload Y 4 dX4_setBy_141 rfl ?_
      exact J_ireturn Y dX4_setBy_143
    · refine J_iload_n Y 1 dX4_setBy_74 rfl rfl ?_
      refine J_iconst (v := (2 : Int32)) Y dX4_setBy_75 (by decide) ?_
      refine J_iload Y 5 dX4_setBy_76 rfl ?_
      refine J_imul Y dX4_setBy_78 ?_
      refine J_iadd Y dX4_setBy_79 ?_
      refine J_istore [(8, .int (v3 + ((2 : Int32) * v7))), (0, .ref (gO G 0)), (3, .int v3), (4, .int v4), (5, .ref (gO G o5)), (6, .int v6), (7, .int v7)] Y dX4_setBy_80 (by decide) rfl ?_
      refine J_aload Y 4 dX4_setBy_82 rfl ?_
      refine J_iload Y 0 dX4_setBy_84 rfl ?_
      refine C_cVi (As := [.int (v3 + ((2 : Int32) * v7))]) (st := []) rfl X (c_X1_has G o5 (v3 + ((2 : Int32) * v7)) ho5 _) (cO_sh G _ ho5) rfl rfl wi_X1_has win_X1_has wse_X1_has wml_RX4_250 ⟨Nat.le_of_ble_eq_true rfl, Nat.le_of_ble_eq_true rfl⟩ rfl (Nat.le_of_ble_eq_true rfl) dX4_setBy_86 (fun y86 t86 => ?_)
      refine J_if_eq (tgt := 104) Y dX4_setBy_89 (by decide) ?_ ?_
      · refine J_sub [] rfl ?_
        exact j_X4_setBy_L104 X  t86
      · refine J_aload Y 4 dX4_setBy_92 rfl ?_
        refine J_iload Y 0 dX4_setBy_94 rfl ?_
        refine J_iconst (v := (1 : Int32)) Y dX4_setBy_96 (by decide) ?_
        refine J_iadd Y dX4_setBy_97 ?_
        refine C_cVi (As := [.int ((v3 + ((2 : Int32) * v7)) + (1 : Int32))]) (st := []) rfl X (c_X1_has G o5 ((v3 + ((2 : Int32) * v7)) + (1 : Int32)) ho5 _) (cO_sh G _ ho5) rfl rfl wi_X1_has win_X1_has wse_X1_has wml_RX4_250 ⟨Nat.le_of_ble_eq_true rfl, Nat.le_of_ble_eq_true rfl⟩ rfl (Nat.le_of_ble_eq_true rfl) dX4_setBy_98 (fun y98 t98 => ?_)
        refine J_if_ne (tgt := 107) Y dX4_setBy_101 (by decide) ?_ ?_
        · refine J_aload_n Y 1 dX4_setBy_107 rfl rfl ?_
          refine J_aload Y 4 dX4_setBy_108 rfl ?_
          refine C_get 0 X uw_X1 (cO_sh G _ ho5) rfl (by decide) rfl wfl_RX4_173 rfl dX4_setBy_110 ?_
          refine J_iload Y 0 dX4_setBy_113 rfl ?_
          refine C_ald X (cA_sh_0 G _ ho5) dX4_setBy_115 (fun x115 => ?_)
          refine J_aload Y 4 dX4_setBy_116 rfl ?_
          refine C_get 0 X uw_X1 (cO_sh G _ ho5) rfl (by decide) rfl wfl_RX4_173 rfl dX4_setBy_118 ?_
          refine J_iload Y 0 dX4_setBy_121 rfl ?_
          refine J_iconst (v := (1 : Int32)) Y dX4_setBy_123 (by decide) ?_
          refine J_iadd Y dX4_setBy_124 ?_
          refine C_ald X (cA_sh_0 G _ ho5) dX4_setBy_125 (fun x125 => ?_)
          refine C_cVi (As := [.int x115, .int x125]) (st := []) rfl X (c_X4_gentleman G x115 x125 _) (cO_0 G _) rfl rfl wi_X4_gentleman win_X4_gentleman wse_X4_gentleman wml_RX4_263 ⟨Nat.le_of_ble_eq_true rfl, Nat.le_of_ble_eq_true rfl⟩ rfl (Nat.le_of_ble_eq_true rfl) dX4_setBy_126 (fun y126 t126 => ?_)
          refine J_if_lt (tgt := 135) Y dX4_setBy_129 (by decide) ?_ ?_
          · refine J_sub [1, 2, 3, 4, 5, 6] rfl ?_
            exact j_X4_setBy_L135 X (fun v3 v4 o5 v6 v7 ho5 σ => ih v3 v4 o5 v6 v7 ho5 σ) v3 v4 o5 v6 v7 ho5 t126
          · refine J_iinc (v := v6 + (1 : Int32)) [(6, .int (v6 + (1 : Int32))), (8, .int (v3 + ((2 : Int32) * v7))), (0, .ref (gO G 0)), (3, .int v3), (4, .int v4), (5, .ref (gO G o5)), (7, .int v7)] Y 5 dX4_setBy_132 rfl (congrArg (fun z => _ + z) (by decide)) (by decide) rfl ?_
            refine J_sub [2, 3, 4, 5, 0, 6] rfl ?_
            exact j_X4_setBy_L135 X (fun v3 v4 o5 v6 v7 ho5 σ => ih v3 v4 o5 v6 v7 ho5 σ) v3 v4 o5 (v6 + (1 : Int32)) v7 ho5 t126
        · refine J_sub [] rfl ?_
          exact j_X4_setBy_L104 X  t98
set_option maxRecDepth 100000 in
set_option maxHeartbeats 4000000 in
theorem j_X4_setBy {E : JE} {G : JG} (X : JC E 9 cX4_setBy RX4 (some .int) 2 80 G) (v1 : Int32) (v2 : Int32) (v3 : Int32) (v4 : Int32) (σ : ST) : Jg E 9 (JF E vI) [(0, .ref (gO G 0)), (1, .int v1), (2, .int v2), (3, .int v3), (4, .int v4)] 0 [] σ (f_X4_setBy (gT G) v1 v2 v3 v4 σ) := by
  have Y := X.1
  unfold f_X4_setBy
  refine J_iload_n Y 1 dX4_setBy_0 rfl rfl ?_
  refine C_cSi (As := [.int v1]) (st := []) rfl X (c_X4_isSheet G v1 _) wi_X4_isSheet wst_X4_isSheet wml_RX4_223 ⟨Nat.le_of_ble_eq_true rfl, Nat.le_of_ble_eq_true rfl⟩ rfl (Nat.le_of_ble_eq_true rfl) dX4_setBy_1 (fun y1 t1 => ?_)
  refine J_if_eq (tgt := 27) Y dX4_setBy_4 (by decide) ?_ ?_
  · refine J_sub [] rfl ?_
    exact j_X4_setBy_L27 X  t1
  · refine J_iload_n Y 2 dX4_setBy_7 rfl rfl ?_
    refine J_iconst (v := (0 : Int32)) Y dX4_setBy_8 (by decide) ?_
    refine J_iconst (v := (2 : Int32)) Y dX4_setBy_9 (by decide) ?_
    refine C_cSi (As := [.int v2, .int (0 : Int32), .int (2 : Int32)]) (st := []) rfl X (c_X4_within G v2 (0 : Int32) (2 : Int32) _) wi_X4_within wst_X4_within wml_RX4_89 ⟨Nat.le_of_ble_eq_true rfl, Nat.le_of_ble_eq_true rfl⟩ rfl (Nat.le_of_ble_eq_true rfl) dX4_setBy_10 (fun y10 t10 => ?_)
    refine J_if_eq (tgt := 27) Y dX4_setBy_13 (by decide) ?_ ?_
    · refine J_sub [] rfl ?_
      exact j_X4_setBy_L27 X  t10
    · refine J_iload Y 4 dX4_setBy_16 rfl ?_
      refine J_iconst (v := (0 : Int32)) Y dX4_setBy_18 (by decide) ?_
      refine J_bipush (v := (6 : Int32)) Y dX4_setBy_19 (by decide) ?_
      refine C_cSi (As := [.int v4, .int (0 : Int32), .int (6 : Int32)]) (st := []) rfl X (c_X4_within G v4 (0 : Int32) (6 : Int32) _) wi_X4_within wst_X4_within wml_RX4_89 ⟨Nat.le_of_ble_eq_true rfl, Nat.le_of_ble_eq_true rfl⟩ rfl (Nat.le_of_ble_eq_true rfl) dX4_setBy_21 (fun y21 t21 => ?_)
      refine J_if_ne (tgt := 30) Y dX4_setBy_24 (by decide) ?_ ?_
      · refine J_aload_n Y 0 dX4_setBy_30 rfl rfl ?_
        refine C_get 7 X uw_X4 (cO_0 G _) rfl (by decide) rfl wfl_RX4_71 rfl dX4_setBy_31 ?_
        refine J_iload_n Y 1 dX4_setBy_34 rfl rfl ?_
        refine J_chk (fun h35 => ?_)
        refine C_aalS X h35 dX4_setBy_35 ?_
        refine J_astore [(5, .ref (gO G (5 + v1.toNatClampNeg))), (0, .ref (gO G 0)), (1, .int v1), (2, .int v2), (3, .int v3), (4, .int v4)] Y dX4_setBy_36 (by decide) rfl ?_
        refine J_aload Y 0 dX4_setBy_38 rfl ?_
        refine C_cVi (As := []) (st := []) rfl X (c_X1_isMissing G (5 + v1.toNatClampNeg) (shI h35) _) (cO_sh G _ (shI h35)) rfl rfl wi_X1_isMissing win_X1_isMissing wse_X1_isMissing wml_RX4_247 ⟨Nat.le_of_ble_eq_true rfl, Nat.le_of_ble_eq_true rfl⟩ rfl (Nat.le_of_ble_eq_true rfl) dX4_setBy_40 (fun y40 t40 => ?_)
        refine J_if_eq (tgt := 49) Y dX4_setBy_43 (by decide) ?_ ?_
        · refine J_aload Y 0 dX4_setBy_49 rfl ?_
          refine C_get 1 X uw_X1 (cO_sh G _ (shI h35)) rfl (by decide) rfl wfl_RX4_251 rfl dX4_setBy_51 ?_
          refine J_iload_n Y 3 dX4_setBy_54 rfl rfl ?_
          refine J_icmp_eq (tgt := 61) Y dX4_setBy_55 (by decide) ?_ ?_
          · refine J_iconst (v := (0 : Int32)) Y dX4_setBy_61 (by decide) ?_
            refine J_istore [(6, .int (0 : Int32)), (5, .ref (gO G (5 + v1.toNatClampNeg))), (0, .ref (gO G 0)), (1, .int v1), (2, .int v2), (3, .int v3), (4, .int v4)] Y dX4_setBy_62 (by decide) rfl ?_
            refine J_iconst (v := (0 : Int32)) Y dX4_setBy_64 (by decide) ?_
            refine J_istore [(7, .int (0 : Int32)), (6, .int (0 : Int32)), (5, .ref (gO G (5 + v1.toNatClampNeg))), (0, .ref (gO G 0)), (1, .int v1), (2, .int v2), (3, .int v3), (4, .int v4)] Y dX4_setBy_65 (by decide) rfl ?_
            refine J_sub [3, 6, 7, 2, 1, 0] rfl ?_
            exact j_X4_setBy_L67 X 1000 v3 v4 (5 + v1.toNatClampNeg) (0 : Int32) (0 : Int32) (shI h35) t40
          · refine J_bipush (v := (-13 : Int32)) Y dX4_setBy_58 (by decide) ?_
            exact J_ireturn Y dX4_setBy_60
        · refine J_bipush (v := (-11 : Int32)) Y dX4_setBy_46 (by decide) ?_
          exact J_ireturn Y dX4_setBy_48
      · refine J_sub [] rfl ?_
        exact j_X4_setBy_L27 X  t21
theorem c_X4_setBy (G : JG) (v1 : Int32) (v2 : Int32) (v3 : Int32) (v4 : Int32) (σ : ST) : Con (VC G) vI G.1 yX4_setBy cX4_setBy 9 (some .int) 2 80 [.ref (gO G 0), .int v1, .int v2, .int v3, .int v4] σ (f_X4_setBy (gT G) v1 v2 v3 v4 σ) :=
  Con_of (VC_ok G) (by decide +kernel) (Nat.le_of_ble_eq_true rfl) (fun E e1 e2 _ X => j_X4_setBy ⟨X, e1, e2⟩ v1 v2 v3 v4 σ)
set_option maxRecDepth 100000 in
set_option maxHeartbeats 4000000 in
theorem j_X4_isA_L34 {E : JE} {G : JG} (X : JC E 2 cX4_isA RX4 (some .boolean) 0 0 G) (s0 : Int32) (σ : ST) : Jg E 2 (JF E vI) [] 34 [.int s0] σ (f_X4_isA_L34 (gT G) s0 σ) := by
  have Y := X.1
  unfold f_X4_isA_L34
  exact J_zreturn Y dX4_isA_34
set_option maxRecDepth 100000 in
set_option maxHeartbeats 4000000 in
theorem j_X4_isA_L29 {E : JE} {G : JG} (X : JC E 2 cX4_isA RX4 (some .boolean) 0 0 G) (σ : ST) : Jg E 2 (JF E vI) [] 29 [] σ (f_X4_isA_L29 (gT G) σ) := by
  have Y := X.1
  unfold f_X4_isA_L29
  refine J_iconst (v := (1 : Int32)) Y dX4_isA_29 (by decide) ?_
  refine J_goto (tgt := 34) Y dX4_isA_30 (by decide) ?_
  exact j_X4_isA_L34 X (1 : Int32) σ
set_option maxRecDepth 100000 in
set_option maxHeartbeats 4000000 in
theorem j_X4_isA_L33 {E : JE} {G : JG} (X : JC E 2 cX4_isA RX4 (some .boolean) 0 0 G) (σ : ST) : Jg E 2 (JF E vI) [] 33 [] σ (f_X4_isA_L33 (gT G) σ) := by
  have Y := X.1
  unfold f_X4_isA_L33
  refine J_iconst (v := (0 : Int32)) Y dX4_isA_33 (by decide) ?_
  exact j_X4_isA_L34 X (0 : Int32) σ
set_option maxRecDepth 100000 in
set_option maxHeartbeats 4000000 in
theorem j_X4_isA_L19 {E : JE} {G : JG} (X : JC E 2 cX4_isA RX4 (some .boolean) 0 0 G) (v0 : Int32) (v1 : Int32) (σ : ST) : Jg E 2 (JF E vI) [(0, .int v0), (1, .int v1)] 19 [] σ (f_X4_isA_L19 (gT G) v0 v1 σ) := by
  have Y := X.1
  unfold f_X4_isA_L19
  refine J_iload_n Y 0 dX4_isA_19 rfl rfl ?_
  refine J_iconst (v := (4 : Int32)) Y dX4_isA_20 (by decide) ?_
  refine J_icmp_ne (tgt := 33) Y dX4_isA_21 (by decide) ?_ ?_
  · refine J_sub [] rfl ?_
    exact j_X4_isA_L33 X  σ
  · refine J_iload_n Y 1 dX4_isA_24 rfl rfl ?_
    refine J_iconst (v := (2 : Int32)) Y dX4_isA_25 (by decide) ?_
    refine J_icmp_ne (tgt := 33) Y dX4_isA_26 (by decide) ?_ ?_
    · refine J_sub [] rfl ?_
      exact j_X4_isA_L33 X  σ
    · refine J_sub [] rfl ?_
      exact j_X4_isA_L29 X  σ
set_option maxRecDepth 100000 in
set_option maxHeartbeats 4000000 in
theorem j_X4_isA {E : JE} {G : JG} (X : JC E 2 cX4_isA RX4 (some .boolean) 0 0 G) (v0 : Int32) (v1 : Int32) (σ : ST) : Jg E 2 (JF E vI) [(0, .int v0), (1, .int v1)] 0 [] σ (f_X4_isA (gT G) v0 v1 σ) := by
  have Y := X.1
  unfold f_X4_isA
  refine J_iload_n Y 0 dX4_isA_0 rfl rfl ?_
  refine J_iload_n Y 1 dX4_isA_1 rfl rfl ?_
  refine J_icmp_eq (tgt := 29) Y dX4_isA_2 (by decide) ?_ ?_
  · refine J_sub [] rfl ?_
    exact j_X4_isA_L29 X  σ
  · refine J_iload_n Y 1 dX4_isA_5 rfl rfl ?_
    refine J_if_eq (tgt := 29) Y dX4_isA_6 (by decide) ?_ ?_
    · refine J_sub [] rfl ?_
      exact j_X4_isA_L29 X  σ
    · refine J_iload_n Y 0 dX4_isA_9 rfl rfl ?_
      refine J_iconst (v := (3 : Int32)) Y dX4_isA_10 (by decide) ?_
      refine J_icmp_ne (tgt := 19) Y dX4_isA_11 (by decide) ?_ ?_
      · exact j_X4_isA_L19 X v0 v1 σ
      · refine J_iload_n Y 1 dX4_isA_14 rfl rfl ?_
        refine J_iconst (v := (1 : Int32)) Y dX4_isA_15 (by decide) ?_
        refine J_icmp_eq (tgt := 29) Y dX4_isA_16 (by decide) ?_ ?_
        · refine J_sub [] rfl ?_
          exact j_X4_isA_L29 X  σ
        · exact j_X4_isA_L19 X v0 v1 σ
theorem c_X4_isA (G : JG) (v0 : Int32) (v1 : Int32) (σ : ST) : Con (VC G) vI G.1 yX4_isA cX4_isA 2 (some .boolean) 0 0 [.int v0, .int v1] σ (f_X4_isA (gT G) v0 v1 σ) :=
  Con_of (VC_ok G) (by decide +kernel) (Nat.le_of_ble_eq_true rfl) (fun E e1 e2 _ X => j_X4_isA ⟨X, e1, e2⟩ v0 v1 σ)
set_option maxRecDepth 100000 in
set_option maxHeartbeats 4000000 in
theorem j_X4_taken_L71 {E : JE} {G : JG} (X : JC E 4 cX4_taken RX4 (some .int) 1 40 G) (s0 : Int32) (σ : ST) : Jg E 4 (JF E vI) [] 71 [.int s0] σ (f_X4_taken_L71 (gT G) s0 σ) := by
  have Y := X.1
  unfold f_X4_taken_L71
  exact J_ireturn Y dX4_taken_71
set_option maxRecDepth 100000 in
set_option maxHeartbeats 4000000 in
theorem j_X4_taken_L94 {E : JE} {G : JG} (X : JC E 4 cX4_taken RX4 (some .int) 1 40 G) (s0 : Int32) (σ : ST) : Jg E 4 (JF E vI) [] 94 [.int s0] σ (f_X4_taken_L94 (gT G) s0 σ) := by
  have Y := X.1
  unfold f_X4_taken_L94
  exact J_ireturn Y dX4_taken_94
set_option maxRecDepth 100000 in
set_option maxHeartbeats 4000000 in
theorem j_X4_taken {E : JE} {G : JG} (X : JC E 4 cX4_taken RX4 (some .int) 1 40 G) (v1 : Int32) (v2 : Int32) (σ : ST) : Jg E 4 (JF E vI) [(0, .ref (gO G 0)), (1, .int v1), (2, .int v2)] 0 [] σ (f_X4_taken (gT G) v1 v2 σ) := by
  have Y := X.1
  unfold f_X4_taken
  refine J_iload_n Y 2 dX4_taken_0 rfl rfl ?_
  refine J_iconst (v := (0 : Int32)) Y dX4_taken_1 (by decide) ?_
  refine J_bipush (v := (6 : Int32)) Y dX4_taken_2 (by decide) ?_
  refine C_cSi (As := [.int v2, .int (0 : Int32), .int (6 : Int32)]) (st := []) rfl X (c_X4_within G v2 (0 : Int32) (6 : Int32) _) wi_X4_within wst_X4_within wml_RX4_89 ⟨Nat.le_of_ble_eq_true rfl, Nat.le_of_ble_eq_true rfl⟩ rfl (Nat.le_of_ble_eq_true rfl) dX4_taken_4 (fun y4 t4 => ?_)
  refine J_if_ne (tgt := 13) Y dX4_taken_7 (by decide) ?_ ?_
  · refine J_iload_n Y 1 dX4_taken_13 rfl rfl ?_
    refine J_iconst (v := (0 : Int32)) Y dX4_taken_14 (by decide) ?_
    refine J_bipush (v := (11 : Int32)) Y dX4_taken_15 (by decide) ?_
    refine C_cSi (As := [.int v1, .int (0 : Int32), .int (11 : Int32)]) (st := []) rfl X (c_X4_within G v1 (0 : Int32) (11 : Int32) _) wi_X4_within wst_X4_within wml_RX4_89 ⟨Nat.le_of_ble_eq_true rfl, Nat.le_of_ble_eq_true rfl⟩ rfl (Nat.le_of_ble_eq_true rfl) dX4_taken_17 (fun y17 t17 => ?_)
    refine J_if_ne (tgt := 26) Y dX4_taken_20 (by decide) ?_ ?_
    · refine J_iload_n Y 1 dX4_taken_26 rfl rfl ?_
      refine J_bipush (v := (6 : Int32)) Y dX4_taken_27 (by decide) ?_
      refine J_irem Y dX4_taken_29 (by decide) ?_
      refine J_istore_n [(3, .int (v1 - v1 / (6 : Int32) * (6 : Int32))), (0, .ref (gO G 0)), (1, .int v1), (2, .int v2)] Y dX4_taken_30 rfl (by decide) rfl ?_
      refine J_aload_n Y 1 dX4_taken_31 rfl rfl ?_
      refine C_get 3 X uw_X4 (cO_0 G _) rfl (by decide) rfl wfl_RX4_58 rfl dX4_taken_32 ?_
      refine J_iload_n Y 0 dX4_taken_35 rfl rfl ?_
      refine C_cVi (As := [.int (v1 - v1 / (6 : Int32) * (6 : Int32))]) (st := []) rfl X (c_X0_has G 2 (v1 - v1 / (6 : Int32) * (6 : Int32)) (Or.inl rfl) _) (cO_co G _ (Or.inl rfl)) rfl rfl wi_X0_has win_X0_has wse_X0_has wml_RX4_100 ⟨Nat.le_of_ble_eq_true rfl, Nat.le_of_ble_eq_true rfl⟩ rfl (Nat.le_of_ble_eq_true rfl) dX4_taken_36 (fun y36 t36 => ?_)
      refine J_if_ne (tgt := 45) Y dX4_taken_39 (by decide) ?_ ?_
      · refine J_iload_n Y 2 dX4_taken_45 rfl rfl ?_
        refine J_bipush (v := (6 : Int32)) Y dX4_taken_46 (by decide) ?_
        refine J_icmp_lt (tgt := 72) Y dX4_taken_48 (by decide) ?_ ?_
        · refine J_aload_n Y 1 dX4_taken_72 rfl rfl ?_
          refine C_get 3 X uw_X4 (cO_0 G _) rfl (by decide) rfl wfl_RX4_58 rfl dX4_taken_73 ?_
          refine C_get 2 X uw_X0 (cO_co G _ (Or.inl rfl)) rfl (by decide) rfl wfl_RX4_122 rfl dX4_taken_76 ?_
          refine J_iload_n Y 0 dX4_taken_79 rfl rfl ?_
          refine C_ald X (cA_co_2 G _ (Or.inl rfl)) dX4_taken_80 (fun x80 => ?_)
          refine J_iload_n Y 3 dX4_taken_81 rfl rfl ?_
          refine C_cSi (As := [.int x80, .int v2]) (st := []) rfl X (c_X4_isA G x80 v2 _) wi_X4_isA wst_X4_isA wml_RX4_266 ⟨Nat.le_of_ble_eq_true rfl, Nat.le_of_ble_eq_true rfl⟩ rfl (Nat.le_of_ble_eq_true rfl) dX4_taken_82 (fun y82 t82 => ?_)
          refine J_if_eq (tgt := 92) Y dX4_taken_85 (by decide) ?_ ?_
          · refine J_bipush (v := (-13 : Int32)) Y dX4_taken_92 (by decide) ?_
            refine J_sub [] rfl ?_
            exact j_X4_taken_L94 X (-13 : Int32) t82
          · refine J_iload_n Y 0 dX4_taken_88 rfl rfl ?_
            refine J_goto (tgt := 94) Y dX4_taken_89 (by decide) ?_
            refine J_sub [] rfl ?_
            exact j_X4_taken_L94 X (v1 - v1 / (6 : Int32) * (6 : Int32)) t82
        · refine J_iload_n Y 3 dX4_taken_51 rfl rfl ?_
          refine J_bipush (v := (6 : Int32)) Y dX4_taken_52 (by decide) ?_
          refine J_icmp_ne (tgt := 69) Y dX4_taken_54 (by decide) ?_ ?_
          · refine J_bipush (v := (-13 : Int32)) Y dX4_taken_69 (by decide) ?_
            refine J_sub [] rfl ?_
            exact j_X4_taken_L71 X (-13 : Int32) t36
          · refine J_aload_n Y 1 dX4_taken_57 rfl rfl ?_
            refine C_get 3 X uw_X4 (cO_0 G _) rfl (by decide) rfl wfl_RX4_58 rfl dX4_taken_58 ?_
            refine C_get 4 X uw_X0 (cO_co G _ (Or.inl rfl)) rfl (by decide) rfl wfl_RX4_119 rfl dX4_taken_61 ?_
            refine J_iload_n Y 0 dX4_taken_64 rfl rfl ?_
            refine C_ald X (cA_co_4 G _ (Or.inl rfl)) dX4_taken_65 (fun x65 => ?_)
            refine J_goto (tgt := 71) Y dX4_taken_66 (by decide) ?_
            refine J_sub [] rfl ?_
            exact j_X4_taken_L71 X x65 t36
      · refine J_bipush (v := (-11 : Int32)) Y dX4_taken_42 (by decide) ?_
        exact J_ireturn Y dX4_taken_44
    · refine J_bipush (v := (-12 : Int32)) Y dX4_taken_23 (by decide) ?_
      exact J_ireturn Y dX4_taken_25
  · refine J_bipush (v := (-2 : Int32)) Y dX4_taken_10 (by decide) ?_
    exact J_ireturn Y dX4_taken_12
theorem c_X4_taken (G : JG) (v1 : Int32) (v2 : Int32) (σ : ST) : Con (VC G) vI G.1 yX4_taken cX4_taken 4 (some .int) 1 40 [.ref (gO G 0), .int v1, .int v2] σ (f_X4_taken (gT G) v1 v2 σ) :=
  Con_of (VC_ok G) (by decide +kernel) (Nat.le_of_ble_eq_true rfl) (fun E e1 e2 _ X => j_X4_taken ⟨X, e1, e2⟩ v1 v2 σ)
