set_option maxRecDepth 100000 in
set_option maxHeartbeats 4000000 in
theorem j_X5_setBy_L29 {E : JE} {G : JG} (X : JM E 9 cX5_setBy RX5 (some .int) 2 80 G) (σ : ST) : Jg E 9 (JF E vI) [] 29 [] σ (f_X5_setBy_L29 σ) := by
  have Y := X.1
  unfold f_X5_setBy_L29
  refine J_bipush (v := (-2 : Int32)) Y dX5_setBy_29 (by decide) ?_
  exact J_ireturn Y dX5_setBy_31
set_option maxRecDepth 100000 in
set_option maxHeartbeats 4000000 in
theorem j_X5_setBy_L102 {E : JE} {G : JG} (X : JM E 9 cX5_setBy RX5 (some .int) 2 80 G) (σ : ST) : Jg E 9 (JF E vI) [] 102 [] σ (f_X5_setBy_L102 σ) := by
  have Y := X.1
  unfold f_X5_setBy_L102
  refine J_bipush (v := (-12 : Int32)) Y dX5_setBy_102 (by decide) ?_
  exact J_ireturn Y dX5_setBy_104
set_option maxRecDepth 100000 in
set_option maxHeartbeats 4000000 in
theorem j_X5_setBy_L144 {E : JE} {G : JG} (X : JM E 9 cX5_setBy RX5 (some .int) 2 80 G) {k64 : Int32 → Int32 → Int32 → Int32 → Int32 → ST → Option (Int32 × ST)} (hk64 : ∀ (v1 : Int32) (v3 : Int32) (v4 : Int32) (v5 : Int32) (v6 : Int32) (σ : ST), Jg E 9 (JF E vI) [(0, .ref (gO G 50)), (1, .int v1), (3, .int v3), (4, .int v4), (5, .int v5), (6, .int v6)] 64 [] σ (k64 v1 v3 v4 v5 v6 σ)) (v1 : Int32) (v3 : Int32) (v4 : Int32) (v6 : Int32) (s0 : Int32) (s1 : Int32) (σ : ST) : Jg E 9 (JF E vI) [(0, .ref (gO G 50)), (1, .int v1), (3, .int v3), (4, .int v4), (6, .int v6)] 144 [.int s0, .int s1] σ (f_X5_setBy_L144 k64 v1 v3 v4 v6 s0 s1 σ) := by
  have Y := X.1
  unfold f_X5_setBy_L144
  refine J_iadd Y dX5_setBy_144 ?_
  refine J_istore [(5, .int (s1 + s0)), (0, .ref (gO G 50)), (1, .int v1), (3, .int v3), (4, .int v4), (6, .int v6)] Y dX5_setBy_145 (by decide) rfl ?_
  refine J_iinc (v := v6 + (1 : Int32)) [(6, .int (v6 + (1 : Int32))), (5, .int (s1 + s0)), (0, .ref (gO G 50)), (1, .int v1), (3, .int v3), (4, .int v4)] Y 5 dX5_setBy_147 rfl (congrArg (fun z => _ + z) (by decide)) (by decide) rfl ?_
  refine J_goto (tgt := 64) Y dX5_setBy_150 (by decide) ?_
  refine J_sub [2, 3, 4, 5, 1, 0] rfl ?_
  exact hk64 v1 v3 v4 (s1 + s0) (v6 + (1 : Int32)) σ
set_option maxRecDepth 100000 in
set_option maxHeartbeats 4000000 in
theorem j_X5_setBy_L64 {E : JE} {G : JG} (X : JM E 9 cX5_setBy RX5 (some .int) 2 80 G) : ∀ (n : Nat) (v1 : Int32) (v3 : Int32) (v4 : Int32) (v5 : Int32) (v6 : Int32) (σ : ST), Jg E 9 (JF E vI) [(0, .ref (gO G 50)), (1, .int v1), (3, .int v3), (4, .int v4), (5, .int v5), (6, .int v6)] 64 [] σ (f_X5_setBy_L64 n v1 v3 v4 v5 v6 σ) := by
  have Y := X.1
  intro n
  induction n with
  | zero => intro v1 v3 v4 v5 v6 σ; rw [f_X5_setBy_L64]; exact J_none
  | succ n ih =>
    intro v1 v3 v4 v5 v6 σ
    rw [f_X5_setBy_L64]
    refine J_iload Y 5 dX5_setBy_64 rfl ?_
    refine J_iload Y 3 dX5_setBy_66 rfl ?_
    refine J_icmp_ge (tgt := 153) Y dX5_setBy_68 (by decide) ?_ ?_
    · refine J_iload Y 4 dX5_setBy_153 rfl ?_
      exact J_ireturn Y dX5_setBy_155
    · refine J_iload_n Y 2 dX5_setBy_71 rfl rfl ?_
      refine J_iconst (v := (2 : Int32)) Y dX5_setBy_72 (by decide) ?_
      refine J_iload Y 5 dX5_setBy_73 rfl ?_
      refine J_imul Y dX5_setBy_75 ?_
      refine J_iadd Y dX5_setBy_76 ?_
      refine J_istore [(7, .int (v3 + ((2 : Int32) * v6))), (0, .ref (gO G 50)), (1, .int v1), (3, .int v3), (4, .int v4), (5, .int v5), (6, .int v6)] Y dX5_setBy_77 (by decide) rfl ?_
      refine J_iload_n Y 3 dX5_setBy_79 rfl rfl ?_
      refine J_if_lt (tgt := 102) Y dX5_setBy_80 (by decide) ?_ ?_
      · refine J_sub [] rfl ?_
        exact j_X5_setBy_L102 X  σ
      · refine J_iload Y 0 dX5_setBy_83 rfl ?_
        refine J_iload_n Y 3 dX5_setBy_85 rfl rfl ?_
        refine J_icmp_lt (tgt := 102) Y dX5_setBy_86 (by decide) ?_ ?_
        · refine J_sub [] rfl ?_
          exact j_X5_setBy_L102 X  σ
        · refine J_iload Y 0 dX5_setBy_89 rfl ?_
          refine J_aload_n Y 1 dX5_setBy_91 rfl rfl ?_
          refine M_get 15 X (by decide) rfl wfl_RX5_37 rfl dX5_setBy_92 ?_
          refine J_iload_n Y 2 dX5_setBy_95 rfl rfl ?_
          refine M_ald X (mA_15 G _) dX5_setBy_96 (fun x96 => ?_)
          refine J_iconst (v := (2 : Int32)) Y dX5_setBy_97 (by decide) ?_
          refine J_isub Y dX5_setBy_98 ?_
          refine J_icmp_le (tgt := 105) Y dX5_setBy_99 (by decide) ?_ ?_
          · refine J_bipush (v := (40 : Int32)) Y dX5_setBy_105 (by decide) ?_
            refine J_iload_n Y 2 dX5_setBy_107 rfl rfl ?_
            refine J_imul Y dX5_setBy_108 ?_
            refine J_iload Y 0 dX5_setBy_109 rfl ?_
            refine J_iadd Y dX5_setBy_111 ?_
            refine J_istore [(8, .int (((40 : Int32) * v1) + (v3 + ((2 : Int32) * v6)))), (7, .int (v3 + ((2 : Int32) * v6))), (0, .ref (gO G 50)), (1, .int v1), (3, .int v3), (4, .int v4), (5, .int v5), (6, .int v6)] Y dX5_setBy_112 (by decide) rfl ?_
            refine J_iload Y 6 dX5_setBy_114 rfl ?_
            refine J_aload_n Y 2 dX5_setBy_116 rfl rfl ?_
            refine J_aload_n Y 2 dX5_setBy_117 rfl rfl ?_
            refine M_get 16 X (by decide) rfl wfl_RX5_40 rfl dX5_setBy_118 ?_
            refine J_iload Y 0 dX5_setBy_121 rfl ?_
            refine M_ald X (mA_16 G _) dX5_setBy_123 (fun x123 => ?_)
            refine J_aload_n Y 2 dX5_setBy_124 rfl rfl ?_
            refine M_get 16 X (by decide) rfl wfl_RX5_40 rfl dX5_setBy_125 ?_
            refine J_iload Y 0 dX5_setBy_128 rfl ?_
            refine J_iconst (v := (1 : Int32)) Y dX5_setBy_130 (by decide) ?_
            refine J_iadd Y dX5_setBy_131 ?_
            refine M_ald X (mA_16 G _) dX5_setBy_132 (fun x132 => ?_)
            refine M_cVi (As := [.int x123, .int x132]) (st := [.int v5]) rfl X (c_X5_gentleman G x123 x132 _) wi_X5_gentleman win_X5_gentleman wse_X5_gentleman wml_RX5_278 ⟨Nat.le_of_ble_eq_true rfl, Nat.le_of_ble_eq_true rfl⟩ rfl (Nat.le_of_ble_eq_true rfl) dX5_setBy_133 (fun y133 t133 => ?_)
            refine J_if_lt (tgt := 143) Y dX5_setBy_136 (by decide) ?_ ?_
            · refine J_iconst (v := (0 : Int32)) Y dX5_setBy_143 (by decide) ?_
              refine J_sub [2, 3, 4, 5, 7] rfl ?_
              exact j_X5_setBy_L144 X (fun v1 v3 v4 v5 v6 σ => ih v1 v3 v4 v5 v6 σ) v1 v3 v4 v6 (0 : Int32) v5 t133
            · refine J_iconst (v := (1 : Int32)) Y dX5_setBy_139 (by decide) ?_
              refine J_goto (tgt := 144) Y dX5_setBy_140 (by decide) ?_
              refine J_sub [2, 3, 4, 5, 7] rfl ?_
              exact j_X5_setBy_L144 X (fun v1 v3 v4 v5 v6 σ => ih v1 v3 v4 v5 v6 σ) v1 v3 v4 v6 (1 : Int32) v5 t133
          · refine J_sub [] rfl ?_
            exact j_X5_setBy_L102 X  σ
set_option maxRecDepth 100000 in
set_option maxHeartbeats 4000000 in
theorem j_X5_setBy {E : JE} {G : JG} (X : JM E 9 cX5_setBy RX5 (some .int) 2 80 G) (v1 : Int32) (v2 : Int32) (v3 : Int32) (v4 : Int32) (σ : ST) : Jg E 9 (JF E vI) [(0, .ref (gO G 50)), (1, .int v1), (2, .int v2), (3, .int v3), (4, .int v4)] 0 [] σ (f_X5_setBy v1 v2 v3 v4 σ) := by
  have Y := X.1
  unfold f_X5_setBy
  refine J_iload_n Y 1 dX5_setBy_0 rfl rfl ?_
  refine J_iconst (v := (0 : Int32)) Y dX5_setBy_1 (by decide) ?_
  refine J_iconst (v := (3 : Int32)) Y dX5_setBy_2 (by decide) ?_
  refine M_cSi (As := [.int v1, .int (0 : Int32), .int (3 : Int32)]) (st := []) rfl X (c_X5_in G v1 (0 : Int32) (3 : Int32) _) wi_X5_in wst_X5_in wml_RX5_78 ⟨Nat.le_of_ble_eq_true rfl, Nat.le_of_ble_eq_true rfl⟩ rfl (Nat.le_of_ble_eq_true rfl) dX5_setBy_3 (fun y3 t3 => ?_)
  refine J_if_eq (tgt := 29) Y dX5_setBy_6 (by decide) ?_ ?_
  · refine J_sub [] rfl ?_
    exact j_X5_setBy_L29 X  t3
  · refine J_iload_n Y 2 dX5_setBy_9 rfl rfl ?_
    refine J_iconst (v := (0 : Int32)) Y dX5_setBy_10 (by decide) ?_
    refine J_iconst (v := (2 : Int32)) Y dX5_setBy_11 (by decide) ?_
    refine M_cSi (As := [.int v2, .int (0 : Int32), .int (2 : Int32)]) (st := []) rfl X (c_X5_in G v2 (0 : Int32) (2 : Int32) _) wi_X5_in wst_X5_in wml_RX5_78 ⟨Nat.le_of_ble_eq_true rfl, Nat.le_of_ble_eq_true rfl⟩ rfl (Nat.le_of_ble_eq_true rfl) dX5_setBy_12 (fun y12 t12 => ?_)
    refine J_if_eq (tgt := 29) Y dX5_setBy_15 (by decide) ?_ ?_
    · refine J_sub [] rfl ?_
      exact j_X5_setBy_L29 X  t12
    · refine J_iload Y 4 dX5_setBy_18 rfl ?_
      refine J_iconst (v := (0 : Int32)) Y dX5_setBy_20 (by decide) ?_
      refine J_bipush (v := (6 : Int32)) Y dX5_setBy_21 (by decide) ?_
      refine M_cSi (As := [.int v4, .int (0 : Int32), .int (6 : Int32)]) (st := []) rfl X (c_X5_in G v4 (0 : Int32) (6 : Int32) _) wi_X5_in wst_X5_in wml_RX5_78 ⟨Nat.le_of_ble_eq_true rfl, Nat.le_of_ble_eq_true rfl⟩ rfl (Nat.le_of_ble_eq_true rfl) dX5_setBy_23 (fun y23 t23 => ?_)
      refine J_if_ne (tgt := 32) Y dX5_setBy_26 (by decide) ?_ ?_
      · refine J_aload_n Y 0 dX5_setBy_32 rfl rfl ?_
        refine M_get 14 X (by decide) rfl wfl_RX5_34 rfl dX5_setBy_33 ?_
        refine J_iload_n Y 1 dX5_setBy_36 rfl rfl ?_
        refine M_ald X (mA_14 G _) dX5_setBy_37 (fun x37 => ?_)
        refine J_iconst (v := (-1 : Int32)) Y dX5_setBy_38 (by decide) ?_
        refine J_icmp_ne (tgt := 45) Y dX5_setBy_39 (by decide) ?_ ?_
        · refine J_aload_n Y 0 dX5_setBy_45 rfl rfl ?_
          refine M_get 14 X (by decide) rfl wfl_RX5_34 rfl dX5_setBy_46 ?_
          refine J_iload_n Y 1 dX5_setBy_49 rfl rfl ?_
          refine M_ald X (mA_14 G _) dX5_setBy_50 (fun x50 => ?_)
          refine J_iload_n Y 2 dX5_setBy_51 rfl rfl ?_
          refine J_icmp_eq (tgt := 58) Y dX5_setBy_52 (by decide) ?_ ?_
          · refine J_iconst (v := (0 : Int32)) Y dX5_setBy_58 (by decide) ?_
            refine J_istore [(5, .int (0 : Int32)), (0, .ref (gO G 50)), (1, .int v1), (2, .int v2), (3, .int v3), (4, .int v4)] Y dX5_setBy_59 (by decide) rfl ?_
            refine J_iconst (v := (0 : Int32)) Y dX5_setBy_61 (by decide) ?_
            refine J_istore [(6, .int (0 : Int32)), (5, .int (0 : Int32)), (0, .ref (gO G 50)), (1, .int v1), (2, .int v2), (3, .int v3), (4, .int v4)] Y dX5_setBy_62 (by decide) rfl ?_
            refine J_sub [2, 3, 5, 6, 1, 0] rfl ?_
            exact j_X5_setBy_L64 X 1000 v1 v3 v4 (0 : Int32) (0 : Int32) t23
          · refine J_bipush (v := (-13 : Int32)) Y dX5_setBy_55 (by decide) ?_
            exact J_ireturn Y dX5_setBy_57
        · refine J_bipush (v := (-11 : Int32)) Y dX5_setBy_42 (by decide) ?_
          exact J_ireturn Y dX5_setBy_44
      · refine J_sub [] rfl ?_
        exact j_X5_setBy_L29 X  t23
theorem c_X5_setBy (G : JG) (v1 : Int32) (v2 : Int32) (v3 : Int32) (v4 : Int32) (σ : ST) : Con (VM G) vI G.1 yX5_setBy cX5_setBy 9 (some .int) 2 80 [.ref (gO G 50), .int v1, .int v2, .int v3, .int v4] σ (f_X5_setBy v1 v2 v3 v4 σ) :=
  Con_of (VM_ok G) (by decide +kernel) (Nat.le_of_ble_eq_true rfl) (fun E e1 e2 _ X => j_X5_setBy ⟨X, e1, e2⟩ v1 v2 v3 v4 σ)
set_option maxRecDepth 100000 in
set_option maxHeartbeats 4000000 in
theorem j_X5_isUnder_L34 {E : JE} {G : JG} (X : JM E 2 cX5_isUnder RX5 (some .boolean) 0 0 G) (s0 : Int32) (σ : ST) : Jg E 2 (JF E vI) [] 34 [.int s0] σ (f_X5_isUnder_L34 s0 σ) := by
  have Y := X.1
  unfold f_X5_isUnder_L34
  exact J_zreturn Y dX5_isUnder_34
set_option maxRecDepth 100000 in
set_option maxHeartbeats 4000000 in
theorem j_X5_isUnder_L29 {E : JE} {G : JG} (X : JM E 2 cX5_isUnder RX5 (some .boolean) 0 0 G) (σ : ST) : Jg E 2 (JF E vI) [] 29 [] σ (f_X5_isUnder_L29 σ) := by
  have Y := X.1
  unfold f_X5_isUnder_L29
  refine J_iconst (v := (1 : Int32)) Y dX5_isUnder_29 (by decide) ?_
  refine J_goto (tgt := 34) Y dX5_isUnder_30 (by decide) ?_
  exact j_X5_isUnder_L34 X (1 : Int32) σ
set_option maxRecDepth 100000 in
set_option maxHeartbeats 4000000 in
theorem j_X5_isUnder_L33 {E : JE} {G : JG} (X : JM E 2 cX5_isUnder RX5 (some .boolean) 0 0 G) (σ : ST) : Jg E 2 (JF E vI) [] 33 [] σ (f_X5_isUnder_L33 σ) := by
  have Y := X.1
  unfold f_X5_isUnder_L33
  refine J_iconst (v := (0 : Int32)) Y dX5_isUnder_33 (by decide) ?_
  exact j_X5_isUnder_L34 X (0 : Int32) σ
set_option maxRecDepth 100000 in
set_option maxHeartbeats 4000000 in
theorem j_X5_isUnder_L19 {E : JE} {G : JG} (X : JM E 2 cX5_isUnder RX5 (some .boolean) 0 0 G) (v0 : Int32) (v1 : Int32) (σ : ST) : Jg E 2 (JF E vI) [(0, .int v0), (1, .int v1)] 19 [] σ (f_X5_isUnder_L19 v0 v1 σ) := by
  have Y := X.1
  unfold f_X5_isUnder_L19
  refine J_iload_n Y 1 dX5_isUnder_19 rfl rfl ?_
  refine J_iconst (v := (2 : Int32)) Y dX5_isUnder_20 (by decide) ?_
  refine J_icmp_ne (tgt := 33) Y dX5_isUnder_21 (by decide) ?_ ?_
  · refine J_sub [] rfl ?_
    exact j_X5_isUnder_L33 X  σ
  · refine J_iload_n Y 0 dX5_isUnder_24 rfl rfl ?_
    refine J_iconst (v := (4 : Int32)) Y dX5_isUnder_25 (by decide) ?_
    refine J_icmp_ne (tgt := 33) Y dX5_isUnder_26 (by decide) ?_ ?_
    · refine J_sub [] rfl ?_
      exact j_X5_isUnder_L33 X  σ
    · refine J_sub [] rfl ?_
      exact j_X5_isUnder_L29 X  σ
set_option maxRecDepth 100000 in
set_option maxHeartbeats 4000000 in
theorem j_X5_isUnder {E : JE} {G : JG} (X : JM E 2 cX5_isUnder RX5 (some .boolean) 0 0 G) (v0 : Int32) (v1 : Int32) (σ : ST) : Jg E 2 (JF E vI) [(0, .int v0), (1, .int v1)] 0 [] σ (f_X5_isUnder v0 v1 σ) := by
  have Y := X.1
  unfold f_X5_isUnder
  refine J_iload_n Y 1 dX5_isUnder_0 rfl rfl ?_
  refine J_if_eq (tgt := 29) Y dX5_isUnder_1 (by decide) ?_ ?_
  · refine J_sub [] rfl ?_
    exact j_X5_isUnder_L29 X  σ
  · refine J_iload_n Y 0 dX5_isUnder_4 rfl rfl ?_
    refine J_iload_n Y 1 dX5_isUnder_5 rfl rfl ?_
    refine J_icmp_eq (tgt := 29) Y dX5_isUnder_6 (by decide) ?_ ?_
    · refine J_sub [] rfl ?_
      exact j_X5_isUnder_L29 X  σ
    · refine J_iload_n Y 1 dX5_isUnder_9 rfl rfl ?_
      refine J_iconst (v := (1 : Int32)) Y dX5_isUnder_10 (by decide) ?_
      refine J_icmp_ne (tgt := 19) Y dX5_isUnder_11 (by decide) ?_ ?_
      · exact j_X5_isUnder_L19 X v0 v1 σ
      · refine J_iload_n Y 0 dX5_isUnder_14 rfl rfl ?_
        refine J_iconst (v := (3 : Int32)) Y dX5_isUnder_15 (by decide) ?_
        refine J_icmp_eq (tgt := 29) Y dX5_isUnder_16 (by decide) ?_ ?_
        · refine J_sub [] rfl ?_
          exact j_X5_isUnder_L29 X  σ
        · exact j_X5_isUnder_L19 X v0 v1 σ
theorem c_X5_isUnder (G : JG) (v0 : Int32) (v1 : Int32) (σ : ST) : Con (VM G) vI G.1 yX5_isUnder cX5_isUnder 2 (some .boolean) 0 0 [.int v0, .int v1] σ (f_X5_isUnder v0 v1 σ) :=
  Con_of (VM_ok G) (by decide +kernel) (Nat.le_of_ble_eq_true rfl) (fun E e1 e2 _ X => j_X5_isUnder ⟨X, e1, e2⟩ v0 v1 σ)
set_option maxRecDepth 100000 in
set_option maxHeartbeats 4000000 in
theorem j_X5_taken_L72 {E : JE} {G : JG} (X : JM E 3 cX5_taken RX5 (some .int) 1 40 G) (s0 : Int32) (σ : ST) : Jg E 3 (JF E vI) [] 72 [.int s0] σ (f_X5_taken_L72 s0 σ) := by
  have Y := X.1
  unfold f_X5_taken_L72
  exact J_ireturn Y dX5_taken_72
set_option maxRecDepth 100000 in
set_option maxHeartbeats 4000000 in
theorem j_X5_taken_L98 {E : JE} {G : JG} (X : JM E 3 cX5_taken RX5 (some .int) 1 40 G) (s0 : Int32) (σ : ST) : Jg E 3 (JF E vI) [] 98 [.int s0] σ (f_X5_taken_L98 s0 σ) := by
  have Y := X.1
  unfold f_X5_taken_L98
  exact J_ireturn Y dX5_taken_98
set_option maxRecDepth 100000 in
set_option maxHeartbeats 4000000 in
theorem j_X5_taken_L96 {E : JE} {G : JG} (X : JM E 3 cX5_taken RX5 (some .int) 1 40 G) (σ : ST) : Jg E 3 (JF E vI) [] 96 [] σ (f_X5_taken_L96 σ) := by
  have Y := X.1
  unfold f_X5_taken_L96
  refine J_bipush (v := (-13 : Int32)) Y dX5_taken_96 (by decide) ?_
  exact j_X5_taken_L98 X (-13 : Int32) σ
set_option maxRecDepth 100000 in
set_option maxHeartbeats 4000000 in
theorem j_X5_taken {E : JE} {G : JG} (X : JM E 3 cX5_taken RX5 (some .int) 1 40 G) (v1 : Int32) (v2 : Int32) (σ : ST) : Jg E 3 (JF E vI) [(0, .ref (gO G 50)), (1, .int v1), (2, .int v2)] 0 [] σ (f_X5_taken v1 v2 σ) := by
  have Y := X.1
  unfold f_X5_taken
  refine J_iload_n Y 2 dX5_taken_0 rfl rfl ?_
  refine J_iconst (v := (0 : Int32)) Y dX5_taken_1 (by decide) ?_
  refine J_bipush (v := (6 : Int32)) Y dX5_taken_2 (by decide) ?_
  refine M_cSi (As := [.int v2, .int (0 : Int32), .int (6 : Int32)]) (st := []) rfl X (c_X5_in G v2 (0 : Int32) (6 : Int32) _) wi_X5_in wst_X5_in wml_RX5_78 ⟨Nat.le_of_ble_eq_true rfl, Nat.le_of_ble_eq_true rfl⟩ rfl (Nat.le_of_ble_eq_true rfl) dX5_taken_4 (fun y4 t4 => ?_)
  refine J_if_ne (tgt := 13) Y dX5_taken_7 (by decide) ?_ ?_
  · refine J_iload_n Y 1 dX5_taken_13 rfl rfl ?_
    refine J_iconst (v := (0 : Int32)) Y dX5_taken_14 (by decide) ?_
    refine J_bipush (v := (11 : Int32)) Y dX5_taken_15 (by decide) ?_
    refine M_cSi (As := [.int v1, .int (0 : Int32), .int (11 : Int32)]) (st := []) rfl X (c_X5_in G v1 (0 : Int32) (11 : Int32) _) wi_X5_in wst_X5_in wml_RX5_78 ⟨Nat.le_of_ble_eq_true rfl, Nat.le_of_ble_eq_true rfl⟩ rfl (Nat.le_of_ble_eq_true rfl) dX5_taken_17 (fun y17 t17 => ?_)
    refine J_if_ne (tgt := 26) Y dX5_taken_20 (by decide) ?_ ?_
    · refine J_iload_n Y 1 dX5_taken_26 rfl rfl ?_
      refine J_bipush (v := (6 : Int32)) Y dX5_taken_27 (by decide) ?_
      refine J_irem Y dX5_taken_29 (by decide) ?_
      refine J_aload_n Y 0 dX5_taken_30 rfl rfl ?_
      refine M_get 0 X (by decide) rfl wfl_RX5_75 rfl dX5_taken_31 ?_
      refine J_icmp_lt (tgt := 40) Y dX5_taken_34 (by decide) ?_ ?_
      · refine J_iload_n Y 1 dX5_taken_40 rfl rfl ?_
        refine J_bipush (v := (6 : Int32)) Y dX5_taken_41 (by decide) ?_
        refine J_icmp_lt (tgt := 73) Y dX5_taken_43 (by decide) ?_ ?_
        · refine J_iload_n Y 2 dX5_taken_73 rfl rfl ?_
          refine J_bipush (v := (6 : Int32)) Y dX5_taken_74 (by decide) ?_
          refine J_icmp_ge (tgt := 96) Y dX5_taken_76 (by decide) ?_ ?_
          · refine J_sub [] rfl ?_
            exact j_X5_taken_L96 X  t17
          · refine J_aload_n Y 0 dX5_taken_79 rfl rfl ?_
            refine M_get 1 X (by decide) rfl wfl_RX5_7 rfl dX5_taken_80 ?_
            refine J_iload_n Y 1 dX5_taken_83 rfl rfl ?_
            refine M_ald X (mA_1 G _) dX5_taken_84 (fun x84 => ?_)
            refine J_iload_n Y 2 dX5_taken_85 rfl rfl ?_
            refine M_cSi (As := [.int x84, .int v2]) (st := []) rfl X (c_X5_isUnder G x84 v2 _) wi_X5_isUnder wst_X5_isUnder wml_RX5_281 ⟨Nat.le_of_ble_eq_true rfl, Nat.le_of_ble_eq_true rfl⟩ rfl (Nat.le_of_ble_eq_true rfl) dX5_taken_86 (fun y86 t86 => ?_)
            refine J_if_eq (tgt := 96) Y dX5_taken_89 (by decide) ?_ ?_
            · refine J_sub [] rfl ?_
              exact j_X5_taken_L96 X  t86
            · refine J_iload_n Y 1 dX5_taken_92 rfl rfl ?_
              refine J_goto (tgt := 98) Y dX5_taken_93 (by decide) ?_
              refine J_sub [] rfl ?_
              exact j_X5_taken_L98 X v1 t86
        · refine J_iload_n Y 2 dX5_taken_46 rfl rfl ?_
          refine J_bipush (v := (6 : Int32)) Y dX5_taken_47 (by decide) ?_
          refine J_icmp_ne (tgt := 70) Y dX5_taken_49 (by decide) ?_ ?_
          · refine J_bipush (v := (-13 : Int32)) Y dX5_taken_70 (by decide) ?_
            refine J_sub [] rfl ?_
            exact j_X5_taken_L72 X (-13 : Int32) t17
          · refine J_aload_n Y 0 dX5_taken_52 rfl rfl ?_
            refine M_get 3 X (by decide) rfl wfl_RX5_16 rfl dX5_taken_53 ?_
            refine J_bipush (v := (12 : Int32)) Y dX5_taken_56 (by decide) ?_
            refine J_iload_n Y 1 dX5_taken_58 rfl rfl ?_
            refine J_bipush (v := (6 : Int32)) Y dX5_taken_59 (by decide) ?_
            refine J_isub Y dX5_taken_61 ?_
            refine J_imul Y dX5_taken_62 ?_
            refine J_bipush (v := (8 : Int32)) Y dX5_taken_63 (by decide) ?_
            refine J_iadd Y dX5_taken_65 ?_
            refine M_ald X (mA_3 G _) dX5_taken_66 (fun x66 => ?_)
            refine J_goto (tgt := 72) Y dX5_taken_67 (by decide) ?_
            refine J_sub [] rfl ?_
            exact j_X5_taken_L72 X x66 t17
      · refine J_bipush (v := (-11 : Int32)) Y dX5_taken_37 (by decide) ?_
        exact J_ireturn Y dX5_taken_39
    · refine J_bipush (v := (-12 : Int32)) Y dX5_taken_23 (by decide) ?_
      exact J_ireturn Y dX5_taken_25
  · refine J_bipush (v := (-2 : Int32)) Y dX5_taken_10 (by decide) ?_
    exact J_ireturn Y dX5_taken_12
theorem c_X5_taken (G : JG) (v1 : Int32) (v2 : Int32) (σ : ST) : Con (VM G) vI G.1 yX5_taken cX5_taken 3 (some .int) 1 40 [.ref (gO G 50), .int v1, .int v2] σ (f_X5_taken v1 v2 σ) :=
  Con_of (VM_ok G) (by decide +kernel) (Nat.le_of_ble_eq_true rfl) (fun E e1 e2 _ X => j_X5_taken ⟨X, e1, e2⟩ v1 v2 σ)
