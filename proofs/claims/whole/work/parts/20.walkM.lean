set_option maxRecDepth 100000 in
set_option maxHeartbeats 4000000 in
theorem j_X5_in_L15 {E : JE} {G : JG} (X : JM E 3 cX5_in RX5 (some .boolean) 0 0 G) (s0 : Int32) (σ : ST) : Jg E 3 (JF E vI) [] 15 [.int s0] σ (f_X5_in_L15 s0 σ) := by
  have Y := X.1
  unfold f_X5_in_L15
  exact J_zreturn Y dX5_in_15
set_option maxRecDepth 100000 in
set_option maxHeartbeats 4000000 in
theorem j_X5_in_L14 {E : JE} {G : JG} (X : JM E 3 cX5_in RX5 (some .boolean) 0 0 G) (σ : ST) : Jg E 3 (JF E vI) [] 14 [] σ (f_X5_in_L14 σ) := by
  have Y := X.1
  unfold f_X5_in_L14
  refine J_iconst (v := (0 : Int32)) Y dX5_in_14 (by decide) ?_
  exact j_X5_in_L15 X (0 : Int32) σ
set_option maxRecDepth 100000 in
set_option maxHeartbeats 4000000 in
theorem j_X5_in {E : JE} {G : JG} (X : JM E 3 cX5_in RX5 (some .boolean) 0 0 G) (v0 : Int32) (v1 : Int32) (v2 : Int32) (σ : ST) : Jg E 3 (JF E vI) [(0, .int v0), (1, .int v1), (2, .int v2)] 0 [] σ (f_X5_in v0 v1 v2 σ) := by
  have Y := X.1
  unfold f_X5_in
  refine J_iload_n Y 0 dX5_in_0 rfl rfl ?_
  refine J_iload_n Y 1 dX5_in_1 rfl rfl ?_
  refine J_icmp_lt (tgt := 14) Y dX5_in_2 (by decide) ?_ ?_
  · refine J_sub [] rfl ?_
    exact j_X5_in_L14 X  σ
  · refine J_iload_n Y 0 dX5_in_5 rfl rfl ?_
    refine J_iload_n Y 2 dX5_in_6 rfl rfl ?_
    refine J_icmp_gt (tgt := 14) Y dX5_in_7 (by decide) ?_ ?_
    · refine J_sub [] rfl ?_
      exact j_X5_in_L14 X  σ
    · refine J_iconst (v := (1 : Int32)) Y dX5_in_10 (by decide) ?_
      refine J_goto (tgt := 15) Y dX5_in_11 (by decide) ?_
      refine J_sub [] rfl ?_
      exact j_X5_in_L15 X (1 : Int32) σ
theorem c_X5_in (G : JG) (v0 : Int32) (v1 : Int32) (v2 : Int32) (σ : ST) : Con (VM G) vI G.1 yX5_in cX5_in 3 (some .boolean) 0 0 [.int v0, .int v1, .int v2] σ (f_X5_in v0 v1 v2 σ) :=
  Con_of (VM_ok G) (by decide +kernel) (Nat.le_of_ble_eq_true rfl) (fun E e1 e2 _ X => j_X5_in ⟨X, e1, e2⟩ v0 v1 v2 σ)
set_option maxRecDepth 100000 in
set_option maxHeartbeats 4000000 in
theorem j_X5_within_L19 {E : JE} {G : JG} (X : JM E 3 cX5_within RX5 (some .int) 0 0 G) (s0 : Int32) (σ : ST) : Jg E 3 (JF E vI) [] 19 [.int s0] σ (f_X5_within_L19 s0 σ) := by
  have Y := X.1
  unfold f_X5_within_L19
  exact J_ireturn Y dX5_within_19
set_option maxRecDepth 100000 in
set_option maxHeartbeats 4000000 in
theorem j_X5_within {E : JE} {G : JG} (X : JM E 3 cX5_within RX5 (some .int) 0 0 G) (v0 : Int32) (v1 : Int32) (v2 : Int32) (σ : ST) : Jg E 3 (JF E vI) [(0, .int v0), (1, .int v1), (2, .int v2)] 0 [] σ (f_X5_within v0 v1 v2 σ) := by
  have Y := X.1
  unfold f_X5_within
  refine J_iload_n Y 0 dX5_within_0 rfl rfl ?_
  refine J_iload_n Y 1 dX5_within_1 rfl rfl ?_
  refine J_icmp_ge (tgt := 9) Y dX5_within_2 (by decide) ?_ ?_
  · refine J_iload_n Y 0 dX5_within_9 rfl rfl ?_
    refine J_iload_n Y 2 dX5_within_10 rfl rfl ?_
    refine J_icmp_le (tgt := 18) Y dX5_within_11 (by decide) ?_ ?_
    · refine J_iload_n Y 0 dX5_within_18 rfl rfl ?_
      refine J_sub [] rfl ?_
      exact j_X5_within_L19 X v0 σ
    · refine J_iload_n Y 2 dX5_within_14 rfl rfl ?_
      refine J_goto (tgt := 19) Y dX5_within_15 (by decide) ?_
      refine J_sub [] rfl ?_
      exact j_X5_within_L19 X v2 σ
  · refine J_iload_n Y 1 dX5_within_5 rfl rfl ?_
    refine J_goto (tgt := 19) Y dX5_within_6 (by decide) ?_
    refine J_sub [] rfl ?_
    exact j_X5_within_L19 X v1 σ
theorem c_X5_within (G : JG) (v0 : Int32) (v1 : Int32) (v2 : Int32) (σ : ST) : Con (VM G) vI G.1 yX5_within cX5_within 3 (some .int) 0 0 [.int v0, .int v1, .int v2] σ (f_X5_within v0 v1 v2 σ) :=
  Con_of (VM_ok G) (by decide +kernel) (Nat.le_of_ble_eq_true rfl) (fun E e1 e2 _ X => j_X5_within ⟨X, e1, e2⟩ v0 v1 v2 σ)
set_option maxRecDepth 100000 in
set_option maxHeartbeats 4000000 in
theorem j_X5_onesOf_L4 {E : JE} {G : JG} (X : JM E 3 cX5_onesOf RX5 (some .int) 0 0 G) : ∀ (n : Nat) (v0 : Int32) (v1 : Int32) (v2 : Int32) (σ : ST), Jg E 3 (JF E vI) [(0, .int v0), (1, .int v1), (2, .int v2)] 4 [] σ (f_X5_onesOf_L4 n v0 v1 v2 σ) := by
  have Y := X.1
  intro n
  induction n with
  | zero => intro v0 v1 v2 σ; rw [f_X5_onesOf_L4]; exact J_none
  | succ n ih =>
    intro v0 v1 v2 σ
    rw [f_X5_onesOf_L4]
    refine J_iload_n Y 2 dX5_onesOf_4 rfl rfl ?_
    refine J_bipush (v := (8 : Int32)) Y dX5_onesOf_5 (by decide) ?_
    refine J_icmp_ge (tgt := 24) Y dX5_onesOf_7 (by decide) ?_ ?_
    · refine J_iload_n Y 1 dX5_onesOf_24 rfl rfl ?_
      exact J_ireturn Y dX5_onesOf_25
    · refine J_iload_n Y 1 dX5_onesOf_10 rfl rfl ?_
      refine J_iload_n Y 0 dX5_onesOf_11 rfl rfl ?_
      refine J_iload_n Y 2 dX5_onesOf_12 rfl rfl ?_
      refine J_ishr Y dX5_onesOf_13 ?_
      refine J_iconst (v := (1 : Int32)) Y dX5_onesOf_14 (by decide) ?_
      refine J_iand Y dX5_onesOf_15 ?_
      refine J_iadd Y dX5_onesOf_16 ?_
      refine J_istore_n [(1, .int (v1 + ((v0 >>> (v2 &&& 31)) &&& (1 : Int32)))), (0, .int v0), (2, .int v2)] Y dX5_onesOf_17 rfl (by decide) rfl ?_
      refine J_iinc (v := v2 + (1 : Int32)) [(2, .int (v2 + (1 : Int32))), (1, .int (v1 + ((v0 >>> (v2 &&& 31)) &&& (1 : Int32)))), (0, .int v0)] Y 2 dX5_onesOf_18 rfl (congrArg (fun z => _ + z) (by decide)) (by decide) rfl ?_
      refine J_goto (tgt := 4) Y dX5_onesOf_21 (by decide) ?_
      refine J_sub [2, 1, 0] rfl ?_
      exact ih v0 (v1 + ((v0 >>> (v2 &&& 31)) &&& (1 : Int32))) (v2 + (1 : Int32)) σ
set_option maxRecDepth 100000 in
set_option maxHeartbeats 4000000 in
theorem j_X5_onesOf {E : JE} {G : JG} (X : JM E 3 cX5_onesOf RX5 (some .int) 0 0 G) (v0 : Int32) (σ : ST) : Jg E 3 (JF E vI) [(0, .int v0)] 0 [] σ (f_X5_onesOf v0 σ) := by
  have Y := X.1
  unfold f_X5_onesOf
  refine J_iconst (v := (0 : Int32)) Y dX5_onesOf_0 (by decide) ?_
  refine J_istore_n [(1, .int (0 : Int32)), (0, .int v0)] Y dX5_onesOf_1 rfl (by decide) rfl ?_
  refine J_iconst (v := (0 : Int32)) Y dX5_onesOf_2 (by decide) ?_
  refine J_istore_n [(2, .int (0 : Int32)), (1, .int (0 : Int32)), (0, .int v0)] Y dX5_onesOf_3 rfl (by decide) rfl ?_
  refine J_sub [2, 1, 0] rfl ?_
  exact j_X5_onesOf_L4 X 1000 v0 (0 : Int32) (0 : Int32) σ
theorem c_X5_onesOf (G : JG) (v0 : Int32) (σ : ST) : Con (VM G) vI G.1 yX5_onesOf cX5_onesOf 3 (some .int) 0 0 [.int v0] σ (f_X5_onesOf v0 σ) :=
  Con_of (VM_ok G) (by decide +kernel) (Nat.le_of_ble_eq_true rfl) (fun E e1 e2 _ X => j_X5_onesOf ⟨X, e1, e2⟩ v0 σ)
set_option maxRecDepth 100000 in
set_option maxHeartbeats 4000000 in
theorem j_X5_isOne {E : JE} {G : JG} (X : JM E 2 cX5_isOne RX5 (some .boolean) 1 40 G) (v1 : Int32) (σ : ST) : Jg E 2 (JF E vI) [(0, .ref (gO G 50)), (1, .int v1)] 0 [] σ (f_X5_isOne v1 σ) := by
  have Y := X.1
  unfold f_X5_isOne
  refine J_iload_n Y 1 dX5_isOne_0 rfl rfl ?_
  refine J_iconst (v := (0 : Int32)) Y dX5_isOne_1 (by decide) ?_
  refine J_aload_n Y 0 dX5_isOne_2 rfl rfl ?_
  refine M_get 0 X (by decide) rfl wfl_RX5_75 rfl dX5_isOne_3 ?_
  refine J_iconst (v := (1 : Int32)) Y dX5_isOne_6 (by decide) ?_
  refine J_isub Y dX5_isOne_7 ?_
  refine M_cSi (As := [.int v1, .int (0 : Int32), .int ((gs 50 0 σ) - (1 : Int32))]) (st := []) rfl X (c_X5_in G v1 (0 : Int32) ((gs 50 0 σ) - (1 : Int32)) _) wi_X5_in wst_X5_in wml_RX5_78 ⟨Nat.le_of_ble_eq_true rfl, Nat.le_of_ble_eq_true rfl⟩ rfl (Nat.le_of_ble_eq_true rfl) dX5_isOne_8 (fun y8 t8 => ?_)
  exact J_zreturn Y dX5_isOne_11
theorem c_X5_isOne (G : JG) (v1 : Int32) (σ : ST) : Con (VM G) vI G.1 yX5_isOne cX5_isOne 2 (some .boolean) 1 40 [.ref (gO G 50), .int v1] σ (f_X5_isOne v1 σ) :=
  Con_of (VM_ok G) (by decide +kernel) (Nat.le_of_ble_eq_true rfl) (fun E e1 e2 _ X => j_X5_isOne ⟨X, e1, e2⟩ v1 σ)
set_option maxRecDepth 100000 in
set_option maxHeartbeats 4000000 in
theorem j_X5_isPlace {E : JE} {G : JG} (X : JM E 1 cX5_isPlace RX5 (some .boolean) 1 40 G) (v0 : Int32) (σ : ST) : Jg E 1 (JF E vI) [(0, .int v0)] 0 [] σ (f_X5_isPlace v0 σ) := by
  have Y := X.1
  unfold f_X5_isPlace
  refine J_iload_n Y 0 dX5_isPlace_0 rfl rfl ?_
  refine J_iconst (v := (0 : Int32)) Y dX5_isPlace_1 (by decide) ?_
  refine J_bipush (v := (7 : Int32)) Y dX5_isPlace_2 (by decide) ?_
  refine M_cSi (As := [.int v0, .int (0 : Int32), .int (7 : Int32)]) (st := []) rfl X (c_X5_in G v0 (0 : Int32) (7 : Int32) _) wi_X5_in wst_X5_in wml_RX5_78 ⟨Nat.le_of_ble_eq_true rfl, Nat.le_of_ble_eq_true rfl⟩ rfl (Nat.le_of_ble_eq_true rfl) dX5_isPlace_4 (fun y4 t4 => ?_)
  exact J_zreturn Y dX5_isPlace_7
theorem c_X5_isPlace (G : JG) (v0 : Int32) (σ : ST) : Con (VM G) vI G.1 yX5_isPlace cX5_isPlace 1 (some .boolean) 1 40 [.int v0] σ (f_X5_isPlace v0 σ) :=
  Con_of (VM_ok G) (by decide +kernel) (Nat.le_of_ble_eq_true rfl) (fun E e1 e2 _ X => j_X5_isPlace ⟨X, e1, e2⟩ v0 σ)
set_option maxRecDepth 100000 in
set_option maxHeartbeats 4000000 in
theorem j_X5_isHere_L21 {E : JE} {G : JG} (X : JM E 2 cX5_isHere RX5 (some .boolean) 0 0 G) (s0 : Int32) (σ : ST) : Jg E 2 (JF E vI) [] 21 [.int s0] σ (f_X5_isHere_L21 s0 σ) := by
  have Y := X.1
  unfold f_X5_isHere_L21
  exact J_zreturn Y dX5_isHere_21
set_option maxRecDepth 100000 in
set_option maxHeartbeats 4000000 in
theorem j_X5_isHere {E : JE} {G : JG} (X : JM E 2 cX5_isHere RX5 (some .boolean) 0 0 G) (v1 : Int32) (σ : ST) : Jg E 2 (JF E vI) [(0, .ref (gO G 50)), (1, .int v1)] 0 [] σ (f_X5_isHere v1 σ) := by
  have Y := X.1
  unfold f_X5_isHere
  refine J_aload_n Y 0 dX5_isHere_0 rfl rfl ?_
  refine M_get 3 X (by decide) rfl wfl_RX5_16 rfl dX5_isHere_1 ?_
  refine J_bipush (v := (12 : Int32)) Y dX5_isHere_4 (by decide) ?_
  refine J_iload_n Y 1 dX5_isHere_6 rfl rfl ?_
  refine J_imul Y dX5_isHere_7 ?_
  refine J_bipush (v := (10 : Int32)) Y dX5_isHere_8 (by decide) ?_
  refine J_iadd Y dX5_isHere_10 ?_
  refine M_ald X (mA_3 G _) dX5_isHere_11 (fun x11 => ?_)
  refine J_iconst (v := (-1 : Int32)) Y dX5_isHere_12 (by decide) ?_
  refine J_icmp_ne (tgt := 20) Y dX5_isHere_13 (by decide) ?_ ?_
  · refine J_iconst (v := (0 : Int32)) Y dX5_isHere_20 (by decide) ?_
    refine J_sub [] rfl ?_
    exact j_X5_isHere_L21 X (0 : Int32) σ
  · refine J_iconst (v := (1 : Int32)) Y dX5_isHere_16 (by decide) ?_
    refine J_goto (tgt := 21) Y dX5_isHere_17 (by decide) ?_
    refine J_sub [] rfl ?_
    exact j_X5_isHere_L21 X (1 : Int32) σ
theorem c_X5_isHere (G : JG) (v1 : Int32) (σ : ST) : Con (VM G) vI G.1 yX5_isHere cX5_isHere 2 (some .boolean) 0 0 [.ref (gO G 50), .int v1] σ (f_X5_isHere v1 σ) :=
  Con_of (VM_ok G) (by decide +kernel) (Nat.le_of_ble_eq_true rfl) (fun E e1 e2 _ X => j_X5_isHere ⟨X, e1, e2⟩ v1 σ)
set_option maxRecDepth 100000 in
set_option maxHeartbeats 4000000 in
theorem j_X5_hasSand_L25 {E : JE} {G : JG} (X : JM E 3 cX5_hasSand RX5 (some .boolean) 0 0 G) (s0 : Int32) (σ : ST) : Jg E 3 (JF E vI) [] 25 [.int s0] σ (f_X5_hasSand_L25 s0 σ) := by
  have Y := X.1
  unfold f_X5_hasSand_L25
  exact J_zreturn Y dX5_hasSand_25
set_option maxRecDepth 100000 in
set_option maxHeartbeats 4000000 in
theorem j_X5_hasSand {E : JE} {G : JG} (X : JM E 3 cX5_hasSand RX5 (some .boolean) 0 0 G) (v1 : Int32) (v2 : Int32) (σ : ST) : Jg E 3 (JF E vI) [(0, .ref (gO G 50)), (1, .int v1), (2, .int v2)] 0 [] σ (f_X5_hasSand v1 v2 σ) := by
  have Y := X.1
  unfold f_X5_hasSand
  refine J_aload_n Y 0 dX5_hasSand_0 rfl rfl ?_
  refine M_get 3 X (by decide) rfl wfl_RX5_16 rfl dX5_hasSand_1 ?_
  refine J_bipush (v := (12 : Int32)) Y dX5_hasSand_4 (by decide) ?_
  refine J_iload_n Y 1 dX5_hasSand_6 rfl rfl ?_
  refine J_imul Y dX5_hasSand_7 ?_
  refine J_bipush (v := (9 : Int32)) Y dX5_hasSand_8 (by decide) ?_
  refine J_iadd Y dX5_hasSand_10 ?_
  refine M_ald X (mA_3 G _) dX5_hasSand_11 (fun x11 => ?_)
  refine J_iload_n Y 2 dX5_hasSand_12 rfl rfl ?_
  refine J_ishr Y dX5_hasSand_13 ?_
  refine J_iconst (v := (1 : Int32)) Y dX5_hasSand_14 (by decide) ?_
  refine J_iand Y dX5_hasSand_15 ?_
  refine J_iconst (v := (1 : Int32)) Y dX5_hasSand_16 (by decide) ?_
  refine J_icmp_ne (tgt := 24) Y dX5_hasSand_17 (by decide) ?_ ?_
  · refine J_iconst (v := (0 : Int32)) Y dX5_hasSand_24 (by decide) ?_
    refine J_sub [] rfl ?_
    exact j_X5_hasSand_L25 X (0 : Int32) σ
  · refine J_iconst (v := (1 : Int32)) Y dX5_hasSand_20 (by decide) ?_
    refine J_goto (tgt := 25) Y dX5_hasSand_21 (by decide) ?_
    refine J_sub [] rfl ?_
    exact j_X5_hasSand_L25 X (1 : Int32) σ
theorem c_X5_hasSand (G : JG) (v1 : Int32) (v2 : Int32) (σ : ST) : Con (VM G) vI G.1 yX5_hasSand cX5_hasSand 3 (some .boolean) 0 0 [.ref (gO G 50), .int v1, .int v2] σ (f_X5_hasSand v1 v2 σ) :=
  Con_of (VM_ok G) (by decide +kernel) (Nat.le_of_ble_eq_true rfl) (fun E e1 e2 _ X => j_X5_hasSand ⟨X, e1, e2⟩ v1 v2 σ)
set_option maxRecDepth 100000 in
set_option maxHeartbeats 4000000 in
theorem j_X5_hereSet_L28 {E : JE} {G : JG} (X : JM E 3 cX5_hereSet RX5 (some .int) 1 40 G) {k4 : Int32 → Int32 → ST → Option (Int32 × ST)} (hk4 : ∀ (v1 : Int32) (v2 : Int32) (σ : ST), Jg E 3 (JF E vI) [(0, .ref (gO G 50)), (1, .int v1), (2, .int v2)] 4 [] σ (k4 v1 v2 σ)) (v2 : Int32) (s0 : Int32) (s1 : Int32) (σ : ST) : Jg E 3 (JF E vI) [(0, .ref (gO G 50)), (2, .int v2)] 28 [.int s0, .int s1] σ (f_X5_hereSet_L28 k4 v2 s0 s1 σ) := by
  have Y := X.1
  unfold f_X5_hereSet_L28
  refine J_ior Y dX5_hereSet_28 ?_
  refine J_istore_n [(1, .int (s1 ||| s0)), (0, .ref (gO G 50)), (2, .int v2)] Y dX5_hereSet_29 rfl (by decide) rfl ?_
  refine J_iinc (v := v2 + (1 : Int32)) [(2, .int (v2 + (1 : Int32))), (1, .int (s1 ||| s0)), (0, .ref (gO G 50))] Y 2 dX5_hereSet_30 rfl (congrArg (fun z => _ + z) (by decide)) (by decide) rfl ?_
  refine J_goto (tgt := 4) Y dX5_hereSet_33 (by decide) ?_
  refine J_sub [2, 1, 0] rfl ?_
  exact hk4 (s1 ||| s0) (v2 + (1 : Int32)) σ
set_option maxRecDepth 100000 in
set_option maxHeartbeats 4000000 in
theorem j_X5_hereSet_L4 {E : JE} {G : JG} (X : JM E 3 cX5_hereSet RX5 (some .int) 1 40 G) : ∀ (n : Nat) (v1 : Int32) (v2 : Int32) (σ : ST), Jg E 3 (JF E vI) [(0, .ref (gO G 50)), (1, .int v1), (2, .int v2)] 4 [] σ (f_X5_hereSet_L4 n v1 v2 σ) := by
  have Y := X.1
  intro n
  induction n with
  | zero => intro v1 v2 σ; rw [f_X5_hereSet_L4]; exact J_none
  | succ n ih =>
    intro v1 v2 σ
    rw [f_X5_hereSet_L4]
    refine J_iload_n Y 2 dX5_hereSet_4 rfl rfl ?_
    refine J_aload_n Y 0 dX5_hereSet_5 rfl rfl ?_
    refine M_get 0 X (by decide) rfl wfl_RX5_75 rfl dX5_hereSet_6 ?_
    refine J_icmp_ge (tgt := 36) Y dX5_hereSet_9 (by decide) ?_ ?_
    · refine J_iload_n Y 1 dX5_hereSet_36 rfl rfl ?_
      exact J_ireturn Y dX5_hereSet_37
    · refine J_iload_n Y 1 dX5_hereSet_12 rfl rfl ?_
      refine J_aload_n Y 0 dX5_hereSet_13 rfl rfl ?_
      refine J_iload_n Y 2 dX5_hereSet_14 rfl rfl ?_
      refine M_cVi (As := [.int v2]) (st := [.int v1]) rfl X (c_X5_isHere G v2 _) wi_X5_isHere win_X5_isHere wse_X5_isHere wml_RX5_82 ⟨Nat.le_of_ble_eq_true rfl, Nat.le_of_ble_eq_true rfl⟩ rfl (Nat.le_of_ble_eq_true rfl) dX5_hereSet_15 (fun y15 t15 => ?_)
      refine J_if_eq (tgt := 27) Y dX5_hereSet_18 (by decide) ?_ ?_
      · refine J_iconst (v := (0 : Int32)) Y dX5_hereSet_27 (by decide) ?_
        refine J_sub [0, 2] rfl ?_
        exact j_X5_hereSet_L28 X (fun v1 v2 σ => ih v1 v2 σ) v2 (0 : Int32) v1 t15
      · refine J_iconst (v := (1 : Int32)) Y dX5_hereSet_21 (by decide) ?_
        refine J_iload_n Y 2 dX5_hereSet_22 rfl rfl ?_
        refine J_ishl Y dX5_hereSet_23 ?_
        refine J_goto (tgt := 28) Y dX5_hereSet_24 (by decide) ?_
        refine J_sub [0, 2] rfl ?_
        exact j_X5_hereSet_L28 X (fun v1 v2 σ => ih v1 v2 σ) v2 ((1 : Int32) <<< (v2 &&& 31)) v1 t15
set_option maxRecDepth 100000 in
set_option maxHeartbeats 4000000 in
theorem j_X5_hereSet {E : JE} {G : JG} (X : JM E 3 cX5_hereSet RX5 (some .int) 1 40 G) (σ : ST) : Jg E 3 (JF E vI) [(0, .ref (gO G 50))] 0 [] σ (f_X5_hereSet σ) := by
  have Y := X.1
  unfold f_X5_hereSet
  refine J_iconst (v := (0 : Int32)) Y dX5_hereSet_0 (by decide) ?_
  refine J_istore_n [(1, .int (0 : Int32)), (0, .ref (gO G 50))] Y dX5_hereSet_1 rfl (by decide) rfl ?_
  refine J_iconst (v := (0 : Int32)) Y dX5_hereSet_2 (by decide) ?_
  refine J_istore_n [(2, .int (0 : Int32)), (1, .int (0 : Int32)), (0, .ref (gO G 50))] Y dX5_hereSet_3 rfl (by decide) rfl ?_
  refine J_sub [2, 1, 0] rfl ?_
  exact j_X5_hereSet_L4 X 1000 (0 : Int32) (0 : Int32) σ
theorem c_X5_hereSet (G : JG) (σ : ST) : Con (VM G) vI G.1 yX5_hereSet cX5_hereSet 3 (some .int) 1 40 [.ref (gO G 50)] σ (f_X5_hereSet σ) :=
  Con_of (VM_ok G) (by decide +kernel) (Nat.le_of_ble_eq_true rfl) (fun E e1 e2 _ X => j_X5_hereSet ⟨X, e1, e2⟩ σ)
set_option maxRecDepth 100000 in
set_option maxHeartbeats 4000000 in
theorem j_X5_witAll_L4 {E : JE} {G : JG} (X : JM E 3 cX5_witAll RX5 (some .int) 0 0 G) : ∀ (n : Nat) (v1 : Int32) (v2 : Int32) (σ : ST), Jg E 3 (JF E vI) [(0, .ref (gO G 50)), (1, .int v1), (2, .int v2)] 4 [] σ (f_X5_witAll_L4 n v1 v2 σ) := by
  have Y := X.1
  intro n
  induction n with
  | zero => intro v1 v2 σ; rw [f_X5_witAll_L4]; exact J_none
  | succ n ih =>
    intro v1 v2 σ
    rw [f_X5_witAll_L4]
    refine J_iload_n Y 2 dX5_witAll_4 rfl rfl ?_
    refine J_aload_n Y 0 dX5_witAll_5 rfl rfl ?_
    refine M_get 0 X (by decide) rfl wfl_RX5_75 rfl dX5_witAll_6 ?_
    refine J_icmp_ge (tgt := 33) Y dX5_witAll_9 (by decide) ?_ ?_
    · refine J_iload_n Y 1 dX5_witAll_33 rfl rfl ?_
      exact J_ireturn Y dX5_witAll_34
    · refine J_iload_n Y 1 dX5_witAll_12 rfl rfl ?_
      refine J_aload_n Y 0 dX5_witAll_13 rfl rfl ?_
      refine M_get 3 X (by decide) rfl wfl_RX5_16 rfl dX5_witAll_14 ?_
      refine J_bipush (v := (12 : Int32)) Y dX5_witAll_17 (by decide) ?_
      refine J_iload_n Y 2 dX5_witAll_19 rfl rfl ?_
      refine J_imul Y dX5_witAll_20 ?_
      refine J_bipush (v := (8 : Int32)) Y dX5_witAll_21 (by decide) ?_
      refine J_iadd Y dX5_witAll_23 ?_
      refine M_ald X (mA_3 G _) dX5_witAll_24 (fun x24 => ?_)
      refine J_iadd Y dX5_witAll_25 ?_
      refine J_istore_n [(1, .int (v1 + x24)), (0, .ref (gO G 50)), (2, .int v2)] Y dX5_witAll_26 rfl (by decide) rfl ?_
      refine J_iinc (v := v2 + (1 : Int32)) [(2, .int (v2 + (1 : Int32))), (1, .int (v1 + x24)), (0, .ref (gO G 50))] Y 2 dX5_witAll_27 rfl (congrArg (fun z => _ + z) (by decide)) (by decide) rfl ?_
      refine J_goto (tgt := 4) Y dX5_witAll_30 (by decide) ?_
      refine J_sub [2, 1, 0] rfl ?_
      exact ih (v1 + x24) (v2 + (1 : Int32)) σ
set_option maxRecDepth 100000 in
set_option maxHeartbeats 4000000 in
theorem j_X5_witAll {E : JE} {G : JG} (X : JM E 3 cX5_witAll RX5 (some .int) 0 0 G) (σ : ST) : Jg E 3 (JF E vI) [(0, .ref (gO G 50))] 0 [] σ (f_X5_witAll σ) := by
  have Y := X.1
  unfold f_X5_witAll
  refine J_iconst (v := (0 : Int32)) Y dX5_witAll_0 (by decide) ?_
  refine J_istore_n [(1, .int (0 : Int32)), (0, .ref (gO G 50))] Y dX5_witAll_1 rfl (by decide) rfl ?_
  refine J_iconst (v := (0 : Int32)) Y dX5_witAll_2 (by decide) ?_
  refine J_istore_n [(2, .int (0 : Int32)), (1, .int (0 : Int32)), (0, .ref (gO G 50))] Y dX5_witAll_3 rfl (by decide) rfl ?_
  refine J_sub [2, 1, 0] rfl ?_
  exact j_X5_witAll_L4 X 1000 (0 : Int32) (0 : Int32) σ
theorem c_X5_witAll (G : JG) (σ : ST) : Con (VM G) vI G.1 yX5_witAll cX5_witAll 3 (some .int) 0 0 [.ref (gO G 50)] σ (f_X5_witAll σ) :=
  Con_of (VM_ok G) (by decide +kernel) (Nat.le_of_ble_eq_true rfl) (fun E e1 e2 _ X => j_X5_witAll ⟨X, e1, e2⟩ σ)
set_option maxRecDepth 100000 in
set_option maxHeartbeats 4000000 in
theorem j_X5_count {E : JE} {G : JG} (X : JM E 2 cX5_count RX5 (some .int) 2 80 G) (v1 : Int32) (σ : ST) : Jg E 2 (JF E vI) [(0, .ref (gO G 50)), (1, .int v1)] 0 [] σ (f_X5_count v1 σ) := by
  have Y := X.1
  unfold f_X5_count
  refine J_iload_n Y 1 dX5_count_0 rfl rfl ?_
  refine J_ite (fun c1_0 => ?_) (fun c1_0 => ?_)
  · refine J_tin (tgt := 40) (0 : Int32) c1_0 Y dX5_count_1 (by decide) (by decide) rfl (by decide) ?_
    refine J_aload_n Y 0 dX5_count_40 rfl rfl ?_
    refine M_get 0 X (by decide) rfl wfl_RX5_75 rfl dX5_count_41 ?_
    exact J_ireturn Y dX5_count_44
  refine J_ite (fun c1_1 => ?_) (fun c1_1 => ?_)
  · refine J_tin (tgt := 45) (1 : Int32) c1_1 Y dX5_count_1 (by decide) (by decide) rfl (by decide) ?_
    refine J_aload_n Y 0 dX5_count_45 rfl rfl ?_
    refine M_get 4 X (by decide) rfl wfl_RX5_86 rfl dX5_count_46 ?_
    exact J_ireturn Y dX5_count_49
  refine J_ite (fun c1_2 => ?_) (fun c1_2 => ?_)
  · refine J_tin (tgt := 50) (2 : Int32) c1_2 Y dX5_count_1 (by decide) (by decide) rfl (by decide) ?_
    refine J_aload_n Y 0 dX5_count_50 rfl rfl ?_
    refine M_cVi (As := []) (st := []) rfl X (c_X5_hereSet G _) wi_X5_hereSet win_X5_hereSet wse_X5_hereSet wml_RX5_89 ⟨Nat.le_of_ble_eq_true rfl, Nat.le_of_ble_eq_true rfl⟩ rfl (Nat.le_of_ble_eq_true rfl) dX5_count_51 (fun y51 t51 => ?_)
    refine M_cSi (As := [.int y51]) (st := []) rfl X (c_X5_onesOf G y51 _) wi_X5_onesOf wst_X5_onesOf wml_RX5_92 ⟨Nat.le_of_ble_eq_true rfl, Nat.le_of_ble_eq_true rfl⟩ rfl (Nat.le_of_ble_eq_true rfl) dX5_count_54 (fun y54 t54 => ?_)
    exact J_ireturn Y dX5_count_57
  refine J_ite (fun c1_3 => ?_) (fun c1_3 => ?_)
  · refine J_tin (tgt := 58) (3 : Int32) c1_3 Y dX5_count_1 (by decide) (by decide) rfl (by decide) ?_
    refine J_aload_n Y 0 dX5_count_58 rfl rfl ?_
    refine M_get 9 X (by decide) rfl wfl_RX5_96 rfl dX5_count_59 ?_
    exact J_ireturn Y dX5_count_62
  refine J_ite (fun c1_4 => ?_) (fun c1_4 => ?_)
  · refine J_tin (tgt := 63) (4 : Int32) c1_4 Y dX5_count_1 (by decide) (by decide) rfl (by decide) ?_
    refine J_aload_n Y 0 dX5_count_63 rfl rfl ?_
    refine M_get 10 X (by decide) rfl wfl_RX5_99 rfl dX5_count_64 ?_
    exact J_ireturn Y dX5_count_67
  refine J_ite (fun c1_5 => ?_) (fun c1_5 => ?_)
  · refine J_tin (tgt := 68) (5 : Int32) c1_5 Y dX5_count_1 (by decide) (by decide) rfl (by decide) ?_
    refine J_aload_n Y 0 dX5_count_68 rfl rfl ?_
    refine M_get 6 X (by decide) rfl wfl_RX5_67 rfl dX5_count_69 ?_
    exact J_ireturn Y dX5_count_72
  have e1_0 := lv_neT c1_0 (show ((0 : Int32)).toInt = (0 : Int) by decide)
  have e1_1 := lv_neT c1_1 (show ((1 : Int32)).toInt = (1 : Int) by decide)
  have e1_2 := lv_neT c1_2 (show ((2 : Int32)).toInt = (2 : Int) by decide)
  have e1_3 := lv_neT c1_3 (show ((3 : Int32)).toInt = (3 : Int) by decide)
  have e1_4 := lv_neT c1_4 (show ((4 : Int32)).toInt = (4 : Int) by decide)
  have e1_5 := lv_neT c1_5 (show ((5 : Int32)).toInt = (5 : Int) by decide)
  refine J_tout (tgt := 73) Y dX5_count_1 (by omega) (by decide) ?_
  refine J_bipush (v := (-2 : Int32)) Y dX5_count_73 (by decide) ?_
  exact J_ireturn Y dX5_count_75
theorem c_X5_count (G : JG) (v1 : Int32) (σ : ST) : Con (VM G) vI G.1 yX5_count cX5_count 2 (some .int) 2 80 [.ref (gO G 50), .int v1] σ (f_X5_count v1 σ) :=
  Con_of (VM_ok G) (by decide +kernel) (Nat.le_of_ble_eq_true rfl) (fun E e1 e2 _ X => j_X5_count ⟨X, e1, e2⟩ v1 σ)
set_option maxRecDepth 100000 in
set_option maxHeartbeats 4000000 in
theorem j_X5_clock {E : JE} {G : JG} (X : JM E 3 cX5_clock RX5 (some .int) 1 40 G) (v1 : Int32) (σ : ST) : Jg E 3 (JF E vI) [(0, .ref (gO G 50)), (1, .int v1)] 0 [] σ (f_X5_clock v1 σ) := by
  have Y := X.1
  unfold f_X5_clock
  refine J_iload_n Y 1 dX5_clock_0 rfl rfl ?_
  refine J_iconst (v := (0 : Int32)) Y dX5_clock_1 (by decide) ?_
  refine J_sipush (v := (999 : Int32)) Y dX5_clock_2 (by decide) ?_
  refine M_cSi (As := [.int v1, .int (0 : Int32), .int (999 : Int32)]) (st := []) rfl X (c_X5_in G v1 (0 : Int32) (999 : Int32) _) wi_X5_in wst_X5_in wml_RX5_78 ⟨Nat.le_of_ble_eq_true rfl, Nat.le_of_ble_eq_true rfl⟩ rfl (Nat.le_of_ble_eq_true rfl) dX5_clock_5 (fun y5 t5 => ?_)
  refine J_if_ne (tgt := 14) Y dX5_clock_8 (by decide) ?_ ?_
  · refine J_aload_n Y 0 dX5_clock_14 rfl rfl ?_
    refine M_get 4 X (by decide) rfl wfl_RX5_86 rfl dX5_clock_15 ?_
    refine J_istore_n [(2, .int (gs 50 4 t5)), (0, .ref (gO G 50)), (1, .int v1)] Y dX5_clock_18 rfl (by decide) rfl ?_
    refine J_aload_n Y 1 dX5_clock_19 rfl rfl ?_
    refine J_iload_n Y 2 dX5_clock_20 rfl rfl ?_
    refine M_put 4 (ty := .int) X (by decide) wfl_RX5_86 rfl rfl rfl (by decide +kernel) rfl (mF_4 G _ _) dX5_clock_21 (fun t21 => ?_)
    refine J_iload_n Y 0 dX5_clock_24 rfl rfl ?_
    exact J_ireturn Y dX5_clock_25
  · refine J_bipush (v := (-2 : Int32)) Y dX5_clock_11 (by decide) ?_
    exact J_ireturn Y dX5_clock_13
theorem c_X5_clock (G : JG) (v1 : Int32) (σ : ST) : Con (VM G) vI G.1 yX5_clock cX5_clock 3 (some .int) 1 40 [.ref (gO G 50), .int v1] σ (f_X5_clock v1 σ) :=
  Con_of (VM_ok G) (by decide +kernel) (Nat.le_of_ble_eq_true rfl) (fun E e1 e2 _ X => j_X5_clock ⟨X, e1, e2⟩ v1 σ)
set_option maxRecDepth 100000 in
set_option maxHeartbeats 4000000 in
theorem j_X5_isByte {E : JE} {G : JG} (X : JM E 1 cX5_isByte RX5 (some .boolean) 1 40 G) (v0 : Int32) (σ : ST) : Jg E 1 (JF E vI) [(0, .int v0)] 0 [] σ (f_X5_isByte v0 σ) := by
  have Y := X.1
  unfold f_X5_isByte
  refine J_iload_n Y 0 dX5_isByte_0 rfl rfl ?_
  refine J_iconst (v := (0 : Int32)) Y dX5_isByte_1 (by decide) ?_
  refine J_sipush (v := (255 : Int32)) Y dX5_isByte_2 (by decide) ?_
  refine M_cSi (As := [.int v0, .int (0 : Int32), .int (255 : Int32)]) (st := []) rfl X (c_X5_in G v0 (0 : Int32) (255 : Int32) _) wi_X5_in wst_X5_in wml_RX5_78 ⟨Nat.le_of_ble_eq_true rfl, Nat.le_of_ble_eq_true rfl⟩ rfl (Nat.le_of_ble_eq_true rfl) dX5_isByte_5 (fun y5 t5 => ?_)
  exact J_zreturn Y dX5_isByte_8
theorem c_X5_isByte (G : JG) (v0 : Int32) (σ : ST) : Con (VM G) vI G.1 yX5_isByte cX5_isByte 1 (some .boolean) 1 40 [.int v0] σ (f_X5_isByte v0 σ) :=
  Con_of (VM_ok G) (by decide +kernel) (Nat.le_of_ble_eq_true rfl) (fun E e1 e2 _ X => j_X5_isByte ⟨X, e1, e2⟩ v0 σ)
set_option maxRecDepth 100000 in
set_option maxHeartbeats 4000000 in
theorem j_X5_feed_L47 {E : JE} {G : JG} (X : JM E 8 cX5_feed RX5 (some .int) 2 80 G) (σ : ST) : Jg E 8 (JF E vI) [] 47 [] σ (f_X5_feed_L47 σ) := by
  have Y := X.1
  unfold f_X5_feed_L47
  refine J_bipush (v := (-2 : Int32)) Y dX5_feed_47 (by decide) ?_
  exact J_ireturn Y dX5_feed_49
set_option maxRecDepth 100000 in
set_option maxHeartbeats 4000000 in
theorem j_X5_feed_L125 {E : JE} {G : JG} (X : JM E 8 cX5_feed RX5 (some .int) 2 80 G) {k68 : Int32 → Int32 → Int32 → Int32 → Int32 → Int32 → Int32 → ST → Option (Int32 × ST)} (hk68 : ∀ (v1 : Int32) (v2 : Int32) (v3 : Int32) (v4 : Int32) (v5 : Int32) (v6 : Int32) (v7 : Int32) (σ : ST), Jg E 8 (JF E vI) [(0, .ref (gO G 50)), (1, .int v1), (2, .int v2), (3, .int v3), (4, .int v4), (5, .int v5), (6, .int v6), (7, .int v7)] 68 [] σ (k68 v1 v2 v3 v4 v5 v6 v7 σ)) (v1 : Int32) (v2 : Int32) (v3 : Int32) (v4 : Int32) (v5 : Int32) (v6 : Int32) (v7 : Int32) (s0 : Int32) (s1 : Int32) (σ : ST) : Jg E 8 (JF E vI) [(0, .ref (gO G 50)), (1, .int v1), (2, .int v2), (3, .int v3), (4, .int v4), (5, .int v5), (6, .int v6), (7, .int v7)] 125 [.int s0, .int s1, .ref (gA G 50 5)] σ (f_X5_feed_L125 k68 v1 v2 v3 v4 v5 v6 v7 s0 s1 σ) := by
  have Y := X.1
  unfold f_X5_feed_L125
  refine M_ast X (mA_5 G _) (mS_5 G _) dX5_feed_125 (fun t125 => ?_)
  refine J_aload_n Y 0 dX5_feed_126 rfl rfl ?_
  refine J_dup Y dX5_feed_127 rfl ?_
  refine M_get 6 X (by decide) rfl wfl_RX5_67 rfl dX5_feed_128 ?_
  refine J_iconst (v := (1 : Int32)) Y dX5_feed_131 (by decide) ?_
  refine J_iadd Y dX5_feed_132 ?_
  refine M_put 6 (ty := .int) X (by decide) wfl_RX5_67 rfl rfl rfl (by decide +kernel) rfl (mF_6 G _ _) dX5_feed_133 (fun t133 => ?_)
  refine J_iinc (v := v7 + (1 : Int32)) [(7, .int (v7 + (1 : Int32))), (0, .ref (gO G 50)), (1, .int v1), (2, .int v2), (3, .int v3), (4, .int v4), (5, .int v5), (6, .int v6)] Y 7 dX5_feed_136 rfl (congrArg (fun z => _ + z) (by decide)) (by decide) rfl ?_
  refine J_goto (tgt := 68) Y dX5_feed_139 (by decide) ?_
  refine J_sub [1, 2, 3, 4, 5, 6, 7, 0] rfl ?_
  exact hk68 v1 v2 v3 v4 v5 v6 (v7 + (1 : Int32)) t133
set_option maxRecDepth 100000 in
set_option maxHeartbeats 4000000 in
theorem j_X5_feed_L142 {E : JE} {G : JG} (X : JM E 8 cX5_feed RX5 (some .int) 2 80 G) (σ : ST) : Jg E 8 (JF E vI) [(0, .ref (gO G 50))] 142 [] σ (f_X5_feed_L142 σ) := by
  have Y := X.1
  unfold f_X5_feed_L142
  refine J_aload_n Y 0 dX5_feed_142 rfl rfl ?_
  refine M_get 6 X (by decide) rfl wfl_RX5_67 rfl dX5_feed_143 ?_
  exact J_ireturn Y dX5_feed_146
set_option maxRecDepth 100000 in
set_option maxHeartbeats 4000000 in
theorem j_X5_feed_L68 {E : JE} {G : JG} (X : JM E 8 cX5_feed RX5 (some .int) 2 80 G) : ∀ (n : Nat) (v1 : Int32) (v2 : Int32) (v3 : Int32) (v4 : Int32) (v5 : Int32) (v6 : Int32) (v7 : Int32) (σ : ST), Jg E 8 (JF E vI) [(0, .ref (gO G 50)), (1, .int v1), (2, .int v2), (3, .int v3), (4, .int v4), (5, .int v5), (6, .int v6), (7, .int v7)] 68 [] σ (f_X5_feed_L68 n v1 v2 v3 v4 v5 v6 v7 σ) := by
  have Y := X.1
  intro n
  induction n with
  | zero => intro v1 v2 v3 v4 v5 v6 v7 σ; rw [f_X5_feed_L68]; exact J_none
  | succ n ih =>
    intro v1 v2 v3 v4 v5 v6 v7 σ
    rw [f_X5_feed_L68]
    refine J_iload Y 7 dX5_feed_68 rfl ?_
    refine J_iload_n Y 1 dX5_feed_70 rfl rfl ?_
    refine J_icmp_ge (tgt := 142) Y dX5_feed_71 (by decide) ?_ ?_
    · refine J_sub [0] rfl ?_
      exact j_X5_feed_L142 X  σ
    · refine J_aload_n Y 0 dX5_feed_74 rfl rfl ?_
      refine M_get 5 X (by decide) rfl wfl_RX5_19 rfl dX5_feed_75 ?_
      refine J_aload_n Y 0 dX5_feed_78 rfl rfl ?_
      refine M_get 6 X (by decide) rfl wfl_RX5_67 rfl dX5_feed_79 ?_
      refine J_iload Y 7 dX5_feed_82 rfl ?_
      refine J_if_ne (tgt := 91) Y dX5_feed_84 (by decide) ?_ ?_
      · refine J_iload Y 7 dX5_feed_91 rfl ?_
        refine J_iconst (v := (1 : Int32)) Y dX5_feed_93 (by decide) ?_
        refine J_icmp_ne (tgt := 101) Y dX5_feed_94 (by decide) ?_ ?_
        · refine J_iload Y 7 dX5_feed_101 rfl ?_
          refine J_iconst (v := (2 : Int32)) Y dX5_feed_103 (by decide) ?_
          refine J_icmp_ne (tgt := 112) Y dX5_feed_104 (by decide) ?_ ?_
          · refine J_iload Y 7 dX5_feed_112 rfl ?_
            refine J_iconst (v := (3 : Int32)) Y dX5_feed_114 (by decide) ?_
            refine J_icmp_ne (tgt := 123) Y dX5_feed_115 (by decide) ?_ ?_
            · refine J_iload Y 6 dX5_feed_123 rfl ?_
              exact j_X5_feed_L125 X (fun v1 v2 v3 v4 v5 v6 v7 σ => ih v1 v2 v3 v4 v5 v6 v7 σ) v1 v2 v3 v4 v5 v6 v7 v6 (gs 50 6 σ) σ
            · refine J_iload Y 5 dX5_feed_118 rfl ?_
              refine J_goto (tgt := 125) Y dX5_feed_120 (by decide) ?_
              exact j_X5_feed_L125 X (fun v1 v2 v3 v4 v5 v6 v7 σ => ih v1 v2 v3 v4 v5 v6 v7 σ) v1 v2 v3 v4 v5 v6 v7 v5 (gs 50 6 σ) σ
          · refine J_iload Y 4 dX5_feed_107 rfl ?_
            refine J_goto (tgt := 125) Y dX5_feed_109 (by decide) ?_
            exact j_X5_feed_L125 X (fun v1 v2 v3 v4 v5 v6 v7 σ => ih v1 v2 v3 v4 v5 v6 v7 σ) v1 v2 v3 v4 v5 v6 v7 v4 (gs 50 6 σ) σ
        · refine J_iload_n Y 3 dX5_feed_97 rfl rfl ?_
          refine J_goto (tgt := 125) Y dX5_feed_98 (by decide) ?_
          exact j_X5_feed_L125 X (fun v1 v2 v3 v4 v5 v6 v7 σ => ih v1 v2 v3 v4 v5 v6 v7 σ) v1 v2 v3 v4 v5 v6 v7 v3 (gs 50 6 σ) σ
      · refine J_iload_n Y 2 dX5_feed_87 rfl rfl ?_
        refine J_goto (tgt := 125) Y dX5_feed_88 (by decide) ?_
        exact j_X5_feed_L125 X (fun v1 v2 v3 v4 v5 v6 v7 σ => ih v1 v2 v3 v4 v5 v6 v7 σ) v1 v2 v3 v4 v5 v6 v7 v2 (gs 50 6 σ) σ
set_option maxRecDepth 100000 in
set_option maxHeartbeats 4000000 in
theorem j_X5_feed {E : JE} {G : JG} (X : JM E 8 cX5_feed RX5 (some .int) 2 80 G) (v1 : Int32) (v2 : Int32) (v3 : Int32) (v4 : Int32) (v5 : Int32) (v6 : Int32) (σ : ST) : Jg E 8 (JF E vI) [(0, .ref (gO G 50)), (1, .int v1), (2, .int v2), (3, .int v3), (4, .int v4), (5, .int v5), (6, .int v6)] 0 [] σ (f_X5_feed v1 v2 v3 v4 v5 v6 σ) := by
  have Y := X.1
  unfold f_X5_feed
  refine J_iload_n Y 1 dX5_feed_0 rfl rfl ?_
  refine J_iconst (v := (1 : Int32)) Y dX5_feed_1 (by decide) ?_
  refine J_iconst (v := (5 : Int32)) Y dX5_feed_2 (by decide) ?_
  refine M_cSi (As := [.int v1, .int (1 : Int32), .int (5 : Int32)]) (st := []) rfl X (c_X5_in G v1 (1 : Int32) (5 : Int32) _) wi_X5_in wst_X5_in wml_RX5_78 ⟨Nat.le_of_ble_eq_true rfl, Nat.le_of_ble_eq_true rfl⟩ rfl (Nat.le_of_ble_eq_true rfl) dX5_feed_3 (fun y3 t3 => ?_)
  refine J_if_eq (tgt := 47) Y dX5_feed_6 (by decide) ?_ ?_
  · refine J_sub [] rfl ?_
    exact j_X5_feed_L47 X  t3
  · refine J_iload_n Y 2 dX5_feed_9 rfl rfl ?_
    refine M_cSi (As := [.int v2]) (st := []) rfl X (c_X5_isByte G v2 _) wi_X5_isByte wst_X5_isByte wml_RX5_102 ⟨Nat.le_of_ble_eq_true rfl, Nat.le_of_ble_eq_true rfl⟩ rfl (Nat.le_of_ble_eq_true rfl) dX5_feed_10 (fun y10 t10 => ?_)
    refine J_if_eq (tgt := 47) Y dX5_feed_13 (by decide) ?_ ?_
    · refine J_sub [] rfl ?_
      exact j_X5_feed_L47 X  t10
    · refine J_iload_n Y 3 dX5_feed_16 rfl rfl ?_
      refine M_cSi (As := [.int v3]) (st := []) rfl X (c_X5_isByte G v3 _) wi_X5_isByte wst_X5_isByte wml_RX5_102 ⟨Nat.le_of_ble_eq_true rfl, Nat.le_of_ble_eq_true rfl⟩ rfl (Nat.le_of_ble_eq_true rfl) dX5_feed_17 (fun y17 t17 => ?_)
      refine J_if_eq (tgt := 47) Y dX5_feed_20 (by decide) ?_ ?_
      · refine J_sub [] rfl ?_
        exact j_X5_feed_L47 X  t17
      · refine J_iload Y 4 dX5_feed_23 rfl ?_
        refine M_cSi (As := [.int v4]) (st := []) rfl X (c_X5_isByte G v4 _) wi_X5_isByte wst_X5_isByte wml_RX5_102 ⟨Nat.le_of_ble_eq_true rfl, Nat.le_of_ble_eq_true rfl⟩ rfl (Nat.le_of_ble_eq_true rfl) dX5_feed_25 (fun y25 t25 => ?_)
        refine J_if_eq (tgt := 47) Y dX5_feed_28 (by decide) ?_ ?_
        · refine J_sub [] rfl ?_
          exact j_X5_feed_L47 X  t25
        · refine J_iload Y 5 dX5_feed_31 rfl ?_
          refine M_cSi (As := [.int v5]) (st := []) rfl X (c_X5_isByte G v5 _) wi_X5_isByte wst_X5_isByte wml_RX5_102 ⟨Nat.le_of_ble_eq_true rfl, Nat.le_of_ble_eq_true rfl⟩ rfl (Nat.le_of_ble_eq_true rfl) dX5_feed_33 (fun y33 t33 => ?_)
          refine J_if_eq (tgt := 47) Y dX5_feed_36 (by decide) ?_ ?_
          · refine J_sub [] rfl ?_
            exact j_X5_feed_L47 X  t33
          · refine J_iload Y 6 dX5_feed_39 rfl ?_
            refine M_cSi (As := [.int v6]) (st := []) rfl X (c_X5_isByte G v6 _) wi_X5_isByte wst_X5_isByte wml_RX5_102 ⟨Nat.le_of_ble_eq_true rfl, Nat.le_of_ble_eq_true rfl⟩ rfl (Nat.le_of_ble_eq_true rfl) dX5_feed_41 (fun y41 t41 => ?_)
            refine J_if_ne (tgt := 50) Y dX5_feed_44 (by decide) ?_ ?_
            · refine J_aload_n Y 0 dX5_feed_50 rfl rfl ?_
              refine M_get 6 X (by decide) rfl wfl_RX5_67 rfl dX5_feed_51 ?_
              refine J_iload_n Y 1 dX5_feed_54 rfl rfl ?_
              refine J_iadd Y dX5_feed_55 ?_
              refine J_sipush (v := (160 : Int32)) Y dX5_feed_56 (by decide) ?_
              refine J_icmp_le (tgt := 65) Y dX5_feed_59 (by decide) ?_ ?_
              · refine J_iconst (v := (0 : Int32)) Y dX5_feed_65 (by decide) ?_
                refine J_istore [(7, .int (0 : Int32)), (0, .ref (gO G 50)), (1, .int v1), (2, .int v2), (3, .int v3), (4, .int v4), (5, .int v5), (6, .int v6)] Y dX5_feed_66 (by decide) rfl ?_
                refine J_sub [1, 2, 3, 4, 5, 6, 7, 0] rfl ?_
                exact j_X5_feed_L68 X 1000 v1 v2 v3 v4 v5 v6 (0 : Int32) t41
              · refine J_bipush (v := (-4 : Int32)) Y dX5_feed_62 (by decide) ?_
                exact J_ireturn Y dX5_feed_64
            · refine J_sub [] rfl ?_
              exact j_X5_feed_L47 X  t41
theorem c_X5_feed (G : JG) (v1 : Int32) (v2 : Int32) (v3 : Int32) (v4 : Int32) (v5 : Int32) (v6 : Int32) (σ : ST) : Con (VM G) vI G.1 yX5_feed cX5_feed 8 (some .int) 2 80 [.ref (gO G 50), .int v1, .int v2, .int v3, .int v4, .int v5, .int v6] σ (f_X5_feed v1 v2 v3 v4 v5 v6 σ) :=
  Con_of (VM_ok G) (by decide +kernel) (Nat.le_of_ble_eq_true rfl) (fun E e1 e2 _ X => j_X5_feed ⟨X, e1, e2⟩ v1 v2 v3 v4 v5 v6 σ)
set_option maxRecDepth 100000 in
set_option maxHeartbeats 4000000 in
theorem j_X5_wordFrom_L80 {E : JE} {G : JG} (X : JM E 6 cX5_wordFrom RX5 (some .int) 0 0 G) {k2 : Int32 → Int32 → Int32 → ST → Option (Int32 × ST)} (hk2 : ∀ (v1 : Int32) (v2 : Int32) (v3 : Int32) (σ : ST), Jg E 6 (JF E vI) [(0, .ref (gO G 50)), (1, .int v1), (2, .int v2), (3, .int v3)] 2 [] σ (k2 v1 v2 v3 σ)) {k26 : Int32 → Int32 → Int32 → Int32 → Int32 → ST → Option (Int32 × ST)} (hk26 : ∀ (v1 : Int32) (v2 : Int32) (v3 : Int32) (v4 : Int32) (v5 : Int32) (σ : ST), Jg E 6 (JF E vI) [(0, .ref (gO G 50)), (1, .int v1), (2, .int v2), (3, .int v3), (4, .int v4), (5, .int v5)] 26 [] σ (k26 v1 v2 v3 v4 v5 σ)) (v1 : Int32) (v2 : Int32) (v3 : Int32) (v5 : Int32) (s0 : Int32) (σ : ST) : Jg E 6 (JF E vI) [(0, .ref (gO G 50)), (1, .int v1), (2, .int v2), (3, .int v3), (5, .int v5)] 80 [.int s0] σ (f_X5_wordFrom_L80 k2 k26 v1 v2 v3 v5 s0 σ) := by
  have Y := X.1
  unfold f_X5_wordFrom_L80
  refine J_istore [(4, .int s0), (0, .ref (gO G 50)), (1, .int v1), (2, .int v2), (3, .int v3), (5, .int v5)] Y dX5_wordFrom_80 (by decide) rfl ?_
  refine J_iinc (v := v5 + (1 : Int32)) [(5, .int (v5 + (1 : Int32))), (4, .int s0), (0, .ref (gO G 50)), (1, .int v1), (2, .int v2), (3, .int v3)] Y 5 dX5_wordFrom_82 rfl (congrArg (fun z => _ + z) (by decide)) (by decide) rfl ?_
  refine J_goto (tgt := 26) Y dX5_wordFrom_85 (by decide) ?_
  refine J_sub [2, 3, 4, 5, 1, 0] rfl ?_
  exact hk26 v1 v2 v3 s0 (v5 + (1 : Int32)) σ
set_option maxRecDepth 100000 in
set_option maxHeartbeats 4000000 in
theorem j_X5_wordFrom_L72 {E : JE} {G : JG} (X : JM E 6 cX5_wordFrom RX5 (some .int) 0 0 G) {k2 : Int32 → Int32 → Int32 → ST → Option (Int32 × ST)} (hk2 : ∀ (v1 : Int32) (v2 : Int32) (v3 : Int32) (σ : ST), Jg E 6 (JF E vI) [(0, .ref (gO G 50)), (1, .int v1), (2, .int v2), (3, .int v3)] 2 [] σ (k2 v1 v2 v3 σ)) {k26 : Int32 → Int32 → Int32 → Int32 → Int32 → ST → Option (Int32 × ST)} (hk26 : ∀ (v1 : Int32) (v2 : Int32) (v3 : Int32) (v4 : Int32) (v5 : Int32) (σ : ST), Jg E 6 (JF E vI) [(0, .ref (gO G 50)), (1, .int v1), (2, .int v2), (3, .int v3), (4, .int v4), (5, .int v5)] 26 [] σ (k26 v1 v2 v3 v4 v5 σ)) (v1 : Int32) (v2 : Int32) (v3 : Int32) (v5 : Int32) (s0 : Int32) (s1 : Int32) (σ : ST) : Jg E 6 (JF E vI) [(0, .ref (gO G 50)), (1, .int v1), (2, .int v2), (3, .int v3), (5, .int v5)] 72 [.int s0, .int s1] σ (f_X5_wordFrom_L72 k2 k26 v1 v2 v3 v5 s0 s1 σ) := by
  have Y := X.1
  unfold f_X5_wordFrom_L72
  refine J_icmp_ne (tgt := 79) Y dX5_wordFrom_72 (by decide) ?_ ?_
  · refine J_iconst (v := (0 : Int32)) Y dX5_wordFrom_79 (by decide) ?_
    exact j_X5_wordFrom_L80 X hk2 hk26 v1 v2 v3 v5 (0 : Int32) σ
  · refine J_iconst (v := (1 : Int32)) Y dX5_wordFrom_75 (by decide) ?_
    refine J_goto (tgt := 80) Y dX5_wordFrom_76 (by decide) ?_
    exact j_X5_wordFrom_L80 X hk2 hk26 v1 v2 v3 v5 (1 : Int32) σ
set_option maxRecDepth 100000 in
set_option maxHeartbeats 4000000 in
theorem j_X5_wordFrom_L88 {E : JE} {G : JG} (X : JM E 6 cX5_wordFrom RX5 (some .int) 0 0 G) {k2 : Int32 → Int32 → Int32 → ST → Option (Int32 × ST)} (hk2 : ∀ (v1 : Int32) (v2 : Int32) (v3 : Int32) (σ : ST), Jg E 6 (JF E vI) [(0, .ref (gO G 50)), (1, .int v1), (2, .int v2), (3, .int v3)] 2 [] σ (k2 v1 v2 v3 σ)) (v1 : Int32) (v2 : Int32) (v3 : Int32) (v4 : Int32) (σ : ST) : Jg E 6 (JF E vI) [(0, .ref (gO G 50)), (1, .int v1), (2, .int v2), (3, .int v3), (4, .int v4)] 88 [] σ (f_X5_wordFrom_L88 k2 v1 v2 v3 v4 σ) := by
  have Y := X.1
  unfold f_X5_wordFrom_L88
  refine J_iload Y 4 dX5_wordFrom_88 rfl ?_
  refine J_if_eq (tgt := 95) Y dX5_wordFrom_90 (by decide) ?_ ?_
  · refine J_iinc (v := v3 + (1 : Int32)) [(3, .int (v3 + (1 : Int32))), (0, .ref (gO G 50)), (1, .int v1), (2, .int v2), (4, .int v4)] Y 3 dX5_wordFrom_95 rfl (congrArg (fun z => _ + z) (by decide)) (by decide) rfl ?_
    refine J_goto (tgt := 2) Y dX5_wordFrom_98 (by decide) ?_
    refine J_sub [1, 2, 3, 0] rfl ?_
    exact hk2 v1 v2 (v3 + (1 : Int32)) σ
  · refine J_iload_n Y 3 dX5_wordFrom_93 rfl rfl ?_
    exact J_ireturn Y dX5_wordFrom_94
set_option maxRecDepth 100000 in
set_option maxHeartbeats 4000000 in
theorem j_X5_wordFrom_L26 {E : JE} {G : JG} (X : JM E 6 cX5_wordFrom RX5 (some .int) 0 0 G) {k2 : Int32 → Int32 → Int32 → ST → Option (Int32 × ST)} (hk2 : ∀ (v1 : Int32) (v2 : Int32) (v3 : Int32) (σ : ST), Jg E 6 (JF E vI) [(0, .ref (gO G 50)), (1, .int v1), (2, .int v2), (3, .int v3)] 2 [] σ (k2 v1 v2 v3 σ)) : ∀ (n : Nat) (v1 : Int32) (v2 : Int32) (v3 : Int32) (v4 : Int32) (v5 : Int32) (σ : ST), Jg E 6 (JF E vI) [(0, .ref (gO G 50)), (1, .int v1), (2, .int v2), (3, .int v3), (4, .int v4), (5, .int v5)] 26 [] σ (f_X5_wordFrom_L26 n k2 v1 v2 v3 v4 v5 σ) := by
  have Y := X.1
  intro n
  induction n with
  | zero => intro v1 v2 v3 v4 v5 σ; rw [f_X5_wordFrom_L26]; exact J_none
  | succ n ih =>
    intro v1 v2 v3 v4 v5 σ
    rw [f_X5_wordFrom_L26]
    refine J_iload Y 5 dX5_wordFrom_26 rfl ?_
    refine J_bipush (v := (8 : Int32)) Y dX5_wordFrom_28 (by decide) ?_
    refine J_icmp_ge (tgt := 88) Y dX5_wordFrom_30 (by decide) ?_ ?_
    · refine J_sub [0, 1, 2, 3, 4] rfl ?_
      exact j_X5_wordFrom_L88 X hk2 v1 v2 v3 v4 σ
    · refine J_iload Y 4 dX5_wordFrom_33 rfl ?_
      refine J_if_eq (tgt := 88) Y dX5_wordFrom_35 (by decide) ?_ ?_
      · refine J_sub [0, 1, 2, 3, 4] rfl ?_
        exact j_X5_wordFrom_L88 X hk2 v1 v2 v3 v4 σ
      · refine J_aload_n Y 0 dX5_wordFrom_38 rfl rfl ?_
        refine M_get 22 X (by decide) rfl wfl_RX5_46 rfl dX5_wordFrom_39 ?_
        refine J_bipush (v := (8 : Int32)) Y dX5_wordFrom_42 (by decide) ?_
        refine J_iload_n Y 3 dX5_wordFrom_44 rfl rfl ?_
        refine J_imul Y dX5_wordFrom_45 ?_
        refine J_iload Y 5 dX5_wordFrom_46 rfl ?_
        refine J_iadd Y dX5_wordFrom_48 ?_
        refine M_ald X (mA_22 G _) dX5_wordFrom_49 (fun x49 => ?_)
        refine J_iload_n Y 1 dX5_wordFrom_50 rfl rfl ?_
        refine J_iload Y 5 dX5_wordFrom_51 rfl ?_
        refine J_iadd Y dX5_wordFrom_53 ?_
        refine J_iload_n Y 2 dX5_wordFrom_54 rfl rfl ?_
        refine J_icmp_ge (tgt := 70) Y dX5_wordFrom_55 (by decide) ?_ ?_
        · refine J_bipush (v := (32 : Int32)) Y dX5_wordFrom_70 (by decide) ?_
          refine J_sub [0, 1, 2, 3, 5] rfl ?_
          exact j_X5_wordFrom_L72 X hk2 (fun v1 v2 v3 v4 v5 σ => ih v1 v2 v3 v4 v5 σ) v1 v2 v3 v5 (32 : Int32) x49 σ
        · refine J_aload_n Y 0 dX5_wordFrom_58 rfl rfl ?_
          refine M_get 5 X (by decide) rfl wfl_RX5_19 rfl dX5_wordFrom_59 ?_
          refine J_iload_n Y 1 dX5_wordFrom_62 rfl rfl ?_
          refine J_iload Y 5 dX5_wordFrom_63 rfl ?_
          refine J_iadd Y dX5_wordFrom_65 ?_
          refine M_ald X (mA_5 G _) dX5_wordFrom_66 (fun x66 => ?_)
          refine J_goto (tgt := 72) Y dX5_wordFrom_67 (by decide) ?_
          refine J_sub [0, 1, 2, 3, 5] rfl ?_
          exact j_X5_wordFrom_L72 X hk2 (fun v1 v2 v3 v4 v5 σ => ih v1 v2 v3 v4 v5 σ) v1 v2 v3 v5 x66 x49 σ
set_option maxRecDepth 100000 in
set_option maxHeartbeats 4000000 in
theorem j_X5_wordFrom_L21 {E : JE} {G : JG} (X : JM E 6 cX5_wordFrom RX5 (some .int) 0 0 G) {k2 : Int32 → Int32 → Int32 → ST → Option (Int32 × ST)} (hk2 : ∀ (v1 : Int32) (v2 : Int32) (v3 : Int32) (σ : ST), Jg E 6 (JF E vI) [(0, .ref (gO G 50)), (1, .int v1), (2, .int v2), (3, .int v3)] 2 [] σ (k2 v1 v2 v3 σ)) (v1 : Int32) (v2 : Int32) (v3 : Int32) (s0 : Int32) (σ : ST) : Jg E 6 (JF E vI) [(0, .ref (gO G 50)), (1, .int v1), (2, .int v2), (3, .int v3)] 21 [.int s0] σ (f_X5_wordFrom_L21 k2 v1 v2 v3 s0 σ) := by
  have Y := X.1
  unfold f_X5_wordFrom_L21
  refine J_istore [(4, .int s0), (0, .ref (gO G 50)), (1, .int v1), (2, .int v2), (3, .int v3)] Y dX5_wordFrom_21 (by decide) rfl ?_
  refine J_iconst (v := (0 : Int32)) Y dX5_wordFrom_23 (by decide) ?_
  refine J_istore [(5, .int (0 : Int32)), (4, .int s0), (0, .ref (gO G 50)), (1, .int v1), (2, .int v2), (3, .int v3)] Y dX5_wordFrom_24 (by decide) rfl ?_
  refine J_sub [2, 3, 4, 5, 1, 0] rfl ?_
  exact j_X5_wordFrom_L26 X hk2 1000 v1 v2 v3 s0 (0 : Int32) σ
set_option maxRecDepth 100000 in
set_option maxHeartbeats 4000000 in
theorem j_X5_wordFrom_L2 {E : JE} {G : JG} (X : JM E 6 cX5_wordFrom RX5 (some .int) 0 0 G) : ∀ (n : Nat) (v1 : Int32) (v2 : Int32) (v3 : Int32) (σ : ST), Jg E 6 (JF E vI) [(0, .ref (gO G 50)), (1, .int v1), (2, .int v2), (3, .int v3)] 2 [] σ (f_X5_wordFrom_L2 n v1 v2 v3 σ) := by
  have Y := X.1
  intro n
  induction n with
  | zero => intro v1 v2 v3 σ; rw [f_X5_wordFrom_L2]; exact J_none
  | succ n ih =>
    intro v1 v2 v3 σ
    rw [f_X5_wordFrom_L2]
    refine J_iload_n Y 3 dX5_wordFrom_2 rfl rfl ?_
    refine J_bipush (v := (12 : Int32)) Y dX5_wordFrom_3 (by decide) ?_
    refine J_icmp_ge (tgt := 101) Y dX5_wordFrom_5 (by decide) ?_ ?_
    · refine J_bipush (v := (12 : Int32)) Y dX5_wordFrom_101 (by decide) ?_
      exact J_ireturn Y dX5_wordFrom_103
    · refine J_iload_n Y 2 dX5_wordFrom_8 rfl rfl ?_
      refine J_iload_n Y 1 dX5_wordFrom_9 rfl rfl ?_
      refine J_isub Y dX5_wordFrom_10 ?_
      refine J_bipush (v := (8 : Int32)) Y dX5_wordFrom_11 (by decide) ?_
      refine J_icmp_gt (tgt := 20) Y dX5_wordFrom_13 (by decide) ?_ ?_
      · refine J_iconst (v := (0 : Int32)) Y dX5_wordFrom_20 (by decide) ?_
        exact j_X5_wordFrom_L21 X (fun v1 v2 v3 σ => ih v1 v2 v3 σ) v1 v2 v3 (0 : Int32) σ
      · refine J_iconst (v := (1 : Int32)) Y dX5_wordFrom_16 (by decide) ?_
        refine J_goto (tgt := 21) Y dX5_wordFrom_17 (by decide) ?_
        exact j_X5_wordFrom_L21 X (fun v1 v2 v3 σ => ih v1 v2 v3 σ) v1 v2 v3 (1 : Int32) σ
set_option maxRecDepth 100000 in
set_option maxHeartbeats 4000000 in
theorem j_X5_wordFrom {E : JE} {G : JG} (X : JM E 6 cX5_wordFrom RX5 (some .int) 0 0 G) (v1 : Int32) (v2 : Int32) (σ : ST) : Jg E 6 (JF E vI) [(0, .ref (gO G 50)), (1, .int v1), (2, .int v2)] 0 [] σ (f_X5_wordFrom v1 v2 σ) := by
  have Y := X.1
  unfold f_X5_wordFrom
  refine J_iconst (v := (0 : Int32)) Y dX5_wordFrom_0 (by decide) ?_
  refine J_istore_n [(3, .int (0 : Int32)), (0, .ref (gO G 50)), (1, .int v1), (2, .int v2)] Y dX5_wordFrom_1 rfl (by decide) rfl ?_
  refine J_sub [1, 2, 3, 0] rfl ?_
  exact j_X5_wordFrom_L2 X 1000 v1 v2 (0 : Int32) σ
theorem c_X5_wordFrom (G : JG) (v1 : Int32) (v2 : Int32) (σ : ST) : Con (VM G) vI G.1 yX5_wordFrom cX5_wordFrom 6 (some .int) 0 0 [.ref (gO G 50), .int v1, .int v2] σ (f_X5_wordFrom v1 v2 σ) :=
  Con_of (VM_ok G) (by decide +kernel) (Nat.le_of_ble_eq_true rfl) (fun E e1 e2 _ X => j_X5_wordFrom ⟨X, e1, e2⟩ v1 v2 σ)
set_option maxRecDepth 100000 in
set_option maxHeartbeats 4000000 in
theorem j_X5_next_L39 {E : JE} {G : JG} (X : JM E 3 cX5_next RX5 none 1 40 G) {k0 : ST → Option (Unit × ST)} (hk0 : ∀ (σ : ST), Jg E 3 (JF E vV) [(0, .ref (gO G 50))] 0 [] σ (k0 σ)) (σ : ST) : Jg E 3 (JF E vV) [(0, .ref (gO G 50))] 39 [] σ (f_X5_next_L39 k0 σ) := by
  have Y := X.1
  unfold f_X5_next_L39
  refine J_aload_n Y 0 dX5_next_39 rfl rfl ?_
  refine J_dup Y dX5_next_40 rfl ?_
  refine M_get 18 X (by decide) rfl wfl_RX5_105 rfl dX5_next_41 ?_
  refine J_iconst (v := (1 : Int32)) Y dX5_next_44 (by decide) ?_
  refine J_iadd Y dX5_next_45 ?_
  refine M_put 18 (ty := .int) X (by decide) wfl_RX5_105 rfl rfl rfl (by decide +kernel) rfl (mF_18 G _ _) dX5_next_46 (fun t46 => ?_)
  refine J_goto (tgt := 0) Y dX5_next_49 (by decide) ?_
  exact hk0  t46
set_option maxRecDepth 100000 in
set_option maxHeartbeats 4000000 in
theorem j_X5_next_L403 {E : JE} {G : JG} (X : JM E 3 cX5_next RX5 none 1 40 G) (σ : ST) : Jg E 3 (JF E vV) [] 403 [] σ (f_X5_next_L403 σ) := by
  have Y := X.1
  unfold f_X5_next_L403
  exact J_return Y dX5_next_403
set_option maxRecDepth 100000 in
set_option maxHeartbeats 4000000 in
theorem j_X5_next_L211 {E : JE} {G : JG} (X : JM E 3 cX5_next RX5 none 1 40 G) (s0 : Int32) (σ : ST) : Jg E 3 (JF E vV) [] 211 [.int s0, .ref (gO G 50)] σ (f_X5_next_L211 s0 σ) := by
  have Y := X.1
  unfold f_X5_next_L211
  refine M_put 21 (ty := .int) X (by decide) wfl_RX5_114 rfl rfl rfl (by decide +kernel) rfl (mF_21 G _ _) dX5_next_211 (fun t211 => ?_)
  refine J_goto (tgt := 403) Y dX5_next_214 (by decide) ?_
  exact j_X5_next_L403 X  t211
set_option maxRecDepth 100000 in
set_option maxHeartbeats 4000000 in
theorem j_X5_next_L195 {E : JE} {G : JG} (X : JM E 3 cX5_next RX5 none 1 40 G) (v2 : Int32) (s0 : Int32) (σ : ST) : Jg E 3 (JF E vV) [(0, .ref (gO G 50)), (2, .int v2)] 195 [.int s0, .ref (gO G 50)] σ (f_X5_next_L195 v2 s0 σ) := by
  have Y := X.1
  unfold f_X5_next_L195
  refine M_put 20 (ty := .int) X (by decide) wfl_RX5_111 rfl rfl rfl (by decide +kernel) rfl (mF_20 G _ _) dX5_next_195 (fun t195 => ?_)
  refine J_aload_n Y 0 dX5_next_198 rfl rfl ?_
  refine J_iload_n Y 1 dX5_next_199 rfl rfl ?_
  refine J_iconst (v := (3 : Int32)) Y dX5_next_200 (by decide) ?_
  refine J_icmp_ge (tgt := 208) Y dX5_next_201 (by decide) ?_ ?_
  · refine J_iload_n Y 1 dX5_next_208 rfl rfl ?_
    refine J_iconst (v := (3 : Int32)) Y dX5_next_209 (by decide) ?_
    refine J_isub Y dX5_next_210 ?_
    refine J_sub [] rfl ?_
    exact j_X5_next_L211 X (v2 - (3 : Int32)) t195
  · refine J_iload_n Y 1 dX5_next_204 rfl rfl ?_
    refine J_goto (tgt := 211) Y dX5_next_205 (by decide) ?_
    refine J_sub [] rfl ?_
    exact j_X5_next_L211 X v2 t195
set_option maxRecDepth 100000 in
set_option maxHeartbeats 4000000 in
theorem j_X5_next_L146 {E : JE} {G : JG} (X : JM E 3 cX5_next RX5 none 1 40 G) (σ : ST) : Jg E 3 (JF E vV) [(0, .ref (gO G 50))] 146 [] σ (f_X5_next_L146 σ) := by
  have Y := X.1
  unfold f_X5_next_L146
  refine J_aload_n Y 0 dX5_next_146 rfl rfl ?_
  refine J_aload_n Y 0 dX5_next_147 rfl rfl ?_
  refine M_get 19 X (by decide) rfl wfl_RX5_108 rfl dX5_next_148 ?_
  refine J_aload_n Y 0 dX5_next_151 rfl rfl ?_
  refine M_get 18 X (by decide) rfl wfl_RX5_105 rfl dX5_next_152 ?_
  refine M_cVi (As := [.int (gs 50 19 σ), .int (gs 50 18 σ)]) (st := []) rfl X (c_X5_wordFrom G (gs 50 19 σ) (gs 50 18 σ) _) wi_X5_wordFrom win_X5_wordFrom wse_X5_wordFrom wml_RX5_117 ⟨Nat.le_of_ble_eq_true rfl, Nat.le_of_ble_eq_true rfl⟩ rfl (Nat.le_of_ble_eq_true rfl) dX5_next_155 (fun y155 t155 => ?_)
  refine J_istore_n [(2, .int y155), (0, .ref (gO G 50))] Y dX5_next_158 rfl (by decide) rfl ?_
  refine J_aload_n Y 1 dX5_next_159 rfl rfl ?_
  refine J_iload_n Y 0 dX5_next_160 rfl rfl ?_
  refine J_iconst (v := (3 : Int32)) Y dX5_next_161 (by decide) ?_
  refine J_icmp_ge (tgt := 169) Y dX5_next_162 (by decide) ?_ ?_
  · refine J_iload_n Y 0 dX5_next_169 rfl rfl ?_
    refine J_bipush (v := (9 : Int32)) Y dX5_next_170 (by decide) ?_
    refine J_icmp_ge (tgt := 179) Y dX5_next_172 (by decide) ?_ ?_
    · refine J_iload_n Y 0 dX5_next_179 rfl rfl ?_
      refine J_bipush (v := (12 : Int32)) Y dX5_next_180 (by decide) ?_
      refine J_icmp_ne (tgt := 189) Y dX5_next_182 (by decide) ?_ ?_
      · refine J_iconst (v := (4 : Int32)) Y dX5_next_189 (by decide) ?_
        refine J_iload_n Y 0 dX5_next_190 rfl rfl ?_
        refine J_iadd Y dX5_next_191 ?_
        refine J_bipush (v := (9 : Int32)) Y dX5_next_192 (by decide) ?_
        refine J_isub Y dX5_next_194 ?_
        refine J_sub [1, 0] rfl ?_
        exact j_X5_next_L195 X y155 (((4 : Int32) + y155) - (9 : Int32)) t155
      · refine J_iconst (v := (-1 : Int32)) Y dX5_next_185 (by decide) ?_
        refine J_goto (tgt := 195) Y dX5_next_186 (by decide) ?_
        refine J_sub [1, 0] rfl ?_
        exact j_X5_next_L195 X y155 (-1 : Int32) t155
    · refine J_iconst (v := (2 : Int32)) Y dX5_next_175 (by decide) ?_
      refine J_goto (tgt := 195) Y dX5_next_176 (by decide) ?_
      refine J_sub [1, 0] rfl ?_
      exact j_X5_next_L195 X y155 (2 : Int32) t155
  · refine J_iconst (v := (3 : Int32)) Y dX5_next_165 (by decide) ?_
    refine J_goto (tgt := 195) Y dX5_next_166 (by decide) ?_
    refine J_sub [1, 0] rfl ?_
    exact j_X5_next_L195 X y155 (3 : Int32) t155
set_option maxRecDepth 100000 in
set_option maxHeartbeats 4000000 in
theorem j_X5_next_L103 {E : JE} {G : JG} (X : JM E 3 cX5_next RX5 none 1 40 G) : ∀ (n : Nat) (σ : ST), Jg E 3 (JF E vV) [(0, .ref (gO G 50))] 103 [] σ (f_X5_next_L103 n σ) := by
  have Y := X.1
  intro n
  induction n with
  | zero => intro σ; rw [f_X5_next_L103]; exact J_none
  | succ n ih =>
    intro σ
    rw [f_X5_next_L103]
    refine J_aload_n Y 0 dX5_next_103 rfl rfl ?_
    refine M_get 18 X (by decide) rfl wfl_RX5_105 rfl dX5_next_104 ?_
    refine J_aload_n Y 0 dX5_next_107 rfl rfl ?_
    refine M_get 6 X (by decide) rfl wfl_RX5_67 rfl dX5_next_108 ?_
    refine J_icmp_ge (tgt := 146) Y dX5_next_111 (by decide) ?_ ?_
    · exact j_X5_next_L146 X  σ
    · refine J_aload_n Y 0 dX5_next_114 rfl rfl ?_
      refine M_get 5 X (by decide) rfl wfl_RX5_19 rfl dX5_next_115 ?_
      refine J_aload_n Y 0 dX5_next_118 rfl rfl ?_
      refine M_get 18 X (by decide) rfl wfl_RX5_105 rfl dX5_next_119 ?_
      refine M_ald X (mA_5 G _) dX5_next_122 (fun x122 => ?_)
      refine J_bipush (v := (97 : Int32)) Y dX5_next_123 (by decide) ?_
      refine J_bipush (v := (122 : Int32)) Y dX5_next_125 (by decide) ?_
      refine M_cSi (As := [.int x122, .int (97 : Int32), .int (122 : Int32)]) (st := []) rfl X (c_X5_in G x122 (97 : Int32) (122 : Int32) _) wi_X5_in wst_X5_in wml_RX5_78 ⟨Nat.le_of_ble_eq_true rfl, Nat.le_of_ble_eq_true rfl⟩ rfl (Nat.le_of_ble_eq_true rfl) dX5_next_127 (fun y127 t127 => ?_)
      refine J_if_eq (tgt := 146) Y dX5_next_130 (by decide) ?_ ?_
      · exact j_X5_next_L146 X  t127
      · refine J_aload_n Y 0 dX5_next_133 rfl rfl ?_
        refine J_dup Y dX5_next_134 rfl ?_
        refine M_get 18 X (by decide) rfl wfl_RX5_105 rfl dX5_next_135 ?_
        refine J_iconst (v := (1 : Int32)) Y dX5_next_138 (by decide) ?_
        refine J_iadd Y dX5_next_139 ?_
        refine M_put 18 (ty := .int) X (by decide) wfl_RX5_105 rfl rfl rfl (by decide +kernel) rfl (mF_18 G _ _) dX5_next_140 (fun t140 => ?_)
        refine J_goto (tgt := 103) Y dX5_next_143 (by decide) ?_
        exact ih  t140
set_option maxRecDepth 100000 in
set_option maxHeartbeats 4000000 in
theorem j_X5_next_L290 {E : JE} {G : JG} (X : JM E 3 cX5_next RX5 none 1 40 G) {k230 : Int32 → ST → Option (Unit × ST)} (hk230 : ∀ (v2 : Int32) (σ : ST), Jg E 3 (JF E vV) [(0, .ref (gO G 50)), (2, .int v2)] 230 [] σ (k230 v2 σ)) (v2 : Int32) (s0 : Int32) (σ : ST) : Jg E 3 (JF E vV) [(0, .ref (gO G 50)), (2, .int v2)] 290 [.int s0, .ref (gO G 50)] σ (f_X5_next_L290 k230 v2 s0 σ) := by
  have Y := X.1
  unfold f_X5_next_L290
  refine M_put 21 (ty := .int) X (by decide) wfl_RX5_114 rfl rfl rfl (by decide +kernel) rfl (mF_21 G _ _) dX5_next_290 (fun t290 => ?_)
  refine J_iinc (v := v2 + (1 : Int32)) [(2, .int (v2 + (1 : Int32))), (0, .ref (gO G 50))] Y 1 dX5_next_293 rfl (congrArg (fun z => _ + z) (by decide)) (by decide) rfl ?_
  refine J_aload_n Y 1 dX5_next_296 rfl rfl ?_
  refine J_dup Y dX5_next_297 rfl ?_
  refine M_get 18 X (by decide) rfl wfl_RX5_105 rfl dX5_next_298 ?_
  refine J_iconst (v := (1 : Int32)) Y dX5_next_301 (by decide) ?_
  refine J_iadd Y dX5_next_302 ?_
  refine M_put 18 (ty := .int) X (by decide) wfl_RX5_105 rfl rfl rfl (by decide +kernel) rfl (mF_18 G _ _) dX5_next_303 (fun t303 => ?_)
  refine J_goto (tgt := 230) Y dX5_next_306 (by decide) ?_
  refine J_sub [1, 0] rfl ?_
  exact hk230 (v2 + (1 : Int32)) t303
set_option maxRecDepth 100000 in
set_option maxHeartbeats 4000000 in
theorem j_X5_next_L320 {E : JE} {G : JG} (X : JM E 3 cX5_next RX5 none 1 40 G) (s0 : Int32) (σ : ST) : Jg E 3 (JF E vV) [] 320 [.int s0, .ref (gO G 50)] σ (f_X5_next_L320 s0 σ) := by
  have Y := X.1
  unfold f_X5_next_L320
  refine M_put 20 (ty := .int) X (by decide) wfl_RX5_111 rfl rfl rfl (by decide +kernel) rfl (mF_20 G _ _) dX5_next_320 (fun t320 => ?_)
  refine J_goto (tgt := 403) Y dX5_next_323 (by decide) ?_
  exact j_X5_next_L403 X  t320
set_option maxRecDepth 100000 in
set_option maxHeartbeats 4000000 in
theorem j_X5_next_L309 {E : JE} {G : JG} (X : JM E 3 cX5_next RX5 none 1 40 G) (v2 : Int32) (σ : ST) : Jg E 3 (JF E vV) [(0, .ref (gO G 50)), (2, .int v2)] 309 [] σ (f_X5_next_L309 v2 σ) := by
  have Y := X.1
  unfold f_X5_next_L309
  refine J_aload_n Y 0 dX5_next_309 rfl rfl ?_
  refine J_iload_n Y 1 dX5_next_310 rfl rfl ?_
  refine J_iconst (v := (4 : Int32)) Y dX5_next_311 (by decide) ?_
  refine J_icmp_le (tgt := 319) Y dX5_next_312 (by decide) ?_ ?_
  · refine J_iconst (v := (1 : Int32)) Y dX5_next_319 (by decide) ?_
    refine J_sub [] rfl ?_
    exact j_X5_next_L320 X (1 : Int32) σ
  · refine J_iconst (v := (-1 : Int32)) Y dX5_next_315 (by decide) ?_
    refine J_goto (tgt := 320) Y dX5_next_316 (by decide) ?_
    refine J_sub [] rfl ?_
    exact j_X5_next_L320 X (-1 : Int32) σ
set_option maxRecDepth 100000 in
set_option maxHeartbeats 4000000 in
theorem j_X5_next_L230 {E : JE} {G : JG} (X : JM E 3 cX5_next RX5 none 1 40 G) : ∀ (n : Nat) (v2 : Int32) (σ : ST), Jg E 3 (JF E vV) [(0, .ref (gO G 50)), (2, .int v2)] 230 [] σ (f_X5_next_L230 n v2 σ) := by
  have Y := X.1
  intro n
  induction n with
  | zero => intro v2 σ; rw [f_X5_next_L230]; exact J_none
  | succ n ih =>
    intro v2 σ
    rw [f_X5_next_L230]
    refine J_aload_n Y 0 dX5_next_230 rfl rfl ?_
    refine M_get 18 X (by decide) rfl wfl_RX5_105 rfl dX5_next_231 ?_
    refine J_aload_n Y 0 dX5_next_234 rfl rfl ?_
    refine M_get 6 X (by decide) rfl wfl_RX5_67 rfl dX5_next_235 ?_
    refine J_icmp_ge (tgt := 309) Y dX5_next_238 (by decide) ?_ ?_
    · exact j_X5_next_L309 X v2 σ
    · refine J_aload_n Y 0 dX5_next_241 rfl rfl ?_
      refine M_get 5 X (by decide) rfl wfl_RX5_19 rfl dX5_next_242 ?_
      refine J_aload_n Y 0 dX5_next_245 rfl rfl ?_
      refine M_get 18 X (by decide) rfl wfl_RX5_105 rfl dX5_next_246 ?_
      refine M_ald X (mA_5 G _) dX5_next_249 (fun x249 => ?_)
      refine J_bipush (v := (48 : Int32)) Y dX5_next_250 (by decide) ?_
      refine J_bipush (v := (57 : Int32)) Y dX5_next_252 (by decide) ?_
      refine M_cSi (As := [.int x249, .int (48 : Int32), .int (57 : Int32)]) (st := []) rfl X (c_X5_in G x249 (48 : Int32) (57 : Int32) _) wi_X5_in wst_X5_in wml_RX5_78 ⟨Nat.le_of_ble_eq_true rfl, Nat.le_of_ble_eq_true rfl⟩ rfl (Nat.le_of_ble_eq_true rfl) dX5_next_254 (fun y254 t254 => ?_)
      refine J_if_eq (tgt := 309) Y dX5_next_257 (by decide) ?_ ?_
      · exact j_X5_next_L309 X v2 t254
      · refine J_aload_n Y 0 dX5_next_260 rfl rfl ?_
        refine J_iload_n Y 1 dX5_next_261 rfl rfl ?_
        refine J_iconst (v := (4 : Int32)) Y dX5_next_262 (by decide) ?_
        refine J_icmp_ge (tgt := 289) Y dX5_next_263 (by decide) ?_ ?_
        · refine J_iconst (v := (0 : Int32)) Y dX5_next_289 (by decide) ?_
          exact j_X5_next_L290 X (fun v2 σ => ih v2 σ) v2 (0 : Int32) t254
        · refine J_bipush (v := (10 : Int32)) Y dX5_next_266 (by decide) ?_
          refine J_aload_n Y 0 dX5_next_268 rfl rfl ?_
          refine M_get 21 X (by decide) rfl wfl_RX5_114 rfl dX5_next_269 ?_
          refine J_imul Y dX5_next_272 ?_
          refine J_aload_n Y 0 dX5_next_273 rfl rfl ?_
          refine M_get 5 X (by decide) rfl wfl_RX5_19 rfl dX5_next_274 ?_
          refine J_aload_n Y 0 dX5_next_277 rfl rfl ?_
          refine M_get 18 X (by decide) rfl wfl_RX5_105 rfl dX5_next_278 ?_
          refine M_ald X (mA_5 G _) dX5_next_281 (fun x281 => ?_)
          refine J_iadd Y dX5_next_282 ?_
          refine J_bipush (v := (48 : Int32)) Y dX5_next_283 (by decide) ?_
          refine J_isub Y dX5_next_285 ?_
          refine J_goto (tgt := 290) Y dX5_next_286 (by decide) ?_
          exact j_X5_next_L290 X (fun v2 σ => ih v2 σ) v2 ((((10 : Int32) * (gs 50 21 t254)) + x281) - (48 : Int32)) t254
set_option maxRecDepth 100000 in
set_option maxHeartbeats 4000000 in
theorem j_X5_next_L390 {E : JE} {G : JG} (X : JM E 3 cX5_next RX5 none 1 40 G) (s0 : Int32) (σ : ST) : Jg E 3 (JF E vV) [(0, .ref (gO G 50))] 390 [.int s0, .ref (gO G 50)] σ (f_X5_next_L390 s0 σ) := by
  have Y := X.1
  unfold f_X5_next_L390
  refine M_put 20 (ty := .int) X (by decide) wfl_RX5_111 rfl rfl rfl (by decide +kernel) rfl (mF_20 G _ _) dX5_next_390 (fun t390 => ?_)
  refine J_aload_n Y 0 dX5_next_393 rfl rfl ?_
  refine J_dup Y dX5_next_394 rfl ?_
  refine M_get 18 X (by decide) rfl wfl_RX5_105 rfl dX5_next_395 ?_
  refine J_iconst (v := (1 : Int32)) Y dX5_next_398 (by decide) ?_
  refine J_iadd Y dX5_next_399 ?_
  refine M_put 18 (ty := .int) X (by decide) wfl_RX5_105 rfl rfl rfl (by decide +kernel) rfl (mF_18 G _ _) dX5_next_400 (fun t400 => ?_)
  refine J_sub [] rfl ?_
  exact j_X5_next_L403 X  t400
set_option maxRecDepth 100000 in
set_option maxHeartbeats 4000000 in
theorem j_X5_next_L379 {E : JE} {G : JG} (X : JM E 3 cX5_next RX5 none 1 40 G) (v1 : Int32) (s0 : Int32) (σ : ST) : Jg E 3 (JF E vV) [(0, .ref (gO G 50)), (1, .int v1)] 379 [.int s0] σ (f_X5_next_L379 v1 s0 σ) := by
  have Y := X.1
  unfold f_X5_next_L379
  refine J_istore_n [(2, .int s0), (0, .ref (gO G 50)), (1, .int v1)] Y dX5_next_379 rfl (by decide) rfl ?_
  refine J_aload_n Y 1 dX5_next_380 rfl rfl ?_
  refine J_iload_n Y 0 dX5_next_381 rfl rfl ?_
  refine J_if_eq (tgt := 389) Y dX5_next_382 (by decide) ?_ ?_
  · refine J_iconst (v := (-1 : Int32)) Y dX5_next_389 (by decide) ?_
    refine J_sub [1] rfl ?_
    exact j_X5_next_L390 X (-1 : Int32) σ
  · refine J_iload_n Y 2 dX5_next_385 rfl rfl ?_
    refine J_goto (tgt := 390) Y dX5_next_386 (by decide) ?_
    refine J_sub [1] rfl ?_
    exact j_X5_next_L390 X v1 σ
set_option maxRecDepth 100000 in
set_option maxHeartbeats 4000000 in
theorem j_X5_next_L374 {E : JE} {G : JG} (X : JM E 3 cX5_next RX5 none 1 40 G) (v1 : Int32) (σ : ST) : Jg E 3 (JF E vV) [(0, .ref (gO G 50)), (1, .int v1)] 374 [] σ (f_X5_next_L374 v1 σ) := by
  have Y := X.1
  unfold f_X5_next_L374
  refine J_iconst (v := (1 : Int32)) Y dX5_next_374 (by decide) ?_
  refine J_goto (tgt := 379) Y dX5_next_375 (by decide) ?_
  exact j_X5_next_L379 X v1 (1 : Int32) σ
set_option maxRecDepth 100000 in
set_option maxHeartbeats 4000000 in
theorem j_X5_next_L52 {E : JE} {G : JG} (X : JM E 3 cX5_next RX5 none 1 40 G) (σ : ST) : Jg E 3 (JF E vV) [(0, .ref (gO G 50))] 52 [] σ (f_X5_next_L52 σ) := by
  have Y := X.1
  unfold f_X5_next_L52
  refine J_aload_n Y 0 dX5_next_52 rfl rfl ?_
  refine J_aload_n Y 0 dX5_next_53 rfl rfl ?_
  refine M_get 18 X (by decide) rfl wfl_RX5_105 rfl dX5_next_54 ?_
  refine M_put 19 (ty := .int) X (by decide) wfl_RX5_108 rfl rfl rfl (by decide +kernel) rfl (mF_19 G _ _) dX5_next_57 (fun t57 => ?_)
  refine J_aload_n Y 0 dX5_next_60 rfl rfl ?_
  refine J_iconst (v := (0 : Int32)) Y dX5_next_61 (by decide) ?_
  refine M_put 20 (ty := .int) X (by decide) wfl_RX5_111 rfl rfl rfl (by decide +kernel) rfl (mF_20 G _ _) dX5_next_62 (fun t62 => ?_)
  refine J_aload_n Y 0 dX5_next_65 rfl rfl ?_
  refine J_iconst (v := (0 : Int32)) Y dX5_next_66 (by decide) ?_
  refine M_put 21 (ty := .int) X (by decide) wfl_RX5_114 rfl rfl rfl (by decide +kernel) rfl (mF_21 G _ _) dX5_next_67 (fun t67 => ?_)
  refine J_aload_n Y 0 dX5_next_70 rfl rfl ?_
  refine M_get 18 X (by decide) rfl wfl_RX5_105 rfl dX5_next_71 ?_
  refine J_aload_n Y 0 dX5_next_74 rfl rfl ?_
  refine M_get 6 X (by decide) rfl wfl_RX5_67 rfl dX5_next_75 ?_
  refine J_icmp_ne (tgt := 82) Y dX5_next_78 (by decide) ?_ ?_
  · refine J_aload_n Y 0 dX5_next_82 rfl rfl ?_
    refine M_get 5 X (by decide) rfl wfl_RX5_19 rfl dX5_next_83 ?_
    refine J_aload_n Y 0 dX5_next_86 rfl rfl ?_
    refine M_get 18 X (by decide) rfl wfl_RX5_105 rfl dX5_next_87 ?_
    refine M_ald X (mA_5 G _) dX5_next_90 (fun x90 => ?_)
    refine J_istore_n [(1, .int x90), (0, .ref (gO G 50))] Y dX5_next_91 rfl (by decide) rfl ?_
    refine J_iload_n Y 0 dX5_next_92 rfl rfl ?_
    refine J_bipush (v := (97 : Int32)) Y dX5_next_93 (by decide) ?_
    refine J_bipush (v := (122 : Int32)) Y dX5_next_95 (by decide) ?_
    refine M_cSi (As := [.int x90, .int (97 : Int32), .int (122 : Int32)]) (st := []) rfl X (c_X5_in G x90 (97 : Int32) (122 : Int32) _) wi_X5_in wst_X5_in wml_RX5_78 ⟨Nat.le_of_ble_eq_true rfl, Nat.le_of_ble_eq_true rfl⟩ rfl (Nat.le_of_ble_eq_true rfl) dX5_next_97 (fun y97 t97 => ?_)
    refine J_if_eq (tgt := 217) Y dX5_next_100 (by decide) ?_ ?_
    · refine J_iload_n Y 0 dX5_next_217 rfl rfl ?_
      refine J_bipush (v := (48 : Int32)) Y dX5_next_218 (by decide) ?_
      refine J_bipush (v := (57 : Int32)) Y dX5_next_220 (by decide) ?_
      refine M_cSi (As := [.int x90, .int (48 : Int32), .int (57 : Int32)]) (st := []) rfl X (c_X5_in G x90 (48 : Int32) (57 : Int32) _) wi_X5_in wst_X5_in wml_RX5_78 ⟨Nat.le_of_ble_eq_true rfl, Nat.le_of_ble_eq_true rfl⟩ rfl (Nat.le_of_ble_eq_true rfl) dX5_next_222 (fun y222 t222 => ?_)
      refine J_if_eq (tgt := 326) Y dX5_next_225 (by decide) ?_ ?_
      · refine J_iload_n Y 0 dX5_next_326 rfl rfl ?_
        refine J_bipush (v := (40 : Int32)) Y dX5_next_327 (by decide) ?_
        refine J_icmp_eq (tgt := 374) Y dX5_next_329 (by decide) ?_ ?_
        · refine J_sub [1, 0] rfl ?_
          exact j_X5_next_L374 X x90 t222
        · refine J_iload_n Y 0 dX5_next_332 rfl rfl ?_
          refine J_bipush (v := (41 : Int32)) Y dX5_next_333 (by decide) ?_
          refine J_icmp_eq (tgt := 374) Y dX5_next_335 (by decide) ?_ ?_
          · refine J_sub [1, 0] rfl ?_
            exact j_X5_next_L374 X x90 t222
          · refine J_iload_n Y 0 dX5_next_338 rfl rfl ?_
            refine J_bipush (v := (59 : Int32)) Y dX5_next_339 (by decide) ?_
            refine J_icmp_eq (tgt := 374) Y dX5_next_341 (by decide) ?_ ?_
            · refine J_sub [1, 0] rfl ?_
              exact j_X5_next_L374 X x90 t222
            · refine J_iload_n Y 0 dX5_next_344 rfl rfl ?_
              refine J_bipush (v := (43 : Int32)) Y dX5_next_345 (by decide) ?_
              refine J_icmp_eq (tgt := 374) Y dX5_next_347 (by decide) ?_ ?_
              · refine J_sub [1, 0] rfl ?_
                exact j_X5_next_L374 X x90 t222
              · refine J_iload_n Y 0 dX5_next_350 rfl rfl ?_
                refine J_bipush (v := (45 : Int32)) Y dX5_next_351 (by decide) ?_
                refine J_icmp_eq (tgt := 374) Y dX5_next_353 (by decide) ?_ ?_
                · refine J_sub [1, 0] rfl ?_
                  exact j_X5_next_L374 X x90 t222
                · refine J_iload_n Y 0 dX5_next_356 rfl rfl ?_
                  refine J_bipush (v := (42 : Int32)) Y dX5_next_357 (by decide) ?_
                  refine J_icmp_eq (tgt := 374) Y dX5_next_359 (by decide) ?_ ?_
                  · refine J_sub [1, 0] rfl ?_
                    exact j_X5_next_L374 X x90 t222
                  · refine J_iload_n Y 0 dX5_next_362 rfl rfl ?_
                    refine J_bipush (v := (60 : Int32)) Y dX5_next_363 (by decide) ?_
                    refine J_icmp_eq (tgt := 374) Y dX5_next_365 (by decide) ?_ ?_
                    · refine J_sub [1, 0] rfl ?_
                      exact j_X5_next_L374 X x90 t222
                    · refine J_iload_n Y 0 dX5_next_368 rfl rfl ?_
                      refine J_bipush (v := (61 : Int32)) Y dX5_next_369 (by decide) ?_
                      refine J_icmp_ne (tgt := 378) Y dX5_next_371 (by decide) ?_ ?_
                      · refine J_iconst (v := (0 : Int32)) Y dX5_next_378 (by decide) ?_
                        refine J_sub [1, 0] rfl ?_
                        exact j_X5_next_L379 X x90 (0 : Int32) t222
                      · refine J_sub [1, 0] rfl ?_
                        exact j_X5_next_L374 X x90 t222
      · refine J_iconst (v := (0 : Int32)) Y dX5_next_228 (by decide) ?_
        refine J_istore_n [(2, .int (0 : Int32)), (1, .int x90), (0, .ref (gO G 50))] Y dX5_next_229 rfl (by decide) rfl ?_
        refine J_sub [2, 0] rfl ?_
        exact j_X5_next_L230 X 1000 (0 : Int32) t222
    · refine J_sub [1] rfl ?_
      exact j_X5_next_L103 X 1000  t97
  · exact J_return Y dX5_next_81
set_option maxRecDepth 100000 in
set_option maxHeartbeats 4000000 in
theorem j_X5_next_L0 {E : JE} {G : JG} (X : JM E 3 cX5_next RX5 none 1 40 G) : ∀ (n : Nat) (σ : ST), Jg E 3 (JF E vV) [(0, .ref (gO G 50))] 0 [] σ (f_X5_next_L0 n σ) := by
  have Y := X.1
  intro n
  induction n with
  | zero => intro σ; rw [f_X5_next_L0]; exact J_none
  | succ n ih =>
    intro σ
    rw [f_X5_next_L0]
    refine J_aload_n Y 0 dX5_next_0 rfl rfl ?_
    refine M_get 18 X (by decide) rfl wfl_RX5_105 rfl dX5_next_1 ?_
    refine J_aload_n Y 0 dX5_next_4 rfl rfl ?_
    refine M_get 6 X (by decide) rfl wfl_RX5_67 rfl dX5_next_5 ?_
    refine J_icmp_ge (tgt := 52) Y dX5_next_8 (by decide) ?_ ?_
    · exact j_X5_next_L52 X  σ
    · refine J_aload_n Y 0 dX5_next_11 rfl rfl ?_
      refine M_get 5 X (by decide) rfl wfl_RX5_19 rfl dX5_next_12 ?_
      refine J_aload_n Y 0 dX5_next_15 rfl rfl ?_
      refine M_get 18 X (by decide) rfl wfl_RX5_105 rfl dX5_next_16 ?_
      refine M_ald X (mA_5 G _) dX5_next_19 (fun x19 => ?_)
      refine J_bipush (v := (32 : Int32)) Y dX5_next_20 (by decide) ?_
      refine J_icmp_eq (tgt := 39) Y dX5_next_22 (by decide) ?_ ?_
      · exact j_X5_next_L39 X (fun  σ => ih  σ)  σ
      · refine J_aload_n Y 0 dX5_next_25 rfl rfl ?_
        refine M_get 5 X (by decide) rfl wfl_RX5_19 rfl dX5_next_26 ?_
        refine J_aload_n Y 0 dX5_next_29 rfl rfl ?_
        refine M_get 18 X (by decide) rfl wfl_RX5_105 rfl dX5_next_30 ?_
        refine M_ald X (mA_5 G _) dX5_next_33 (fun x33 => ?_)
        refine J_bipush (v := (10 : Int32)) Y dX5_next_34 (by decide) ?_
        refine J_icmp_ne (tgt := 52) Y dX5_next_36 (by decide) ?_ ?_
        · exact j_X5_next_L52 X  σ
        · exact j_X5_next_L39 X (fun  σ => ih  σ)  σ
set_option maxRecDepth 100000 in
set_option maxHeartbeats 4000000 in
theorem j_X5_next {E : JE} {G : JG} (X : JM E 3 cX5_next RX5 none 1 40 G) (σ : ST) : Jg E 3 (JF E vV) [(0, .ref (gO G 50))] 0 [] σ (f_X5_next σ) := by
  have Y := X.1
  unfold f_X5_next
  exact j_X5_next_L0 X 1000  σ
theorem c_X5_next (G : JG) (σ : ST) : Con (VM G) vV G.1 yX5_next cX5_next 3 none 1 40 [.ref (gO G 50)] σ (f_X5_next σ) :=
  Con_of (VM_ok G) (by decide +kernel) (Nat.le_of_ble_eq_true rfl) (fun E e1 e2 _ X => j_X5_next ⟨X, e1, e2⟩ σ)
set_option maxRecDepth 100000 in
set_option maxHeartbeats 4000000 in
theorem j_X5_rank_L71 {E : JE} {G : JG} (X : JM E 1 cX5_rank RX5 (some .int) 0 0 G) (s0 : Int32) (σ : ST) : Jg E 1 (JF E vI) [] 71 [.int s0] σ (f_X5_rank_L71 s0 σ) := by
  have Y := X.1
  unfold f_X5_rank_L71
  exact J_ireturn Y dX5_rank_71
set_option maxRecDepth 100000 in
set_option maxHeartbeats 4000000 in
theorem j_X5_rank {E : JE} {G : JG} (X : JM E 1 cX5_rank RX5 (some .int) 0 0 G) (v0 : Int32) (σ : ST) : Jg E 1 (JF E vI) [(0, .int v0)] 0 [] σ (f_X5_rank v0 σ) := by
  have Y := X.1
  unfold f_X5_rank
  refine J_iload_n Y 0 dX5_rank_0 rfl rfl ?_
  refine J_if_ne (tgt := 8) Y dX5_rank_1 (by decide) ?_ ?_
  · refine J_iload_n Y 0 dX5_rank_8 rfl rfl ?_
    refine J_bipush (v := (11 : Int32)) Y dX5_rank_9 (by decide) ?_
    refine J_icmp_ne (tgt := 18) Y dX5_rank_11 (by decide) ?_ ?_
    · refine J_iload_n Y 0 dX5_rank_18 rfl rfl ?_
      refine J_bipush (v := (12 : Int32)) Y dX5_rank_19 (by decide) ?_
      refine J_icmp_ne (tgt := 28) Y dX5_rank_21 (by decide) ?_ ?_
      · refine J_iload_n Y 0 dX5_rank_28 rfl rfl ?_
        refine J_bipush (v := (13 : Int32)) Y dX5_rank_29 (by decide) ?_
        refine J_icmp_ne (tgt := 38) Y dX5_rank_31 (by decide) ?_ ?_
        · refine J_iload_n Y 0 dX5_rank_38 rfl rfl ?_
          refine J_bipush (v := (15 : Int32)) Y dX5_rank_39 (by decide) ?_
          refine J_icmp_gt (tgt := 48) Y dX5_rank_41 (by decide) ?_ ?_
          · refine J_iload_n Y 0 dX5_rank_48 rfl rfl ?_
            refine J_bipush (v := (17 : Int32)) Y dX5_rank_49 (by decide) ?_
            refine J_icmp_gt (tgt := 58) Y dX5_rank_51 (by decide) ?_ ?_
            · refine J_iload_n Y 0 dX5_rank_58 rfl rfl ?_
              refine J_bipush (v := (18 : Int32)) Y dX5_rank_59 (by decide) ?_
              refine J_icmp_ne (tgt := 69) Y dX5_rank_61 (by decide) ?_ ?_
              · refine J_bipush (v := (7 : Int32)) Y dX5_rank_69 (by decide) ?_
                refine J_sub [] rfl ?_
                exact j_X5_rank_L71 X (7 : Int32) σ
              · refine J_bipush (v := (6 : Int32)) Y dX5_rank_64 (by decide) ?_
                refine J_goto (tgt := 71) Y dX5_rank_66 (by decide) ?_
                refine J_sub [] rfl ?_
                exact j_X5_rank_L71 X (6 : Int32) σ
            · refine J_iconst (v := (5 : Int32)) Y dX5_rank_54 (by decide) ?_
              refine J_goto (tgt := 71) Y dX5_rank_55 (by decide) ?_
              refine J_sub [] rfl ?_
              exact j_X5_rank_L71 X (5 : Int32) σ
          · refine J_iconst (v := (4 : Int32)) Y dX5_rank_44 (by decide) ?_
            refine J_goto (tgt := 71) Y dX5_rank_45 (by decide) ?_
            refine J_sub [] rfl ?_
            exact j_X5_rank_L71 X (4 : Int32) σ
        · refine J_iconst (v := (3 : Int32)) Y dX5_rank_34 (by decide) ?_
          refine J_goto (tgt := 71) Y dX5_rank_35 (by decide) ?_
          refine J_sub [] rfl ?_
          exact j_X5_rank_L71 X (3 : Int32) σ
      · refine J_iconst (v := (2 : Int32)) Y dX5_rank_24 (by decide) ?_
        refine J_goto (tgt := 71) Y dX5_rank_25 (by decide) ?_
        refine J_sub [] rfl ?_
        exact j_X5_rank_L71 X (2 : Int32) σ
    · refine J_iconst (v := (1 : Int32)) Y dX5_rank_14 (by decide) ?_
      refine J_goto (tgt := 71) Y dX5_rank_15 (by decide) ?_
      refine J_sub [] rfl ?_
      exact j_X5_rank_L71 X (1 : Int32) σ
  · refine J_iconst (v := (0 : Int32)) Y dX5_rank_4 (by decide) ?_
    refine J_goto (tgt := 71) Y dX5_rank_5 (by decide) ?_
    refine J_sub [] rfl ?_
    exact j_X5_rank_L71 X (0 : Int32) σ
theorem c_X5_rank (G : JG) (v0 : Int32) (σ : ST) : Con (VM G) vI G.1 yX5_rank cX5_rank 1 (some .int) 0 0 [.int v0] σ (f_X5_rank v0 σ) :=
  Con_of (VM_ok G) (by decide +kernel) (Nat.le_of_ble_eq_true rfl) (fun E e1 e2 _ X => j_X5_rank ⟨X, e1, e2⟩ v0 σ)
set_option maxRecDepth 100000 in
set_option maxHeartbeats 4000000 in
theorem j_X5_puts {E : JE} {G : JG} (X : JM E 2 cX5_puts RX5 none 0 0 G) (v1 : Int32) (σ : ST) : Jg E 2 (JF E vV) [(0, .ref (gO G 50)), (1, .int v1)] 0 [] σ (f_X5_puts v1 σ) := by
  have Y := X.1
  unfold f_X5_puts
  refine J_aload_n Y 0 dX5_puts_0 rfl rfl ?_
  refine M_get 7 X (by decide) rfl wfl_RX5_22 rfl dX5_puts_1 ?_
  refine J_sipush (v := (200 : Int32)) Y dX5_puts_4 (by decide) ?_
  refine J_aload_n Y 0 dX5_puts_7 rfl rfl ?_
  refine M_get 9 X (by decide) rfl wfl_RX5_96 rfl dX5_puts_8 ?_
  refine J_imul Y dX5_puts_11 ?_
  refine J_aload_n Y 0 dX5_puts_12 rfl rfl ?_
  refine M_get 26 X (by decide) rfl wfl_RX5_121 rfl dX5_puts_13 ?_
  refine J_iadd Y dX5_puts_16 ?_
  refine J_iload_n Y 1 dX5_puts_17 rfl rfl ?_
  refine M_ast X (mA_7 G _) (mS_7 G _) dX5_puts_18 (fun t18 => ?_)
  refine J_aload_n Y 0 dX5_puts_19 rfl rfl ?_
  refine J_dup Y dX5_puts_20 rfl ?_
  refine M_get 26 X (by decide) rfl wfl_RX5_121 rfl dX5_puts_21 ?_
  refine J_iconst (v := (1 : Int32)) Y dX5_puts_24 (by decide) ?_
  refine J_iadd Y dX5_puts_25 ?_
  refine M_put 26 (ty := .int) X (by decide) wfl_RX5_121 rfl rfl rfl (by decide +kernel) rfl (mF_26 G _ _) dX5_puts_26 (fun t26 => ?_)
  exact J_return Y dX5_puts_29
theorem c_X5_puts (G : JG) (v1 : Int32) (σ : ST) : Con (VM G) vV G.1 yX5_puts cX5_puts 2 none 0 0 [.ref (gO G 50), .int v1] σ (f_X5_puts v1 σ) :=
  Con_of (VM_ok G) (by decide +kernel) (Nat.le_of_ble_eq_true rfl) (fun E e1 e2 _ X => j_X5_puts ⟨X, e1, e2⟩ v1 σ)
set_option maxRecDepth 100000 in
set_option maxHeartbeats 4000000 in
theorem j_X5_unwinds_L67 {E : JE} {G : JG} (X : JM E 3 cX5_unwinds RX5 none 1 40 G) {k0 : Int32 → ST → Option (Unit × ST)} (hk0 : ∀ (v1 : Int32) (σ : ST), Jg E 3 (JF E vV) [(0, .ref (gO G 50)), (1, .int v1)] 0 [] σ (k0 v1 σ)) (v1 : Int32) (v2 : Int32) (s0 : Int32) (s1 : Int32) (σ : ST) : Jg E 3 (JF E vV) [(0, .ref (gO G 50)), (1, .int v1), (2, .int v2)] 67 [.int s0, .int s1, .ref (gO G 50)] σ (f_X5_unwinds_L67 k0 v1 v2 s0 s1 σ) := by
  have Y := X.1
  unfold f_X5_unwinds_L67
  refine J_isub Y dX5_unwinds_67 ?_
  refine M_put 25 (ty := .int) X (by decide) wfl_RX5_130 rfl rfl rfl (by decide +kernel) rfl (mF_25 G _ _) dX5_unwinds_68 (fun t68 => ?_)
  refine J_aload_n Y 0 dX5_unwinds_71 rfl rfl ?_
  refine J_iload_n Y 2 dX5_unwinds_72 rfl rfl ?_
  refine M_cVv (As := [.int v2]) (st := []) rfl X (c_X5_puts G v2 _) wi_X5_puts win_X5_puts wse_X5_puts wml_RX5_133 ⟨Nat.le_of_ble_eq_true rfl, Nat.le_of_ble_eq_true rfl⟩ rfl (Nat.le_of_ble_eq_true rfl) dX5_unwinds_73 (fun t73 => ?_)
  refine J_goto (tgt := 0) Y dX5_unwinds_76 (by decide) ?_
  refine J_sub [0, 1] rfl ?_
  exact hk0 v1 t73
set_option maxRecDepth 100000 in
set_option maxHeartbeats 4000000 in
theorem j_X5_unwinds_L62 {E : JE} {G : JG} (X : JM E 3 cX5_unwinds RX5 none 1 40 G) {k0 : Int32 → ST → Option (Unit × ST)} (hk0 : ∀ (v1 : Int32) (σ : ST), Jg E 3 (JF E vV) [(0, .ref (gO G 50)), (1, .int v1)] 0 [] σ (k0 v1 σ)) (v1 : Int32) (v2 : Int32) (s0 : Int32) (σ : ST) : Jg E 3 (JF E vV) [(0, .ref (gO G 50)), (1, .int v1), (2, .int v2)] 62 [.int s0, .ref (gO G 50)] σ (f_X5_unwinds_L62 k0 v1 v2 s0 σ) := by
  have Y := X.1
  unfold f_X5_unwinds_L62
  refine J_iconst (v := (1 : Int32)) Y dX5_unwinds_62 (by decide) ?_
  refine J_goto (tgt := 67) Y dX5_unwinds_63 (by decide) ?_
  exact j_X5_unwinds_L67 X hk0 v1 v2 (1 : Int32) s0 σ
set_option maxRecDepth 100000 in
set_option maxHeartbeats 4000000 in
theorem j_X5_unwinds_L79 {E : JE} {G : JG} (X : JM E 3 cX5_unwinds RX5 none 1 40 G) (σ : ST) : Jg E 3 (JF E vV) [] 79 [] σ (f_X5_unwinds_L79 σ) := by
  have Y := X.1
  unfold f_X5_unwinds_L79
  exact J_return Y dX5_unwinds_79
set_option maxRecDepth 100000 in
set_option maxHeartbeats 4000000 in
theorem j_X5_unwinds_L0 {E : JE} {G : JG} (X : JM E 3 cX5_unwinds RX5 none 1 40 G) : ∀ (n : Nat) (v1 : Int32) (σ : ST), Jg E 3 (JF E vV) [(0, .ref (gO G 50)), (1, .int v1)] 0 [] σ (f_X5_unwinds_L0 n v1 σ) := by
  have Y := X.1
  intro n
  induction n with
  | zero => intro v1 σ; rw [f_X5_unwinds_L0]; exact J_none
  | succ n ih =>
    intro v1 σ
    rw [f_X5_unwinds_L0]
    refine J_aload_n Y 0 dX5_unwinds_0 rfl rfl ?_
    refine M_get 24 X (by decide) rfl wfl_RX5_124 rfl dX5_unwinds_1 ?_
    refine J_if_le (tgt := 79) Y dX5_unwinds_4 (by decide) ?_ ?_
    · refine J_sub [] rfl ?_
      exact j_X5_unwinds_L79 X  σ
    · refine J_aload_n Y 0 dX5_unwinds_7 rfl rfl ?_
      refine M_get 23 X (by decide) rfl wfl_RX5_49 rfl dX5_unwinds_8 ?_
      refine J_aload_n Y 0 dX5_unwinds_11 rfl rfl ?_
      refine M_get 24 X (by decide) rfl wfl_RX5_124 rfl dX5_unwinds_12 ?_
      refine J_iconst (v := (1 : Int32)) Y dX5_unwinds_15 (by decide) ?_
      refine J_isub Y dX5_unwinds_16 ?_
      refine M_ald X (mA_23 G _) dX5_unwinds_17 (fun x17 => ?_)
      refine M_cSi (As := [.int x17]) (st := []) rfl X (c_X5_rank G x17 _) wi_X5_rank wst_X5_rank wml_RX5_127 ⟨Nat.le_of_ble_eq_true rfl, Nat.le_of_ble_eq_true rfl⟩ rfl (Nat.le_of_ble_eq_true rfl) dX5_unwinds_18 (fun y18 t18 => ?_)
      refine J_iload_n Y 1 dX5_unwinds_21 rfl rfl ?_
      refine J_icmp_lt (tgt := 79) Y dX5_unwinds_22 (by decide) ?_ ?_
      · refine J_sub [] rfl ?_
        exact j_X5_unwinds_L79 X  t18
      · refine J_aload_n Y 0 dX5_unwinds_25 rfl rfl ?_
        refine J_dup Y dX5_unwinds_26 rfl ?_
        refine M_get 24 X (by decide) rfl wfl_RX5_124 rfl dX5_unwinds_27 ?_
        refine J_iconst (v := (1 : Int32)) Y dX5_unwinds_30 (by decide) ?_
        refine J_isub Y dX5_unwinds_31 ?_
        refine M_put 24 (ty := .int) X (by decide) wfl_RX5_124 rfl rfl rfl (by decide +kernel) rfl (mF_24 G _ _) dX5_unwinds_32 (fun t32 => ?_)
        refine J_aload_n Y 0 dX5_unwinds_35 rfl rfl ?_
        refine M_get 23 X (by decide) rfl wfl_RX5_49 rfl dX5_unwinds_36 ?_
        refine J_aload_n Y 0 dX5_unwinds_39 rfl rfl ?_
        refine M_get 24 X (by decide) rfl wfl_RX5_124 rfl dX5_unwinds_40 ?_
        refine M_ald X (mA_23 G _) dX5_unwinds_43 (fun x43 => ?_)
        refine J_istore_n [(2, .int x43), (0, .ref (gO G 50)), (1, .int v1)] Y dX5_unwinds_44 rfl (by decide) rfl ?_
        refine J_aload_n Y 1 dX5_unwinds_45 rfl rfl ?_
        refine J_dup Y dX5_unwinds_46 rfl ?_
        refine M_get 25 X (by decide) rfl wfl_RX5_130 rfl dX5_unwinds_47 ?_
        refine J_iload_n Y 0 dX5_unwinds_50 rfl rfl ?_
        refine J_bipush (v := (13 : Int32)) Y dX5_unwinds_51 (by decide) ?_
        refine J_icmp_eq (tgt := 62) Y dX5_unwinds_53 (by decide) ?_ ?_
        · refine J_sub [1, 2, 0] rfl ?_
          exact j_X5_unwinds_L62 X (fun v1 σ => ih v1 σ) v1 x43 (gs 50 25 t32) t32
        · refine J_iload_n Y 0 dX5_unwinds_56 rfl rfl ?_
          refine J_bipush (v := (19 : Int32)) Y dX5_unwinds_57 (by decide) ?_
          refine J_icmp_ne (tgt := 66) Y dX5_unwinds_59 (by decide) ?_ ?_
          · refine J_iconst (v := (0 : Int32)) Y dX5_unwinds_66 (by decide) ?_
            refine J_sub [1, 2, 0] rfl ?_
            exact j_X5_unwinds_L67 X (fun v1 σ => ih v1 σ) v1 x43 (0 : Int32) (gs 50 25 t32) t32
          · refine J_sub [1, 2, 0] rfl ?_
            exact j_X5_unwinds_L62 X (fun v1 σ => ih v1 σ) v1 x43 (gs 50 25 t32) t32
set_option maxRecDepth 100000 in
set_option maxHeartbeats 4000000 in
theorem j_X5_unwinds {E : JE} {G : JG} (X : JM E 3 cX5_unwinds RX5 none 1 40 G) (v1 : Int32) (σ : ST) : Jg E 3 (JF E vV) [(0, .ref (gO G 50)), (1, .int v1)] 0 [] σ (f_X5_unwinds v1 σ) := by
  have Y := X.1
  unfold f_X5_unwinds
  exact j_X5_unwinds_L0 X 1000 v1 σ
theorem c_X5_unwinds (G : JG) (v1 : Int32) (σ : ST) : Con (VM G) vV G.1 yX5_unwinds cX5_unwinds 3 none 1 40 [.ref (gO G 50), .int v1] σ (f_X5_unwinds v1 σ) :=
  Con_of (VM_ok G) (by decide +kernel) (Nat.le_of_ble_eq_true rfl) (fun E e1 e2 _ X => j_X5_unwinds ⟨X, e1, e2⟩ v1 σ)
set_option maxRecDepth 100000 in
set_option maxHeartbeats 4000000 in
theorem j_X5_holds {E : JE} {G : JG} (X : JM E 2 cX5_holds RX5 none 0 0 G) (v1 : Int32) (σ : ST) : Jg E 2 (JF E vV) [(0, .ref (gO G 50)), (1, .int v1)] 0 [] σ (f_X5_holds v1 σ) := by
  have Y := X.1
  unfold f_X5_holds
  refine J_aload_n Y 0 dX5_holds_0 rfl rfl ?_
  refine M_get 23 X (by decide) rfl wfl_RX5_49 rfl dX5_holds_1 ?_
  refine J_aload_n Y 0 dX5_holds_4 rfl rfl ?_
  refine M_get 24 X (by decide) rfl wfl_RX5_124 rfl dX5_holds_5 ?_
  refine J_iload_n Y 1 dX5_holds_8 rfl rfl ?_
  refine M_ast X (mA_23 G _) (mS_23 G _) dX5_holds_9 (fun t9 => ?_)
  refine J_aload_n Y 0 dX5_holds_10 rfl rfl ?_
  refine J_dup Y dX5_holds_11 rfl ?_
  refine M_get 24 X (by decide) rfl wfl_RX5_124 rfl dX5_holds_12 ?_
  refine J_iconst (v := (1 : Int32)) Y dX5_holds_15 (by decide) ?_
  refine J_iadd Y dX5_holds_16 ?_
  refine M_put 24 (ty := .int) X (by decide) wfl_RX5_124 rfl rfl rfl (by decide +kernel) rfl (mF_24 G _ _) dX5_holds_17 (fun t17 => ?_)
  exact J_return Y dX5_holds_20
theorem c_X5_holds (G : JG) (v1 : Int32) (σ : ST) : Con (VM G) vV G.1 yX5_holds cX5_holds 2 none 0 0 [.ref (gO G 50), .int v1] σ (f_X5_holds v1 σ) :=
  Con_of (VM_ok G) (by decide +kernel) (Nat.le_of_ble_eq_true rfl) (fun E e1 e2 _ X => j_X5_holds ⟨X, e1, e2⟩ v1 σ)
set_option maxRecDepth 100000 in
set_option maxHeartbeats 4000000 in
theorem j_X5_opensOne {E : JE} {G : JG} (X : JM E 2 cX5_opensOne RX5 (some .boolean) 1 40 G) (v1 : Int32) (σ : ST) : Jg E 2 (JF E vI) [(0, .ref (gO G 50)), (1, .int v1)] 0 [] σ (f_X5_opensOne v1 σ) := by
  have Y := X.1
  unfold f_X5_opensOne
  refine J_aload_n Y 0 dX5_opensOne_0 rfl rfl ?_
  refine M_get 25 X (by decide) rfl wfl_RX5_130 rfl dX5_opensOne_1 ?_
  refine J_iconst (v := (5 : Int32)) Y dX5_opensOne_4 (by decide) ?_
  refine J_icmp_ne (tgt := 10) Y dX5_opensOne_5 (by decide) ?_ ?_
  · refine J_aload_n Y 0 dX5_opensOne_10 rfl rfl ?_
    refine J_dup Y dX5_opensOne_11 rfl ?_
    refine M_get 25 X (by decide) rfl wfl_RX5_130 rfl dX5_opensOne_12 ?_
    refine J_iconst (v := (1 : Int32)) Y dX5_opensOne_15 (by decide) ?_
    refine J_iadd Y dX5_opensOne_16 ?_
    refine M_put 25 (ty := .int) X (by decide) wfl_RX5_130 rfl rfl rfl (by decide +kernel) rfl (mF_25 G _ _) dX5_opensOne_17 (fun t17 => ?_)
    refine J_aload_n Y 0 dX5_opensOne_20 rfl rfl ?_
    refine J_iload_n Y 1 dX5_opensOne_21 rfl rfl ?_
    refine M_cVv (As := [.int v1]) (st := []) rfl X (c_X5_holds G v1 _) wi_X5_holds win_X5_holds wse_X5_holds wml_RX5_137 ⟨Nat.le_of_ble_eq_true rfl, Nat.le_of_ble_eq_true rfl⟩ rfl (Nat.le_of_ble_eq_true rfl) dX5_opensOne_22 (fun t22 => ?_)
    refine J_iconst (v := (1 : Int32)) Y dX5_opensOne_25 (by decide) ?_
    exact J_zreturn Y dX5_opensOne_26
  · refine J_iconst (v := (0 : Int32)) Y dX5_opensOne_8 (by decide) ?_
    exact J_zreturn Y dX5_opensOne_9
theorem c_X5_opensOne (G : JG) (v1 : Int32) (σ : ST) : Con (VM G) vI G.1 yX5_opensOne cX5_opensOne 2 (some .boolean) 1 40 [.ref (gO G 50), .int v1] σ (f_X5_opensOne v1 σ) :=
  Con_of (VM_ok G) (by decide +kernel) (Nat.le_of_ble_eq_true rfl) (fun E e1 e2 _ X => j_X5_opensOne ⟨X, e1, e2⟩ v1 σ)
set_option maxRecDepth 100000 in
set_option maxHeartbeats 4000000 in
theorem j_X5_between_L55 {E : JE} {G : JG} (X : JM E 2 cX5_between RX5 (some .boolean) 2 80 G) (v1 : Int32) (σ : ST) : Jg E 2 (JF E vI) [(0, .ref (gO G 50)), (1, .int v1)] 55 [] σ (f_X5_between_L55 v1 σ) := by
  have Y := X.1
  unfold f_X5_between_L55
  refine J_aload_n Y 0 dX5_between_55 rfl rfl ?_
  refine J_iload_n Y 1 dX5_between_56 rfl rfl ?_
  refine M_cVv (As := [.int v1]) (st := []) rfl X (c_X5_holds G v1 _) wi_X5_holds win_X5_holds wse_X5_holds wml_RX5_137 ⟨Nat.le_of_ble_eq_true rfl, Nat.le_of_ble_eq_true rfl⟩ rfl (Nat.le_of_ble_eq_true rfl) dX5_between_57 (fun t57 => ?_)
  refine J_iconst (v := (1 : Int32)) Y dX5_between_60 (by decide) ?_
  exact J_zreturn Y dX5_between_61
set_option maxRecDepth 100000 in
set_option maxHeartbeats 4000000 in
theorem j_X5_between_L17 {E : JE} {G : JG} (X : JM E 2 cX5_between RX5 (some .boolean) 2 80 G) (v1 : Int32) (s0 : Int32) (σ : ST) : Jg E 2 (JF E vI) [(0, .ref (gO G 50)), (1, .int v1)] 17 [.int s0, .ref (gO G 50)] σ (f_X5_between_L17 v1 s0 σ) := by
  have Y := X.1
  unfold f_X5_between_L17
  refine M_cVv (As := [.int s0]) (st := []) rfl X (c_X5_unwinds G s0 _) wi_X5_unwinds win_X5_unwinds wse_X5_unwinds wml_RX5_140 ⟨Nat.le_of_ble_eq_true rfl, Nat.le_of_ble_eq_true rfl⟩ rfl (Nat.le_of_ble_eq_true rfl) dX5_between_17 (fun t17 => ?_)
  refine J_iload_n Y 1 dX5_between_20 rfl rfl ?_
  refine M_cSi (As := [.int v1]) (st := []) rfl X (c_X5_rank G v1 _) wi_X5_rank wst_X5_rank wml_RX5_127 ⟨Nat.le_of_ble_eq_true rfl, Nat.le_of_ble_eq_true rfl⟩ rfl (Nat.le_of_ble_eq_true rfl) dX5_between_21 (fun y21 t21 => ?_)
  refine J_iconst (v := (4 : Int32)) Y dX5_between_24 (by decide) ?_
  refine J_icmp_ne (tgt := 55) Y dX5_between_25 (by decide) ?_ ?_
  · exact j_X5_between_L55 X v1 t21
  · refine J_aload_n Y 0 dX5_between_28 rfl rfl ?_
    refine M_get 24 X (by decide) rfl wfl_RX5_124 rfl dX5_between_29 ?_
    refine J_if_le (tgt := 55) Y dX5_between_32 (by decide) ?_ ?_
    · exact j_X5_between_L55 X v1 t21
    · refine J_aload_n Y 0 dX5_between_35 rfl rfl ?_
      refine M_get 23 X (by decide) rfl wfl_RX5_49 rfl dX5_between_36 ?_
      refine J_aload_n Y 0 dX5_between_39 rfl rfl ?_
      refine M_get 24 X (by decide) rfl wfl_RX5_124 rfl dX5_between_40 ?_
      refine J_iconst (v := (1 : Int32)) Y dX5_between_43 (by decide) ?_
      refine J_isub Y dX5_between_44 ?_
      refine M_ald X (mA_23 G _) dX5_between_45 (fun x45 => ?_)
      refine M_cSi (As := [.int x45]) (st := []) rfl X (c_X5_rank G x45 _) wi_X5_rank wst_X5_rank wml_RX5_127 ⟨Nat.le_of_ble_eq_true rfl, Nat.le_of_ble_eq_true rfl⟩ rfl (Nat.le_of_ble_eq_true rfl) dX5_between_46 (fun y46 t46 => ?_)
      refine J_iconst (v := (4 : Int32)) Y dX5_between_49 (by decide) ?_
      refine J_icmp_ne (tgt := 55) Y dX5_between_50 (by decide) ?_ ?_
      · exact j_X5_between_L55 X v1 t46
      · refine J_iconst (v := (0 : Int32)) Y dX5_between_53 (by decide) ?_
        exact J_zreturn Y dX5_between_54
set_option maxRecDepth 100000 in
set_option maxHeartbeats 4000000 in
theorem j_X5_between {E : JE} {G : JG} (X : JM E 2 cX5_between RX5 (some .boolean) 2 80 G) (v1 : Int32) (σ : ST) : Jg E 2 (JF E vI) [(0, .ref (gO G 50)), (1, .int v1)] 0 [] σ (f_X5_between v1 σ) := by
  have Y := X.1
  unfold f_X5_between
  refine J_aload_n Y 0 dX5_between_0 rfl rfl ?_
  refine J_iload_n Y 1 dX5_between_1 rfl rfl ?_
  refine M_cSi (As := [.int v1]) (st := [.ref (gO G 50)]) rfl X (c_X5_rank G v1 _) wi_X5_rank wst_X5_rank wml_RX5_127 ⟨Nat.le_of_ble_eq_true rfl, Nat.le_of_ble_eq_true rfl⟩ rfl (Nat.le_of_ble_eq_true rfl) dX5_between_2 (fun y2 t2 => ?_)
  refine J_iconst (v := (4 : Int32)) Y dX5_between_5 (by decide) ?_
  refine J_icmp_ne (tgt := 13) Y dX5_between_6 (by decide) ?_ ?_
  · refine J_iload_n Y 1 dX5_between_13 rfl rfl ?_
    refine M_cSi (As := [.int v1]) (st := [.ref (gO G 50)]) rfl X (c_X5_rank G v1 _) wi_X5_rank wst_X5_rank wml_RX5_127 ⟨Nat.le_of_ble_eq_true rfl, Nat.le_of_ble_eq_true rfl⟩ rfl (Nat.le_of_ble_eq_true rfl) dX5_between_14 (fun y14 t14 => ?_)
    exact j_X5_between_L17 X v1 y14 t14
  · refine J_iconst (v := (5 : Int32)) Y dX5_between_9 (by decide) ?_
    refine J_goto (tgt := 17) Y dX5_between_10 (by decide) ?_
    exact j_X5_between_L17 X v1 (5 : Int32) t2
theorem c_X5_between (G : JG) (v1 : Int32) (σ : ST) : Con (VM G) vI G.1 yX5_between cX5_between 2 (some .boolean) 2 80 [.ref (gO G 50), .int v1] σ (f_X5_between v1 σ) :=
  Con_of (VM_ok G) (by decide +kernel) (Nat.le_of_ble_eq_true rfl) (fun E e1 e2 _ X => j_X5_between ⟨X, e1, e2⟩ v1 σ)
set_option maxRecDepth 100000 in
set_option maxHeartbeats 4000000 in
theorem j_X5_signOf_L97 {E : JE} {G : JG} (X : JM E 1 cX5_signOf RX5 (some .int) 0 0 G) (s0 : Int32) (σ : ST) : Jg E 1 (JF E vI) [] 97 [.int s0] σ (f_X5_signOf_L97 s0 σ) := by
  have Y := X.1
  unfold f_X5_signOf_L97
  exact J_ireturn Y dX5_signOf_97
set_option maxRecDepth 100000 in
set_option maxHeartbeats 4000000 in
theorem j_X5_signOf {E : JE} {G : JG} (X : JM E 1 cX5_signOf RX5 (some .int) 0 0 G) (σ : ST) : Jg E 1 (JF E vI) [(0, .ref (gO G 50))] 0 [] σ (f_X5_signOf σ) := by
  have Y := X.1
  unfold f_X5_signOf
  refine J_aload_n Y 0 dX5_signOf_0 rfl rfl ?_
  refine M_get 20 X (by decide) rfl wfl_RX5_111 rfl dX5_signOf_1 ?_
  refine J_iconst (v := (4 : Int32)) Y dX5_signOf_4 (by decide) ?_
  refine J_icmp_ne (tgt := 13) Y dX5_signOf_5 (by decide) ?_ ?_
  · refine J_aload_n Y 0 dX5_signOf_13 rfl rfl ?_
    refine M_get 20 X (by decide) rfl wfl_RX5_111 rfl dX5_signOf_14 ?_
    refine J_iconst (v := (5 : Int32)) Y dX5_signOf_17 (by decide) ?_
    refine J_icmp_ne (tgt := 26) Y dX5_signOf_18 (by decide) ?_ ?_
    · refine J_aload_n Y 0 dX5_signOf_26 rfl rfl ?_
      refine M_get 20 X (by decide) rfl wfl_RX5_111 rfl dX5_signOf_27 ?_
      refine J_bipush (v := (60 : Int32)) Y dX5_signOf_30 (by decide) ?_
      refine J_icmp_ne (tgt := 40) Y dX5_signOf_32 (by decide) ?_ ?_
      · refine J_aload_n Y 0 dX5_signOf_40 rfl rfl ?_
        refine M_get 20 X (by decide) rfl wfl_RX5_111 rfl dX5_signOf_41 ?_
        refine J_bipush (v := (61 : Int32)) Y dX5_signOf_44 (by decide) ?_
        refine J_icmp_ne (tgt := 54) Y dX5_signOf_46 (by decide) ?_ ?_
        · refine J_aload_n Y 0 dX5_signOf_54 rfl rfl ?_
          refine M_get 20 X (by decide) rfl wfl_RX5_111 rfl dX5_signOf_55 ?_
          refine J_bipush (v := (43 : Int32)) Y dX5_signOf_58 (by decide) ?_
          refine J_icmp_ne (tgt := 68) Y dX5_signOf_60 (by decide) ?_ ?_
          · refine J_aload_n Y 0 dX5_signOf_68 rfl rfl ?_
            refine M_get 20 X (by decide) rfl wfl_RX5_111 rfl dX5_signOf_69 ?_
            refine J_bipush (v := (45 : Int32)) Y dX5_signOf_72 (by decide) ?_
            refine J_icmp_ne (tgt := 82) Y dX5_signOf_74 (by decide) ?_ ?_
            · refine J_aload_n Y 0 dX5_signOf_82 rfl rfl ?_
              refine M_get 20 X (by decide) rfl wfl_RX5_111 rfl dX5_signOf_83 ?_
              refine J_bipush (v := (42 : Int32)) Y dX5_signOf_86 (by decide) ?_
              refine J_icmp_ne (tgt := 96) Y dX5_signOf_88 (by decide) ?_ ?_
              · refine J_iconst (v := (-1 : Int32)) Y dX5_signOf_96 (by decide) ?_
                refine J_sub [] rfl ?_
                exact j_X5_signOf_L97 X (-1 : Int32) σ
              · refine J_bipush (v := (18 : Int32)) Y dX5_signOf_91 (by decide) ?_
                refine J_goto (tgt := 97) Y dX5_signOf_93 (by decide) ?_
                refine J_sub [] rfl ?_
                exact j_X5_signOf_L97 X (18 : Int32) σ
            · refine J_bipush (v := (17 : Int32)) Y dX5_signOf_77 (by decide) ?_
              refine J_goto (tgt := 97) Y dX5_signOf_79 (by decide) ?_
              refine J_sub [] rfl ?_
              exact j_X5_signOf_L97 X (17 : Int32) σ
          · refine J_bipush (v := (16 : Int32)) Y dX5_signOf_63 (by decide) ?_
            refine J_goto (tgt := 97) Y dX5_signOf_65 (by decide) ?_
            refine J_sub [] rfl ?_
            exact j_X5_signOf_L97 X (16 : Int32) σ
        · refine J_bipush (v := (15 : Int32)) Y dX5_signOf_49 (by decide) ?_
          refine J_goto (tgt := 97) Y dX5_signOf_51 (by decide) ?_
          refine J_sub [] rfl ?_
          exact j_X5_signOf_L97 X (15 : Int32) σ
      · refine J_bipush (v := (14 : Int32)) Y dX5_signOf_35 (by decide) ?_
        refine J_goto (tgt := 97) Y dX5_signOf_37 (by decide) ?_
        refine J_sub [] rfl ?_
        exact j_X5_signOf_L97 X (14 : Int32) σ
    · refine J_bipush (v := (12 : Int32)) Y dX5_signOf_21 (by decide) ?_
      refine J_goto (tgt := 97) Y dX5_signOf_23 (by decide) ?_
      refine J_sub [] rfl ?_
      exact j_X5_signOf_L97 X (12 : Int32) σ
  · refine J_bipush (v := (11 : Int32)) Y dX5_signOf_8 (by decide) ?_
    refine J_goto (tgt := 97) Y dX5_signOf_10 (by decide) ?_
    refine J_sub [] rfl ?_
    exact j_X5_signOf_L97 X (11 : Int32) σ
theorem c_X5_signOf (G : JG) (σ : ST) : Con (VM G) vI G.1 yX5_signOf cX5_signOf 1 (some .int) 0 0 [.ref (gO G 50)] σ (f_X5_signOf σ) :=
  Con_of (VM_ok G) (by decide +kernel) (Nat.le_of_ble_eq_true rfl) (fun E e1 e2 _ X => j_X5_signOf ⟨X, e1, e2⟩ σ)
set_option maxRecDepth 100000 in
set_option maxHeartbeats 4000000 in
theorem j_X5_eRead_L61 {E : JE} {G : JG} (X : JM E 4 cX5_eRead RX5 (some .boolean) 3 120 G) {k14 : Int32 → Int32 → ST → Option (Int32 × ST)} (hk14 : ∀ (v1 : Int32) (v2 : Int32) (σ : ST), Jg E 4 (JF E vI) [(0, .ref (gO G 50)), (1, .int v1), (2, .int v2)] 14 [] σ (k14 v1 v2 σ)) (v2 : Int32) (s0 : Int32) (σ : ST) : Jg E 4 (JF E vI) [(0, .ref (gO G 50)), (2, .int v2)] 61 [.int s0, .ref (gO G 50)] σ (f_X5_eRead_L61 k14 v2 s0 σ) := by
  have Y := X.1
  unfold f_X5_eRead_L61
  refine M_cVv (As := [.int s0]) (st := []) rfl X (c_X5_puts G s0 _) wi_X5_puts win_X5_puts wse_X5_puts wml_RX5_133 ⟨Nat.le_of_ble_eq_true rfl, Nat.le_of_ble_eq_true rfl⟩ rfl (Nat.le_of_ble_eq_true rfl) dX5_eRead_61 (fun t61 => ?_)
  refine J_aload_n Y 0 dX5_eRead_64 rfl rfl ?_
  refine J_bipush (v := (7 : Int32)) Y dX5_eRead_65 (by decide) ?_
  refine M_cVv (As := [.int (7 : Int32)]) (st := []) rfl X (c_X5_unwinds G (7 : Int32) _) wi_X5_unwinds win_X5_unwinds wse_X5_unwinds wml_RX5_140 ⟨Nat.le_of_ble_eq_true rfl, Nat.le_of_ble_eq_true rfl⟩ rfl (Nat.le_of_ble_eq_true rfl) dX5_eRead_67 (fun t67 => ?_)
  refine J_iconst (v := (0 : Int32)) Y dX5_eRead_70 (by decide) ?_
  refine J_istore_n [(1, .int (0 : Int32)), (0, .ref (gO G 50)), (2, .int v2)] Y dX5_eRead_71 rfl (by decide) rfl ?_
  refine J_goto (tgt := 14) Y dX5_eRead_72 (by decide) ?_
  refine J_sub [1, 0, 2] rfl ?_
  exact hk14 (0 : Int32) v2 t67
set_option maxRecDepth 100000 in
set_option maxHeartbeats 4000000 in
theorem j_X5_eRead_L38 {E : JE} {G : JG} (X : JM E 4 cX5_eRead RX5 (some .boolean) 3 120 G) {k14 : Int32 → Int32 → ST → Option (Int32 × ST)} (hk14 : ∀ (v1 : Int32) (v2 : Int32) (σ : ST), Jg E 4 (JF E vI) [(0, .ref (gO G 50)), (1, .int v1), (2, .int v2)] 14 [] σ (k14 v1 v2 σ)) (v2 : Int32) (σ : ST) : Jg E 4 (JF E vI) [(0, .ref (gO G 50)), (2, .int v2)] 38 [] σ (f_X5_eRead_L38 k14 v2 σ) := by
  have Y := X.1
  unfold f_X5_eRead_L38
  refine J_aload_n Y 0 dX5_eRead_38 rfl rfl ?_
  refine J_aload_n Y 0 dX5_eRead_39 rfl rfl ?_
  refine M_get 20 X (by decide) rfl wfl_RX5_111 rfl dX5_eRead_40 ?_
  refine J_iconst (v := (1 : Int32)) Y dX5_eRead_43 (by decide) ?_
  refine J_icmp_ne (tgt := 57) Y dX5_eRead_44 (by decide) ?_ ?_
  · refine J_aload_n Y 0 dX5_eRead_57 rfl rfl ?_
    refine M_get 21 X (by decide) rfl wfl_RX5_114 rfl dX5_eRead_58 ?_
    exact j_X5_eRead_L61 X hk14 v2 (gs 50 21 σ) σ
  · refine J_ldc (v := (100000 : Int32)) Y wcn_RX5_146 dX5_eRead_47 ?_
    refine J_aload_n Y 0 dX5_eRead_49 rfl rfl ?_
    refine M_get 21 X (by decide) rfl wfl_RX5_114 rfl dX5_eRead_50 ?_
    refine J_iadd Y dX5_eRead_53 ?_
    refine J_goto (tgt := 61) Y dX5_eRead_54 (by decide) ?_
    exact j_X5_eRead_L61 X hk14 v2 ((100000 : Int32) + (gs 50 21 σ)) σ
set_option maxRecDepth 100000 in
set_option maxHeartbeats 4000000 in
theorem j_X5_eRead_L99 {E : JE} {G : JG} (X : JM E 4 cX5_eRead RX5 (some .boolean) 3 120 G) {k14 : Int32 → Int32 → ST → Option (Int32 × ST)} (hk14 : ∀ (v1 : Int32) (v2 : Int32) (σ : ST), Jg E 4 (JF E vI) [(0, .ref (gO G 50)), (1, .int v1), (2, .int v2)] 14 [] σ (k14 v1 v2 σ)) (v1 : Int32) (σ : ST) : Jg E 4 (JF E vI) [(0, .ref (gO G 50)), (1, .int v1)] 99 [] σ (f_X5_eRead_L99 k14 v1 σ) := by
  have Y := X.1
  unfold f_X5_eRead_L99
  refine J_aload_n Y 0 dX5_eRead_99 rfl rfl ?_
  refine M_get 20 X (by decide) rfl wfl_RX5_111 rfl dX5_eRead_100 ?_
  refine J_bipush (v := (45 : Int32)) Y dX5_eRead_103 (by decide) ?_
  refine J_icmp_ne (tgt := 124) Y dX5_eRead_105 (by decide) ?_ ?_
  · refine J_aload_n Y 0 dX5_eRead_124 rfl rfl ?_
    refine M_get 20 X (by decide) rfl wfl_RX5_111 rfl dX5_eRead_125 ?_
    refine J_bipush (v := (40 : Int32)) Y dX5_eRead_128 (by decide) ?_
    refine J_icmp_ne (tgt := 148) Y dX5_eRead_130 (by decide) ?_ ?_
    · refine J_iconst (v := (0 : Int32)) Y dX5_eRead_148 (by decide) ?_
      exact J_zreturn Y dX5_eRead_149
    · refine J_aload_n Y 0 dX5_eRead_133 rfl rfl ?_
      refine J_iconst (v := (0 : Int32)) Y dX5_eRead_134 (by decide) ?_
      refine M_cVi (As := [.int (0 : Int32)]) (st := []) rfl X (c_X5_opensOne G (0 : Int32) _) wi_X5_opensOne win_X5_opensOne wse_X5_opensOne wml_RX5_147 ⟨Nat.le_of_ble_eq_true rfl, Nat.le_of_ble_eq_true rfl⟩ rfl (Nat.le_of_ble_eq_true rfl) dX5_eRead_135 (fun y135 t135 => ?_)
      refine J_if_ne (tgt := 143) Y dX5_eRead_138 (by decide) ?_ ?_
      · refine J_iconst (v := (1 : Int32)) Y dX5_eRead_143 (by decide) ?_
        refine J_istore_n [(2, .int (1 : Int32)), (0, .ref (gO G 50)), (1, .int v1)] Y dX5_eRead_144 rfl (by decide) rfl ?_
        refine J_goto (tgt := 14) Y dX5_eRead_145 (by decide) ?_
        refine J_sub [1, 2, 0] rfl ?_
        exact hk14 v1 (1 : Int32) t135
      · refine J_iconst (v := (0 : Int32)) Y dX5_eRead_141 (by decide) ?_
        exact J_zreturn Y dX5_eRead_142
  · refine J_aload_n Y 0 dX5_eRead_108 rfl rfl ?_
    refine J_bipush (v := (19 : Int32)) Y dX5_eRead_109 (by decide) ?_
    refine M_cVi (As := [.int (19 : Int32)]) (st := []) rfl X (c_X5_opensOne G (19 : Int32) _) wi_X5_opensOne win_X5_opensOne wse_X5_opensOne wml_RX5_147 ⟨Nat.le_of_ble_eq_true rfl, Nat.le_of_ble_eq_true rfl⟩ rfl (Nat.le_of_ble_eq_true rfl) dX5_eRead_111 (fun y111 t111 => ?_)
    refine J_if_ne (tgt := 119) Y dX5_eRead_114 (by decide) ?_ ?_
    · refine J_iconst (v := (0 : Int32)) Y dX5_eRead_119 (by decide) ?_
      refine J_istore_n [(2, .int (0 : Int32)), (0, .ref (gO G 50)), (1, .int v1)] Y dX5_eRead_120 rfl (by decide) rfl ?_
      refine J_goto (tgt := 14) Y dX5_eRead_121 (by decide) ?_
      refine J_sub [1, 2, 0] rfl ?_
      exact hk14 v1 (0 : Int32) t111
    · refine J_iconst (v := (0 : Int32)) Y dX5_eRead_117 (by decide) ?_
      exact J_zreturn Y dX5_eRead_118
set_option maxRecDepth 100000 in
set_option maxHeartbeats 4000000 in
theorem j_X5_eRead_L176 {E : JE} {G : JG} (X : JM E 4 cX5_eRead RX5 (some .boolean) 3 120 G) (s0 : Int32) (σ : ST) : Jg E 4 (JF E vI) [] 176 [.int s0] σ (f_X5_eRead_L176 s0 σ) := by
  have Y := X.1
  unfold f_X5_eRead_L176
  exact J_zreturn Y dX5_eRead_176
set_option maxRecDepth 100000 in
set_option maxHeartbeats 4000000 in
theorem j_X5_eRead_L159 {E : JE} {G : JG} (X : JM E 4 cX5_eRead RX5 (some .boolean) 3 120 G) (σ : ST) : Jg E 4 (JF E vI) [(0, .ref (gO G 50))] 159 [] σ (f_X5_eRead_L159 σ) := by
  have Y := X.1
  unfold f_X5_eRead_L159
  refine J_aload_n Y 0 dX5_eRead_159 rfl rfl ?_
  refine J_iconst (v := (1 : Int32)) Y dX5_eRead_160 (by decide) ?_
  refine M_cVv (As := [.int (1 : Int32)]) (st := []) rfl X (c_X5_unwinds G (1 : Int32) _) wi_X5_unwinds win_X5_unwinds wse_X5_unwinds wml_RX5_140 ⟨Nat.le_of_ble_eq_true rfl, Nat.le_of_ble_eq_true rfl⟩ rfl (Nat.le_of_ble_eq_true rfl) dX5_eRead_161 (fun t161 => ?_)
  refine J_aload_n Y 0 dX5_eRead_164 rfl rfl ?_
  refine M_get 24 X (by decide) rfl wfl_RX5_124 rfl dX5_eRead_165 ?_
  refine J_if_ne (tgt := 175) Y dX5_eRead_168 (by decide) ?_ ?_
  · refine J_iconst (v := (0 : Int32)) Y dX5_eRead_175 (by decide) ?_
    refine J_sub [] rfl ?_
    exact j_X5_eRead_L176 X (0 : Int32) t161
  · refine J_iconst (v := (1 : Int32)) Y dX5_eRead_171 (by decide) ?_
    refine J_goto (tgt := 176) Y dX5_eRead_172 (by decide) ?_
    refine J_sub [] rfl ?_
    exact j_X5_eRead_L176 X (1 : Int32) t161
set_option maxRecDepth 100000 in
set_option maxHeartbeats 4000000 in
theorem j_X5_eRead_L247 {E : JE} {G : JG} (X : JM E 4 cX5_eRead RX5 (some .boolean) 3 120 G) (σ : ST) : Jg E 4 (JF E vI) [] 247 [] σ (f_X5_eRead_L247 σ) := by
  have Y := X.1
  unfold f_X5_eRead_L247
  refine J_iconst (v := (0 : Int32)) Y dX5_eRead_247 (by decide) ?_
  exact J_zreturn Y dX5_eRead_248
set_option maxRecDepth 100000 in
set_option maxHeartbeats 4000000 in
theorem j_X5_eRead_L262 {E : JE} {G : JG} (X : JM E 4 cX5_eRead RX5 (some .boolean) 3 120 G) {k14 : Int32 → Int32 → ST → Option (Int32 × ST)} (hk14 : ∀ (v1 : Int32) (v2 : Int32) (σ : ST), Jg E 4 (JF E vI) [(0, .ref (gO G 50)), (1, .int v1), (2, .int v2)] 14 [] σ (k14 v1 v2 σ)) (v1 : Int32) (s0 : Int32) (σ : ST) : Jg E 4 (JF E vI) [(0, .ref (gO G 50)), (1, .int v1)] 262 [.int s0] σ (f_X5_eRead_L262 k14 v1 s0 σ) := by
  have Y := X.1
  unfold f_X5_eRead_L262
  refine J_istore_n [(2, .int s0), (0, .ref (gO G 50)), (1, .int v1)] Y dX5_eRead_262 rfl (by decide) rfl ?_
  refine J_goto (tgt := 14) Y dX5_eRead_263 (by decide) ?_
  refine J_sub [1, 2, 0] rfl ?_
  exact hk14 v1 s0 σ
set_option maxRecDepth 100000 in
set_option maxHeartbeats 4000000 in
theorem j_X5_eRead_L14 {E : JE} {G : JG} (X : JM E 4 cX5_eRead RX5 (some .boolean) 3 120 G) : ∀ (n : Nat) (v1 : Int32) (v2 : Int32) (σ : ST), Jg E 4 (JF E vI) [(0, .ref (gO G 50)), (1, .int v1), (2, .int v2)] 14 [] σ (f_X5_eRead_L14 n v1 v2 σ) := by
  have Y := X.1
  intro n
  induction n with
  | zero => intro v1 v2 σ; rw [f_X5_eRead_L14]; exact J_none
  | succ n ih =>
    intro v1 v2 σ
    rw [f_X5_eRead_L14]
    refine J_aload_n Y 0 dX5_eRead_14 rfl rfl ?_
    refine M_cVv (As := []) (st := []) rfl X (c_X5_next G _) wi_X5_next win_X5_next wse_X5_next wml_RX5_143 ⟨Nat.le_of_ble_eq_true rfl, Nat.le_of_ble_eq_true rfl⟩ rfl (Nat.le_of_ble_eq_true rfl) dX5_eRead_15 (fun t15 => ?_)
    refine J_iload_n Y 1 dX5_eRead_18 rfl rfl ?_
    refine J_if_eq (tgt := 150) Y dX5_eRead_19 (by decide) ?_ ?_
    · refine J_aload_n Y 0 dX5_eRead_150 rfl rfl ?_
      refine M_get 20 X (by decide) rfl wfl_RX5_111 rfl dX5_eRead_151 ?_
      refine J_bipush (v := (59 : Int32)) Y dX5_eRead_154 (by decide) ?_
      refine J_icmp_ne (tgt := 177) Y dX5_eRead_156 (by decide) ?_ ?_
      · refine J_aload_n Y 0 dX5_eRead_177 rfl rfl ?_
        refine M_get 20 X (by decide) rfl wfl_RX5_111 rfl dX5_eRead_178 ?_
        refine J_bipush (v := (41 : Int32)) Y dX5_eRead_181 (by decide) ?_
        refine J_icmp_ne (tgt := 229) Y dX5_eRead_183 (by decide) ?_ ?_
        · refine J_aload_n Y 0 dX5_eRead_229 rfl rfl ?_
          refine M_cVi (As := []) (st := []) rfl X (c_X5_signOf G _) wi_X5_signOf win_X5_signOf wse_X5_signOf wml_RX5_150 ⟨Nat.le_of_ble_eq_true rfl, Nat.le_of_ble_eq_true rfl⟩ rfl (Nat.le_of_ble_eq_true rfl) dX5_eRead_230 (fun y230 t230 => ?_)
          refine J_istore_n [(3, .int y230), (0, .ref (gO G 50)), (1, .int v1), (2, .int v2)] Y dX5_eRead_233 rfl (by decide) rfl ?_
          refine J_iload_n Y 0 dX5_eRead_234 rfl rfl ?_
          refine J_iconst (v := (-1 : Int32)) Y dX5_eRead_235 (by decide) ?_
          refine J_icmp_eq (tgt := 247) Y dX5_eRead_236 (by decide) ?_ ?_
          · refine J_sub [] rfl ?_
            exact j_X5_eRead_L247 X  t230
          · refine J_aload_n Y 1 dX5_eRead_239 rfl rfl ?_
            refine J_iload_n Y 0 dX5_eRead_240 rfl rfl ?_
            refine M_cVi (As := [.int y230]) (st := []) rfl X (c_X5_between G y230 _) wi_X5_between win_X5_between wse_X5_between wml_RX5_153 ⟨Nat.le_of_ble_eq_true rfl, Nat.le_of_ble_eq_true rfl⟩ rfl (Nat.le_of_ble_eq_true rfl) dX5_eRead_241 (fun y241 t241 => ?_)
            refine J_if_ne (tgt := 249) Y dX5_eRead_244 (by decide) ?_ ?_
            · refine J_iconst (v := (1 : Int32)) Y dX5_eRead_249 (by decide) ?_
              refine J_istore_n [(1, .int (1 : Int32)), (3, .int y230), (0, .ref (gO G 50)), (2, .int v2)] Y dX5_eRead_250 rfl (by decide) rfl ?_
              refine J_iload_n Y 1 dX5_eRead_251 rfl rfl ?_
              refine J_bipush (v := (12 : Int32)) Y dX5_eRead_252 (by decide) ?_
              refine J_icmp_gt (tgt := 261) Y dX5_eRead_254 (by decide) ?_ ?_
              · refine J_iconst (v := (0 : Int32)) Y dX5_eRead_261 (by decide) ?_
                refine J_sub [2, 0] rfl ?_
                exact j_X5_eRead_L262 X (fun v1 v2 σ => ih v1 v2 σ) (1 : Int32) (0 : Int32) t241
              · refine J_iconst (v := (1 : Int32)) Y dX5_eRead_257 (by decide) ?_
                refine J_goto (tgt := 262) Y dX5_eRead_258 (by decide) ?_
                refine J_sub [2, 0] rfl ?_
                exact j_X5_eRead_L262 X (fun v1 v2 σ => ih v1 v2 σ) (1 : Int32) (1 : Int32) t241
            · refine J_sub [] rfl ?_
              exact j_X5_eRead_L247 X  t241
        · refine J_aload_n Y 0 dX5_eRead_186 rfl rfl ?_
          refine J_iconst (v := (1 : Int32)) Y dX5_eRead_187 (by decide) ?_
          refine M_cVv (As := [.int (1 : Int32)]) (st := []) rfl X (c_X5_unwinds G (1 : Int32) _) wi_X5_unwinds win_X5_unwinds wse_X5_unwinds wml_RX5_140 ⟨Nat.le_of_ble_eq_true rfl, Nat.le_of_ble_eq_true rfl⟩ rfl (Nat.le_of_ble_eq_true rfl) dX5_eRead_188 (fun t188 => ?_)
          refine J_aload_n Y 0 dX5_eRead_191 rfl rfl ?_
          refine M_get 24 X (by decide) rfl wfl_RX5_124 rfl dX5_eRead_192 ?_
          refine J_if_ne (tgt := 200) Y dX5_eRead_195 (by decide) ?_ ?_
          · refine J_aload_n Y 0 dX5_eRead_200 rfl rfl ?_
            refine J_dup Y dX5_eRead_201 rfl ?_
            refine M_get 24 X (by decide) rfl wfl_RX5_124 rfl dX5_eRead_202 ?_
            refine J_iconst (v := (1 : Int32)) Y dX5_eRead_205 (by decide) ?_
            refine J_isub Y dX5_eRead_206 ?_
            refine M_put 24 (ty := .int) X (by decide) wfl_RX5_124 rfl rfl rfl (by decide +kernel) rfl (mF_24 G _ _) dX5_eRead_207 (fun t207 => ?_)
            refine J_aload_n Y 0 dX5_eRead_210 rfl rfl ?_
            refine J_dup Y dX5_eRead_211 rfl ?_
            refine M_get 25 X (by decide) rfl wfl_RX5_130 rfl dX5_eRead_212 ?_
            refine J_iconst (v := (1 : Int32)) Y dX5_eRead_215 (by decide) ?_
            refine J_isub Y dX5_eRead_216 ?_
            refine M_put 25 (ty := .int) X (by decide) wfl_RX5_130 rfl rfl rfl (by decide +kernel) rfl (mF_25 G _ _) dX5_eRead_217 (fun t217 => ?_)
            refine J_aload_n Y 0 dX5_eRead_220 rfl rfl ?_
            refine J_bipush (v := (7 : Int32)) Y dX5_eRead_221 (by decide) ?_
            refine M_cVv (As := [.int (7 : Int32)]) (st := []) rfl X (c_X5_unwinds G (7 : Int32) _) wi_X5_unwinds win_X5_unwinds wse_X5_unwinds wml_RX5_140 ⟨Nat.le_of_ble_eq_true rfl, Nat.le_of_ble_eq_true rfl⟩ rfl (Nat.le_of_ble_eq_true rfl) dX5_eRead_223 (fun t223 => ?_)
            refine J_goto (tgt := 14) Y dX5_eRead_226 (by decide) ?_
            exact ih v1 v2 t223
          · refine J_iconst (v := (0 : Int32)) Y dX5_eRead_198 (by decide) ?_
            exact J_zreturn Y dX5_eRead_199
      · refine J_sub [0] rfl ?_
        exact j_X5_eRead_L159 X  t15
    · refine J_aload_n Y 0 dX5_eRead_22 rfl rfl ?_
      refine M_get 20 X (by decide) rfl wfl_RX5_111 rfl dX5_eRead_23 ?_
      refine J_iconst (v := (1 : Int32)) Y dX5_eRead_26 (by decide) ?_
      refine J_icmp_eq (tgt := 38) Y dX5_eRead_27 (by decide) ?_ ?_
      · refine J_sub [0, 2] rfl ?_
        exact j_X5_eRead_L38 X (fun v1 v2 σ => ih v1 v2 σ) v2 t15
      · refine J_aload_n Y 0 dX5_eRead_30 rfl rfl ?_
        refine M_get 20 X (by decide) rfl wfl_RX5_111 rfl dX5_eRead_31 ?_
        refine J_iconst (v := (2 : Int32)) Y dX5_eRead_34 (by decide) ?_
        refine J_icmp_ne (tgt := 75) Y dX5_eRead_35 (by decide) ?_ ?_
        · refine J_aload_n Y 0 dX5_eRead_75 rfl rfl ?_
          refine M_get 20 X (by decide) rfl wfl_RX5_111 rfl dX5_eRead_76 ?_
          refine J_bipush (v := (6 : Int32)) Y dX5_eRead_79 (by decide) ?_
          refine J_icmp_ne (tgt := 99) Y dX5_eRead_81 (by decide) ?_ ?_
          · refine J_sub [0, 1] rfl ?_
            exact j_X5_eRead_L99 X (fun v1 v2 σ => ih v1 v2 σ) v1 t15
          · refine J_iload_n Y 2 dX5_eRead_84 rfl rfl ?_
            refine J_if_eq (tgt := 99) Y dX5_eRead_85 (by decide) ?_ ?_
            · refine J_sub [0, 1] rfl ?_
              exact j_X5_eRead_L99 X (fun v1 v2 σ => ih v1 v2 σ) v1 t15
            · refine J_aload_n Y 0 dX5_eRead_88 rfl rfl ?_
              refine J_bipush (v := (13 : Int32)) Y dX5_eRead_89 (by decide) ?_
              refine M_cVi (As := [.int (13 : Int32)]) (st := []) rfl X (c_X5_opensOne G (13 : Int32) _) wi_X5_opensOne win_X5_opensOne wse_X5_opensOne wml_RX5_147 ⟨Nat.le_of_ble_eq_true rfl, Nat.le_of_ble_eq_true rfl⟩ rfl (Nat.le_of_ble_eq_true rfl) dX5_eRead_91 (fun y91 t91 => ?_)
              refine J_if_ne (tgt := 14) Y dX5_eRead_94 (by decide) ?_ ?_
              · exact ih v1 v2 t91
              · refine J_iconst (v := (0 : Int32)) Y dX5_eRead_97 (by decide) ?_
                exact J_zreturn Y dX5_eRead_98
        · refine J_sub [0, 2] rfl ?_
          exact j_X5_eRead_L38 X (fun v1 v2 σ => ih v1 v2 σ) v2 t15
set_option maxRecDepth 100000 in
set_option maxHeartbeats 4000000 in
theorem j_X5_eRead {E : JE} {G : JG} (X : JM E 4 cX5_eRead RX5 (some .boolean) 3 120 G) (σ : ST) : Jg E 4 (JF E vI) [(0, .ref (gO G 50))] 0 [] σ (f_X5_eRead σ) := by
  have Y := X.1
  unfold f_X5_eRead
  refine J_aload_n Y 0 dX5_eRead_0 rfl rfl ?_
  refine J_iconst (v := (0 : Int32)) Y dX5_eRead_1 (by decide) ?_
  refine M_put 24 (ty := .int) X (by decide) wfl_RX5_124 rfl rfl rfl (by decide +kernel) rfl (mF_24 G _ _) dX5_eRead_2 (fun t2 => ?_)
  refine J_aload_n Y 0 dX5_eRead_5 rfl rfl ?_
  refine J_iconst (v := (0 : Int32)) Y dX5_eRead_6 (by decide) ?_
  refine M_put 25 (ty := .int) X (by decide) wfl_RX5_130 rfl rfl rfl (by decide +kernel) rfl (mF_25 G _ _) dX5_eRead_7 (fun t7 => ?_)
  refine J_iconst (v := (1 : Int32)) Y dX5_eRead_10 (by decide) ?_
  refine J_istore_n [(1, .int (1 : Int32)), (0, .ref (gO G 50))] Y dX5_eRead_11 rfl (by decide) rfl ?_
  refine J_iconst (v := (1 : Int32)) Y dX5_eRead_12 (by decide) ?_
  refine J_istore_n [(2, .int (1 : Int32)), (1, .int (1 : Int32)), (0, .ref (gO G 50))] Y dX5_eRead_13 rfl (by decide) rfl ?_
  refine J_sub [2, 1, 0] rfl ?_
  exact j_X5_eRead_L14 X 1000 (1 : Int32) (1 : Int32) t7
theorem c_X5_eRead (G : JG) (σ : ST) : Con (VM G) vI G.1 yX5_eRead cX5_eRead 4 (some .boolean) 3 120 [.ref (gO G 50)] σ (f_X5_eRead σ) :=
  Con_of (VM_ok G) (by decide +kernel) (Nat.le_of_ble_eq_true rfl) (fun E e1 e2 _ X => j_X5_eRead ⟨X, e1, e2⟩ σ)
set_option maxRecDepth 100000 in
set_option maxHeartbeats 4000000 in
theorem j_X5_text_L94 {E : JE} {G : JG} (X : JM E 3 cX5_text RX5 (some .int) 4 160 G) {k26 : Int32 → Int32 → ST → Option (Int32 × ST)} (hk26 : ∀ (v1 : Int32) (v2 : Int32) (σ : ST), Jg E 3 (JF E vI) [(0, .ref (gO G 50)), (1, .int v1), (2, .int v2)] 26 [] σ (k26 v1 v2 σ)) (v2 : Int32) (s0 : Int32) (σ : ST) : Jg E 3 (JF E vI) [(0, .ref (gO G 50)), (2, .int v2)] 94 [.int s0] σ (f_X5_text_L94 k26 v2 s0 σ) := by
  have Y := X.1
  unfold f_X5_text_L94
  refine J_istore_n [(1, .int s0), (0, .ref (gO G 50)), (2, .int v2)] Y dX5_text_94 rfl (by decide) rfl ?_
  refine J_iinc (v := v2 + (1 : Int32)) [(2, .int (v2 + (1 : Int32))), (1, .int s0), (0, .ref (gO G 50))] Y 2 dX5_text_95 rfl (congrArg (fun z => _ + z) (by decide)) (by decide) rfl ?_
  refine J_goto (tgt := 26) Y dX5_text_98 (by decide) ?_
  refine J_sub [2, 1, 0] rfl ?_
  exact hk26 s0 (v2 + (1 : Int32)) σ
set_option maxRecDepth 100000 in
set_option maxHeartbeats 4000000 in
theorem j_X5_text_L93 {E : JE} {G : JG} (X : JM E 3 cX5_text RX5 (some .int) 4 160 G) {k26 : Int32 → Int32 → ST → Option (Int32 × ST)} (hk26 : ∀ (v1 : Int32) (v2 : Int32) (σ : ST), Jg E 3 (JF E vI) [(0, .ref (gO G 50)), (1, .int v1), (2, .int v2)] 26 [] σ (k26 v1 v2 σ)) (v2 : Int32) (σ : ST) : Jg E 3 (JF E vI) [(0, .ref (gO G 50)), (2, .int v2)] 93 [] σ (f_X5_text_L93 k26 v2 σ) := by
  have Y := X.1
  unfold f_X5_text_L93
  refine J_iconst (v := (0 : Int32)) Y dX5_text_93 (by decide) ?_
  exact j_X5_text_L94 X hk26 v2 (0 : Int32) σ
set_option maxRecDepth 100000 in
set_option maxHeartbeats 4000000 in
theorem j_X5_text_L60 {E : JE} {G : JG} (X : JM E 3 cX5_text RX5 (some .int) 4 160 G) {k26 : Int32 → Int32 → ST → Option (Int32 × ST)} (hk26 : ∀ (v1 : Int32) (v2 : Int32) (σ : ST), Jg E 3 (JF E vI) [(0, .ref (gO G 50)), (1, .int v1), (2, .int v2)] 26 [] σ (k26 v1 v2 σ)) (v2 : Int32) (s0 : Int32) (σ : ST) : Jg E 3 (JF E vI) [(0, .ref (gO G 50)), (2, .int v2)] 60 [.int s0] σ (f_X5_text_L60 k26 v2 s0 σ) := by
  have Y := X.1
  unfold f_X5_text_L60
  refine J_istore_n [(1, .int s0), (0, .ref (gO G 50)), (2, .int v2)] Y dX5_text_60 rfl (by decide) rfl ?_
  refine J_aload_n Y 1 dX5_text_61 rfl rfl ?_
  refine M_get 8 X (by decide) rfl wfl_RX5_25 rfl dX5_text_62 ?_
  refine J_iconst (v := (4 : Int32)) Y dX5_text_65 (by decide) ?_
  refine J_aload_n Y 1 dX5_text_66 rfl rfl ?_
  refine M_get 9 X (by decide) rfl wfl_RX5_96 rfl dX5_text_67 ?_
  refine J_imul Y dX5_text_70 ?_
  refine J_iload_n Y 2 dX5_text_71 rfl rfl ?_
  refine J_iadd Y dX5_text_72 ?_
  refine J_aload_n Y 1 dX5_text_73 rfl rfl ?_
  refine M_get 26 X (by decide) rfl wfl_RX5_121 rfl dX5_text_74 ?_
  refine M_ast X (mA_8 G _) (mS_8 G _) dX5_text_77 (fun t77 => ?_)
  refine J_iload_n Y 0 dX5_text_78 rfl rfl ?_
  refine J_if_eq (tgt := 93) Y dX5_text_79 (by decide) ?_ ?_
  · refine J_sub [1, 2] rfl ?_
    exact j_X5_text_L93 X hk26 v2 t77
  · refine J_aload_n Y 1 dX5_text_82 rfl rfl ?_
    refine M_cVi (As := []) (st := []) rfl X (c_X5_eRead G _) wi_X5_eRead win_X5_eRead wse_X5_eRead wml_RX5_156 ⟨Nat.le_of_ble_eq_true rfl, Nat.le_of_ble_eq_true rfl⟩ rfl (Nat.le_of_ble_eq_true rfl) dX5_text_83 (fun y83 t83 => ?_)
    refine J_if_eq (tgt := 93) Y dX5_text_86 (by decide) ?_ ?_
    · refine J_sub [1, 2] rfl ?_
      exact j_X5_text_L93 X hk26 v2 t83
    · refine J_iconst (v := (1 : Int32)) Y dX5_text_89 (by decide) ?_
      refine J_goto (tgt := 94) Y dX5_text_90 (by decide) ?_
      refine J_sub [1, 2] rfl ?_
      exact j_X5_text_L94 X hk26 v2 (1 : Int32) t83
set_option maxRecDepth 100000 in
set_option maxHeartbeats 4000000 in
theorem j_X5_text_L59 {E : JE} {G : JG} (X : JM E 3 cX5_text RX5 (some .int) 4 160 G) {k26 : Int32 → Int32 → ST → Option (Int32 × ST)} (hk26 : ∀ (v1 : Int32) (v2 : Int32) (σ : ST), Jg E 3 (JF E vI) [(0, .ref (gO G 50)), (1, .int v1), (2, .int v2)] 26 [] σ (k26 v1 v2 σ)) (v2 : Int32) (σ : ST) : Jg E 3 (JF E vI) [(0, .ref (gO G 50)), (2, .int v2)] 59 [] σ (f_X5_text_L59 k26 v2 σ) := by
  have Y := X.1
  unfold f_X5_text_L59
  refine J_iconst (v := (0 : Int32)) Y dX5_text_59 (by decide) ?_
  exact j_X5_text_L60 X hk26 v2 (0 : Int32) σ
set_option maxRecDepth 100000 in
set_option maxHeartbeats 4000000 in
theorem j_X5_text_L122 {E : JE} {G : JG} (X : JM E 3 cX5_text RX5 (some .int) 4 160 G) (v1 : Int32) (σ : ST) : Jg E 3 (JF E vI) [(0, .ref (gO G 50)), (1, .int v1)] 122 [] σ (f_X5_text_L122 v1 σ) := by
  have Y := X.1
  unfold f_X5_text_L122
  refine J_aload_n Y 0 dX5_text_122 rfl rfl ?_
  refine M_get 8 X (by decide) rfl wfl_RX5_25 rfl dX5_text_123 ?_
  refine J_iconst (v := (4 : Int32)) Y dX5_text_126 (by decide) ?_
  refine J_aload_n Y 0 dX5_text_127 rfl rfl ?_
  refine M_get 9 X (by decide) rfl wfl_RX5_96 rfl dX5_text_128 ?_
  refine J_imul Y dX5_text_131 ?_
  refine J_iconst (v := (3 : Int32)) Y dX5_text_132 (by decide) ?_
  refine J_iadd Y dX5_text_133 ?_
  refine J_aload_n Y 0 dX5_text_134 rfl rfl ?_
  refine M_get 26 X (by decide) rfl wfl_RX5_121 rfl dX5_text_135 ?_
  refine M_ast X (mA_8 G _) (mS_8 G _) dX5_text_138 (fun t138 => ?_)
  refine J_aload_n Y 0 dX5_text_139 rfl rfl ?_
  refine J_iconst (v := (0 : Int32)) Y dX5_text_140 (by decide) ?_
  refine M_put 6 (ty := .int) X (by decide) wfl_RX5_67 rfl rfl rfl (by decide +kernel) rfl (mF_6 G _ _) dX5_text_141 (fun t141 => ?_)
  refine J_iload_n Y 1 dX5_text_144 rfl rfl ?_
  refine J_if_ne (tgt := 156) Y dX5_text_145 (by decide) ?_ ?_
  · refine J_aload_n Y 0 dX5_text_156 rfl rfl ?_
    refine J_dup Y dX5_text_157 rfl ?_
    refine M_get 9 X (by decide) rfl wfl_RX5_96 rfl dX5_text_158 ?_
    refine J_iconst (v := (1 : Int32)) Y dX5_text_161 (by decide) ?_
    refine J_iadd Y dX5_text_162 ?_
    refine M_put 9 (ty := .int) X (by decide) wfl_RX5_96 rfl rfl rfl (by decide +kernel) rfl (mF_9 G _ _) dX5_text_163 (fun t163 => ?_)
    refine J_aload_n Y 0 dX5_text_166 rfl rfl ?_
    refine M_get 9 X (by decide) rfl wfl_RX5_96 rfl dX5_text_167 ?_
    refine J_iconst (v := (1 : Int32)) Y dX5_text_170 (by decide) ?_
    refine J_isub Y dX5_text_171 ?_
    exact J_ireturn Y dX5_text_172
  · refine J_bipush (v := (-100 : Int32)) Y dX5_text_148 (by decide) ?_
    refine J_aload_n Y 0 dX5_text_150 rfl rfl ?_
    refine M_get 19 X (by decide) rfl wfl_RX5_108 rfl dX5_text_151 ?_
    refine J_isub Y dX5_text_154 ?_
    exact J_ireturn Y dX5_text_155
set_option maxRecDepth 100000 in
set_option maxHeartbeats 4000000 in
theorem j_X5_text_L121 {E : JE} {G : JG} (X : JM E 3 cX5_text RX5 (some .int) 4 160 G) (s0 : Int32) (σ : ST) : Jg E 3 (JF E vI) [(0, .ref (gO G 50))] 121 [.int s0] σ (f_X5_text_L121 s0 σ) := by
  have Y := X.1
  unfold f_X5_text_L121
  refine J_istore_n [(1, .int s0), (0, .ref (gO G 50))] Y dX5_text_121 rfl (by decide) rfl ?_
  refine J_sub [1, 0] rfl ?_
  exact j_X5_text_L122 X s0 σ
set_option maxRecDepth 100000 in
set_option maxHeartbeats 4000000 in
theorem j_X5_text_L101 {E : JE} {G : JG} (X : JM E 3 cX5_text RX5 (some .int) 4 160 G) (v1 : Int32) (σ : ST) : Jg E 3 (JF E vI) [(0, .ref (gO G 50)), (1, .int v1)] 101 [] σ (f_X5_text_L101 v1 σ) := by
  have Y := X.1
  unfold f_X5_text_L101
  refine J_iload_n Y 1 dX5_text_101 rfl rfl ?_
  refine J_if_eq (tgt := 122) Y dX5_text_102 (by decide) ?_ ?_
  · exact j_X5_text_L122 X v1 σ
  · refine J_aload_n Y 0 dX5_text_105 rfl rfl ?_
    refine M_cVv (As := []) (st := []) rfl X (c_X5_next G _) wi_X5_next win_X5_next wse_X5_next wml_RX5_143 ⟨Nat.le_of_ble_eq_true rfl, Nat.le_of_ble_eq_true rfl⟩ rfl (Nat.le_of_ble_eq_true rfl) dX5_text_106 (fun t106 => ?_)
    refine J_aload_n Y 0 dX5_text_109 rfl rfl ?_
    refine M_get 20 X (by decide) rfl wfl_RX5_111 rfl dX5_text_110 ?_
    refine J_if_ne (tgt := 120) Y dX5_text_113 (by decide) ?_ ?_
    · refine J_iconst (v := (0 : Int32)) Y dX5_text_120 (by decide) ?_
      refine J_sub [0] rfl ?_
      exact j_X5_text_L121 X (0 : Int32) t106
    · refine J_iconst (v := (1 : Int32)) Y dX5_text_116 (by decide) ?_
      refine J_goto (tgt := 121) Y dX5_text_117 (by decide) ?_
      refine J_sub [0] rfl ?_
      exact j_X5_text_L121 X (1 : Int32) t106
set_option maxRecDepth 100000 in
set_option maxHeartbeats 4000000 in
theorem j_X5_text_L26 {E : JE} {G : JG} (X : JM E 3 cX5_text RX5 (some .int) 4 160 G) : ∀ (n : Nat) (v1 : Int32) (v2 : Int32) (σ : ST), Jg E 3 (JF E vI) [(0, .ref (gO G 50)), (1, .int v1), (2, .int v2)] 26 [] σ (f_X5_text_L26 n v1 v2 σ) := by
  have Y := X.1
  intro n
  induction n with
  | zero => intro v1 v2 σ; rw [f_X5_text_L26]; exact J_none
  | succ n ih =>
    intro v1 v2 σ
    rw [f_X5_text_L26]
    refine J_iload_n Y 2 dX5_text_26 rfl rfl ?_
    refine J_iconst (v := (3 : Int32)) Y dX5_text_27 (by decide) ?_
    refine J_icmp_ge (tgt := 101) Y dX5_text_28 (by decide) ?_ ?_
    · refine J_sub [0, 1] rfl ?_
      exact j_X5_text_L101 X v1 σ
    · refine J_iload_n Y 1 dX5_text_31 rfl rfl ?_
      refine J_if_eq (tgt := 101) Y dX5_text_32 (by decide) ?_ ?_
      · refine J_sub [0, 1] rfl ?_
        exact j_X5_text_L101 X v1 σ
      · refine J_aload_n Y 0 dX5_text_35 rfl rfl ?_
        refine M_cVv (As := []) (st := []) rfl X (c_X5_next G _) wi_X5_next win_X5_next wse_X5_next wml_RX5_143 ⟨Nat.le_of_ble_eq_true rfl, Nat.le_of_ble_eq_true rfl⟩ rfl (Nat.le_of_ble_eq_true rfl) dX5_text_36 (fun t36 => ?_)
        refine J_aload_n Y 0 dX5_text_39 rfl rfl ?_
        refine M_get 20 X (by decide) rfl wfl_RX5_111 rfl dX5_text_40 ?_
        refine J_iconst (v := (3 : Int32)) Y dX5_text_43 (by decide) ?_
        refine J_icmp_ne (tgt := 59) Y dX5_text_44 (by decide) ?_ ?_
        · refine J_sub [0, 2] rfl ?_
          exact j_X5_text_L59 X (fun v1 v2 σ => ih v1 v2 σ) v2 t36
        · refine J_aload_n Y 0 dX5_text_47 rfl rfl ?_
          refine M_get 21 X (by decide) rfl wfl_RX5_114 rfl dX5_text_48 ?_
          refine J_iload_n Y 2 dX5_text_51 rfl rfl ?_
          refine J_icmp_ne (tgt := 59) Y dX5_text_52 (by decide) ?_ ?_
          · refine J_sub [0, 2] rfl ?_
            exact j_X5_text_L59 X (fun v1 v2 σ => ih v1 v2 σ) v2 t36
          · refine J_iconst (v := (1 : Int32)) Y dX5_text_55 (by decide) ?_
            refine J_goto (tgt := 60) Y dX5_text_56 (by decide) ?_
            refine J_sub [0, 2] rfl ?_
            exact j_X5_text_L60 X (fun v1 v2 σ => ih v1 v2 σ) v2 (1 : Int32) t36
set_option maxRecDepth 100000 in
set_option maxHeartbeats 4000000 in
theorem j_X5_text {E : JE} {G : JG} (X : JM E 3 cX5_text RX5 (some .int) 4 160 G) (σ : ST) : Jg E 3 (JF E vI) [(0, .ref (gO G 50))] 0 [] σ (f_X5_text σ) := by
  have Y := X.1
  unfold f_X5_text
  refine J_aload_n Y 0 dX5_text_0 rfl rfl ?_
  refine M_get 9 X (by decide) rfl wfl_RX5_96 rfl dX5_text_1 ?_
  refine J_bipush (v := (6 : Int32)) Y dX5_text_4 (by decide) ?_
  refine J_icmp_ne (tgt := 12) Y dX5_text_6 (by decide) ?_ ?_
  · refine J_aload_n Y 0 dX5_text_12 rfl rfl ?_
    refine J_iconst (v := (0 : Int32)) Y dX5_text_13 (by decide) ?_
    refine M_put 18 (ty := .int) X (by decide) wfl_RX5_105 rfl rfl rfl (by decide +kernel) rfl (mF_18 G _ _) dX5_text_14 (fun t14 => ?_)
    refine J_aload_n Y 0 dX5_text_17 rfl rfl ?_
    refine J_iconst (v := (0 : Int32)) Y dX5_text_18 (by decide) ?_
    refine M_put 26 (ty := .int) X (by decide) wfl_RX5_121 rfl rfl rfl (by decide +kernel) rfl (mF_26 G _ _) dX5_text_19 (fun t19 => ?_)
    refine J_iconst (v := (1 : Int32)) Y dX5_text_22 (by decide) ?_
    refine J_istore_n [(1, .int (1 : Int32)), (0, .ref (gO G 50))] Y dX5_text_23 rfl (by decide) rfl ?_
    refine J_iconst (v := (0 : Int32)) Y dX5_text_24 (by decide) ?_
    refine J_istore_n [(2, .int (0 : Int32)), (1, .int (1 : Int32)), (0, .ref (gO G 50))] Y dX5_text_25 rfl (by decide) rfl ?_
    refine J_sub [2, 1, 0] rfl ?_
    exact j_X5_text_L26 X 1000 (1 : Int32) (0 : Int32) t19
  · refine J_bipush (v := (-4 : Int32)) Y dX5_text_9 (by decide) ?_
    exact J_ireturn Y dX5_text_11
theorem c_X5_text (G : JG) (σ : ST) : Con (VM G) vI G.1 yX5_text cX5_text 3 (some .int) 4 160 [.ref (gO G 50)] σ (f_X5_text σ) :=
  Con_of (VM_ok G) (by decide +kernel) (Nat.le_of_ble_eq_true rfl) (fun E e1 e2 _ X => j_X5_text ⟨X, e1, e2⟩ σ)
