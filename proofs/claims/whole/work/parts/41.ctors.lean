def wX0 (cI : ClassId) (h0 a1 b1 : Nat) (q : Nat → Nat) : va_W := [(h0, .inr (0, [.ref a1, .ref b1, .ref (q 0), .ref (q 1), .ref (q 2), .ref (q 3), .ref (q 4), .ref (q 5), .ref (q 6), .int 0, .int 0, .int 0])), ((q 0), .inl (cI, 6, .inl (fun _ => 0))), ((q 1), .inl (cI, 6, .inl (fun _ => 0))), ((q 2), .inl (cI, 6, .inl (fun _ => 0))), ((q 3), .inl (cI, 6, .inl (fun _ => 0))), ((q 4), .inl (cI, 6, .inl (fun _ => 0))), ((q 5), .inl (cI, 6, .inl (fun _ => 0))), ((q 6), .inl (cI, 48, .inl (fun _ => 0)))]
def dX0 : List Value := [.null, .null, .null, .null, .null, .null, .null, .null, .null, .int 0, .int 0, .int 0]
set_option maxRecDepth 100000 in
set_option maxHeartbeats 4000000 in
theorem i_X0_init {V : JV} {cI : ClassId} (hV : VOK V) (hI : V.2.1[0]? = some (cI, .int)) (l : Launch) (h0 a1 b1 : Nat) : RMet V l yX0_init cX0_init 3 none 1 12 7 84 [.ref h0, .ref a1, .ref b1] [(h0, .inr (0, dX0))] (fun _ : Nat → Nat => none) (fun _ => True) (wX0 cI h0 a1 b1) := by
  refine R_of hV hI (by decide +kernel) (Nat.le_of_ble_eq_true rfl) (fun E e1 e2 X hin => ?_)
  refine R_ws [(h0, .inr (0, [.null, .null, .null, .null, .null, .null, .null, .null, .null, .int 0, .int 0, .int 0]))] rfl ?_
  refine R_aload_n X 0 dX0_init_0 rfl rfl ?_
  refine R_objI X wob_RX0_3 wob_in wob_code (Nat.le_of_ble_eq_true rfl) (Nat.le_of_ble_eq_true rfl) dX0_init_1 ?_
  refine R_aload_n X 0 dX0_init_4 rfl rfl ?_
  refine R_bipush (v := (6 : Int32)) X dX0_init_5 (by decide) ?_
  refine R_newi 6 X warr_int (by decide) (by decide) (by decide) (Nat.le_of_ble_eq_true rfl) (Nat.le_of_ble_eq_true rfl) dX0_init_7 (fun q0 => ?_)
  refine R_ws [(h0, .inr (0, [.null, .null, .null, .null, .null, .null, .null, .null, .null, .int 0, .int 0, .int 0])), (q0, .inl (cI, 6, .inl (fun _ => 0)))] rfl ?_
  refine R_putF 2 0 (ty := .array .int) (v := .ref q0) X hin uw_X0 tyX0 tyX0_ok nmX0 rfl rfl (by decide) rfl wfl_RX0_9 rfl rfl rfl (by decide +kernel) rfl (Nat.le_of_ble_eq_true rfl) dX0_init_9 ?_
  refine R_ws [(h0, .inr (0, [.null, .null, .ref q0, .null, .null, .null, .null, .null, .null, .int 0, .int 0, .int 0])), (q0, .inl (cI, 6, .inl (fun _ => 0)))] rfl ?_
  refine R_aload_n X 0 dX0_init_12 rfl rfl ?_
  refine R_bipush (v := (6 : Int32)) X dX0_init_13 (by decide) ?_
  refine R_newi 6 X warr_int (by decide) (by decide) (by decide) (Nat.le_of_ble_eq_true rfl) (Nat.le_of_ble_eq_true rfl) dX0_init_15 (fun q1 => ?_)
  refine R_ws [(h0, .inr (0, [.null, .null, .ref q0, .null, .null, .null, .null, .null, .null, .int 0, .int 0, .int 0])), (q0, .inl (cI, 6, .inl (fun _ => 0))), (q1, .inl (cI, 6, .inl (fun _ => 0)))] rfl ?_
  refine R_putF 3 0 (ty := .array .int) (v := .ref q1) X hin uw_X0 tyX0 tyX0_ok nmX0 rfl rfl (by decide) rfl wfl_RX0_15 rfl rfl rfl (by decide +kernel) rfl (Nat.le_of_ble_eq_true rfl) dX0_init_17 ?_
  refine R_ws [(h0, .inr (0, [.null, .null, .ref q0, .ref q1, .null, .null, .null, .null, .null, .int 0, .int 0, .int 0])), (q0, .inl (cI, 6, .inl (fun _ => 0))), (q1, .inl (cI, 6, .inl (fun _ => 0)))] rfl ?_
  refine R_aload_n X 0 dX0_init_20 rfl rfl ?_
  refine R_bipush (v := (6 : Int32)) X dX0_init_21 (by decide) ?_
  refine R_newi 6 X warr_int (by decide) (by decide) (by decide) (Nat.le_of_ble_eq_true rfl) (Nat.le_of_ble_eq_true rfl) dX0_init_23 (fun q2 => ?_)
  refine R_ws [(h0, .inr (0, [.null, .null, .ref q0, .ref q1, .null, .null, .null, .null, .null, .int 0, .int 0, .int 0])), (q0, .inl (cI, 6, .inl (fun _ => 0))), (q1, .inl (cI, 6, .inl (fun _ => 0))), (q2, .inl (cI, 6, .inl (fun _ => 0)))] rfl ?_
  refine R_putF 4 0 (ty := .array .int) (v := .ref q2) X hin uw_X0 tyX0 tyX0_ok nmX0 rfl rfl (by decide) rfl wfl_RX0_18 rfl rfl rfl (by decide +kernel) rfl (Nat.le_of_ble_eq_true rfl) dX0_init_25 ?_
  refine R_ws [(h0, .inr (0, [.null, .null, .ref q0, .ref q1, .ref q2, .null, .null, .null, .null, .int 0, .int 0, .int 0])), (q0, .inl (cI, 6, .inl (fun _ => 0))), (q1, .inl (cI, 6, .inl (fun _ => 0))), (q2, .inl (cI, 6, .inl (fun _ => 0)))] rfl ?_
  refine R_aload_n X 0 dX0_init_28 rfl rfl ?_
  refine R_bipush (v := (6 : Int32)) X dX0_init_29 (by decide) ?_
  refine R_newi 6 X warr_int (by decide) (by decide) (by decide) (Nat.le_of_ble_eq_true rfl) (Nat.le_of_ble_eq_true rfl) dX0_init_31 (fun q3 => ?_)
  refine R_ws [(h0, .inr (0, [.null, .null, .ref q0, .ref q1, .ref q2, .null, .null, .null, .null, .int 0, .int 0, .int 0])), (q0, .inl (cI, 6, .inl (fun _ => 0))), (q1, .inl (cI, 6, .inl (fun _ => 0))), (q2, .inl (cI, 6, .inl (fun _ => 0))), (q3, .inl (cI, 6, .inl (fun _ => 0)))] rfl ?_
  refine R_putF 5 0 (ty := .array .int) (v := .ref q3) X hin uw_X0 tyX0 tyX0_ok nmX0 rfl rfl (by decide) rfl wfl_RX0_21 rfl rfl rfl (by decide +kernel) rfl (Nat.le_of_ble_eq_true rfl) dX0_init_33 ?_
  refine R_ws [(h0, .inr (0, [.null, .null, .ref q0, .ref q1, .ref q2, .ref q3, .null, .null, .null, .int 0, .int 0, .int 0])), (q0, .inl (cI, 6, .inl (fun _ => 0))), (q1, .inl (cI, 6, .inl (fun _ => 0))), (q2, .inl (cI, 6, .inl (fun _ => 0))), (q3, .inl (cI, 6, .inl (fun _ => 0)))] rfl ?_
  refine R_aload_n X 0 dX0_init_36 rfl rfl ?_
  refine R_bipush (v := (6 : Int32)) X dX0_init_37 (by decide) ?_
  refine R_newi 6 X warr_int (by decide) (by decide) (by decide) (Nat.le_of_ble_eq_true rfl) (Nat.le_of_ble_eq_true rfl) dX0_init_39 (fun q4 => ?_)
  refine R_ws [(h0, .inr (0, [.null, .null, .ref q0, .ref q1, .ref q2, .ref q3, .null, .null, .null, .int 0, .int 0, .int 0])), (q0, .inl (cI, 6, .inl (fun _ => 0))), (q1, .inl (cI, 6, .inl (fun _ => 0))), (q2, .inl (cI, 6, .inl (fun _ => 0))), (q3, .inl (cI, 6, .inl (fun _ => 0))), (q4, .inl (cI, 6, .inl (fun _ => 0)))] rfl ?_
  refine R_putF 6 0 (ty := .array .int) (v := .ref q4) X hin uw_X0 tyX0 tyX0_ok nmX0 rfl rfl (by decide) rfl wfl_RX0_24 rfl rfl rfl (by decide +kernel) rfl (Nat.le_of_ble_eq_true rfl) dX0_init_41 ?_
  refine R_ws [(h0, .inr (0, [.null, .null, .ref q0, .ref q1, .ref q2, .ref q3, .ref q4, .null, .null, .int 0, .int 0, .int 0])), (q0, .inl (cI, 6, .inl (fun _ => 0))), (q1, .inl (cI, 6, .inl (fun _ => 0))), (q2, .inl (cI, 6, .inl (fun _ => 0))), (q3, .inl (cI, 6, .inl (fun _ => 0))), (q4, .inl (cI, 6, .inl (fun _ => 0)))] rfl ?_
  refine R_aload_n X 0 dX0_init_44 rfl rfl ?_
  refine R_bipush (v := (6 : Int32)) X dX0_init_45 (by decide) ?_
  refine R_newi 6 X warr_int (by decide) (by decide) (by decide) (Nat.le_of_ble_eq_true rfl) (Nat.le_of_ble_eq_true rfl) dX0_init_47 (fun q5 => ?_)
  refine R_ws [(h0, .inr (0, [.null, .null, .ref q0, .ref q1, .ref q2, .ref q3, .ref q4, .null, .null, .int 0, .int 0, .int 0])), (q0, .inl (cI, 6, .inl (fun _ => 0))), (q1, .inl (cI, 6, .inl (fun _ => 0))), (q2, .inl (cI, 6, .inl (fun _ => 0))), (q3, .inl (cI, 6, .inl (fun _ => 0))), (q4, .inl (cI, 6, .inl (fun _ => 0))), (q5, .inl (cI, 6, .inl (fun _ => 0)))] rfl ?_
  refine R_putF 7 0 (ty := .array .int) (v := .ref q5) X hin uw_X0 tyX0 tyX0_ok nmX0 rfl rfl (by decide) rfl wfl_RX0_27 rfl rfl rfl (by decide +kernel) rfl (Nat.le_of_ble_eq_true rfl) dX0_init_49 ?_
  refine R_ws [(h0, .inr (0, [.null, .null, .ref q0, .ref q1, .ref q2, .ref q3, .ref q4, .ref q5, .null, .int 0, .int 0, .int 0])), (q0, .inl (cI, 6, .inl (fun _ => 0))), (q1, .inl (cI, 6, .inl (fun _ => 0))), (q2, .inl (cI, 6, .inl (fun _ => 0))), (q3, .inl (cI, 6, .inl (fun _ => 0))), (q4, .inl (cI, 6, .inl (fun _ => 0))), (q5, .inl (cI, 6, .inl (fun _ => 0)))] rfl ?_
  refine R_aload_n X 0 dX0_init_52 rfl rfl ?_
  refine R_bipush (v := (48 : Int32)) X dX0_init_53 (by decide) ?_
  refine R_newi 48 X warr_int (by decide) (by decide) (by decide) (Nat.le_of_ble_eq_true rfl) (Nat.le_of_ble_eq_true rfl) dX0_init_55 (fun q6 => ?_)
  refine R_ws [(h0, .inr (0, [.null, .null, .ref q0, .ref q1, .ref q2, .ref q3, .ref q4, .ref q5, .null, .int 0, .int 0, .int 0])), (q0, .inl (cI, 6, .inl (fun _ => 0))), (q1, .inl (cI, 6, .inl (fun _ => 0))), (q2, .inl (cI, 6, .inl (fun _ => 0))), (q3, .inl (cI, 6, .inl (fun _ => 0))), (q4, .inl (cI, 6, .inl (fun _ => 0))), (q5, .inl (cI, 6, .inl (fun _ => 0))), (q6, .inl (cI, 48, .inl (fun _ => 0)))] rfl ?_
  refine R_putF 8 0 (ty := .array .int) (v := .ref q6) X hin uw_X0 tyX0 tyX0_ok nmX0 rfl rfl (by decide) rfl wfl_RX0_30 rfl rfl rfl (by decide +kernel) rfl (Nat.le_of_ble_eq_true rfl) dX0_init_57 ?_
  refine R_ws [(h0, .inr (0, [.null, .null, .ref q0, .ref q1, .ref q2, .ref q3, .ref q4, .ref q5, .ref q6, .int 0, .int 0, .int 0])), (q0, .inl (cI, 6, .inl (fun _ => 0))), (q1, .inl (cI, 6, .inl (fun _ => 0))), (q2, .inl (cI, 6, .inl (fun _ => 0))), (q3, .inl (cI, 6, .inl (fun _ => 0))), (q4, .inl (cI, 6, .inl (fun _ => 0))), (q5, .inl (cI, 6, .inl (fun _ => 0))), (q6, .inl (cI, 48, .inl (fun _ => 0)))] rfl ?_
  refine R_aload_n X 0 dX0_init_60 rfl rfl ?_
  refine R_aload_n X 1 dX0_init_61 rfl rfl ?_
  refine R_putF 0 0 (ty := (.array (.object RX3))) (v := .ref a1) X hin uw_X0 tyX0 tyX0_ok nmX0 rfl rfl (by decide) rfl wfl_RX0_33 rfl rfl rfl (by decide +kernel) rfl (Nat.le_of_ble_eq_true rfl) dX0_init_62 ?_
  refine R_ws [(h0, .inr (0, [.ref a1, .null, .ref q0, .ref q1, .ref q2, .ref q3, .ref q4, .ref q5, .ref q6, .int 0, .int 0, .int 0])), (q0, .inl (cI, 6, .inl (fun _ => 0))), (q1, .inl (cI, 6, .inl (fun _ => 0))), (q2, .inl (cI, 6, .inl (fun _ => 0))), (q3, .inl (cI, 6, .inl (fun _ => 0))), (q4, .inl (cI, 6, .inl (fun _ => 0))), (q5, .inl (cI, 6, .inl (fun _ => 0))), (q6, .inl (cI, 48, .inl (fun _ => 0)))] rfl ?_
  refine R_aload_n X 0 dX0_init_65 rfl rfl ?_
  refine R_aload_n X 2 dX0_init_66 rfl rfl ?_
  refine R_putF 1 0 (ty := .array .int) (v := .ref b1) X hin uw_X0 tyX0 tyX0_ok nmX0 rfl rfl (by decide) rfl wfl_RX0_37 rfl rfl rfl (by decide +kernel) rfl (Nat.le_of_ble_eq_true rfl) dX0_init_67 ?_
  refine R_ws [(h0, .inr (0, [.ref a1, .ref b1, .ref q0, .ref q1, .ref q2, .ref q3, .ref q4, .ref q5, .ref q6, .int 0, .int 0, .int 0])), (q0, .inl (cI, 6, .inl (fun _ => 0))), (q1, .inl (cI, 6, .inl (fun _ => 0))), (q2, .inl (cI, 6, .inl (fun _ => 0))), (q3, .inl (cI, 6, .inl (fun _ => 0))), (q4, .inl (cI, 6, .inl (fun _ => 0))), (q5, .inl (cI, 6, .inl (fun _ => 0))), (q6, .inl (cI, 48, .inl (fun _ => 0)))] rfl ?_
  exact R_vret (fun k => [q0, q1, q2, q3, q4, q5, q6].getD k 0) rfl trivial rfl e2 X dX0_init_70
def wX1 (cI : ClassId) (h0 : Nat) (q : Nat → Nat) : va_W := [(h0, .inr (1, [.ref (q 0), .int (-1 : Int32), .int 0])), ((q 0), .inl (cI, 40, .inl (fun _ => 0)))]
def dX1 : List Value := [.null, .int 0, .int 0]
set_option maxRecDepth 100000 in
set_option maxHeartbeats 4000000 in
theorem i_X1_init {V : JV} {cI : ClassId} (hV : VOK V) (hI : V.2.1[0]? = some (cI, .int)) (l : Launch) (h0 : Nat) : RMet V l yX1_init cX1_init 1 none 1 12 1 40 [.ref h0] [(h0, .inr (1, dX1))] (fun _ : Nat → Nat => none) (fun _ => True) (wX1 cI h0) := by
  refine R_of hV hI (by decide +kernel) (Nat.le_of_ble_eq_true rfl) (fun E e1 e2 X hin => ?_)
  refine R_ws [(h0, .inr (1, [.null, .int 0, .int 0]))] rfl ?_
  refine R_aload_n X 0 dX1_init_0 rfl rfl ?_
  refine R_objI X wob_RX1_3 wob_in wob_code (Nat.le_of_ble_eq_true rfl) (Nat.le_of_ble_eq_true rfl) dX1_init_1 ?_
  refine R_aload_n X 0 dX1_init_4 rfl rfl ?_
  refine R_bipush (v := (40 : Int32)) X dX1_init_5 (by decide) ?_
  refine R_newi 40 X warr_int (by decide) (by decide) (by decide) (Nat.le_of_ble_eq_true rfl) (Nat.le_of_ble_eq_true rfl) dX1_init_7 (fun q0 => ?_)
  refine R_ws [(h0, .inr (1, [.null, .int 0, .int 0])), (q0, .inl (cI, 40, .inl (fun _ => 0)))] rfl ?_
  refine R_putF 0 0 (ty := .array .int) (v := .ref q0) X hin uw_X1 tyX1 tyX1_ok nmX1 rfl rfl (by decide) rfl wfl_RX1_9 rfl rfl rfl (by decide +kernel) rfl (Nat.le_of_ble_eq_true rfl) dX1_init_9 ?_
  refine R_ws [(h0, .inr (1, [.ref q0, .int 0, .int 0])), (q0, .inl (cI, 40, .inl (fun _ => 0)))] rfl ?_
  refine R_aload_n X 0 dX1_init_12 rfl rfl ?_
  refine R_iconst (v := (-1 : Int32)) X dX1_init_13 (by decide) ?_
  refine R_put 1 0 (ty := .int) (v := .int (-1 : Int32)) X uw_X1 tyX1 tyX1_ok nmX1 rfl rfl (by decide) rfl wfl_RX1_15 rfl rfl (by decide +kernel) rfl (Nat.le_of_ble_eq_true rfl) dX1_init_14 ?_
  refine R_ws [(h0, .inr (1, [.ref q0, .int (-1 : Int32), .int 0])), (q0, .inl (cI, 40, .inl (fun _ => 0)))] rfl ?_
  exact R_vret (fun k => [q0].getD k 0) rfl trivial rfl e2 X dX1_init_17
def wX2 (cI : ClassId) (h0 : Nat) (q : Nat → Nat) : va_W := [(h0, .inr (2, [.ref (q 0), .int 0, .int 0, .int 0, .int 0, .int 0, .ref (q 1), .int 0, .ref (q 2)])), ((q 0), .inl (cI, 160, .inl (fun _ => 0))), ((q 1), .inl (cI, 160, .inl (fun _ => 0))), ((q 2), .inl (cI, 3, .inl (fun _ => 0)))]
def dX2 : List Value := [.null, .int 0, .int 0, .int 0, .int 0, .int 0, .null, .int 0, .null]
set_option maxRecDepth 100000 in
set_option maxHeartbeats 4000000 in
theorem i_X2_init {V : JV} {cI : ClassId} (hV : VOK V) (hI : V.2.1[0]? = some (cI, .int)) (l : Launch) (h0 : Nat) : RMet V l yX2_init cX2_init 1 none 1 12 3 323 [.ref h0] [(h0, .inr (2, dX2))] (fun _ : Nat → Nat => none) (fun _ => True) (wX2 cI h0) := by
  refine R_of hV hI (by decide +kernel) (Nat.le_of_ble_eq_true rfl) (fun E e1 e2 X hin => ?_)
  refine R_ws [(h0, .inr (2, [.null, .int 0, .int 0, .int 0, .int 0, .int 0, .null, .int 0, .null]))] rfl ?_
  refine R_aload_n X 0 dX2_init_0 rfl rfl ?_
  refine R_objI X wob_RX2_3 wob_in wob_code (Nat.le_of_ble_eq_true rfl) (Nat.le_of_ble_eq_true rfl) dX2_init_1 ?_
  refine R_aload_n X 0 dX2_init_4 rfl rfl ?_
  refine R_sipush (v := (160 : Int32)) X dX2_init_5 (by decide) ?_
  refine R_newi 160 X warr_int (by decide) (by decide) (by decide) (Nat.le_of_ble_eq_true rfl) (Nat.le_of_ble_eq_true rfl) dX2_init_8 (fun q0 => ?_)
  refine R_ws [(h0, .inr (2, [.null, .int 0, .int 0, .int 0, .int 0, .int 0, .null, .int 0, .null])), (q0, .inl (cI, 160, .inl (fun _ => 0)))] rfl ?_
  refine R_putF 0 0 (ty := .array .int) (v := .ref q0) X hin uw_X2 tyX2 tyX2_ok nmX2 rfl rfl (by decide) rfl wfl_RX2_9 rfl rfl rfl (by decide +kernel) rfl (Nat.le_of_ble_eq_true rfl) dX2_init_10 ?_
  refine R_ws [(h0, .inr (2, [.ref q0, .int 0, .int 0, .int 0, .int 0, .int 0, .null, .int 0, .null])), (q0, .inl (cI, 160, .inl (fun _ => 0)))] rfl ?_
  refine R_aload_n X 0 dX2_init_13 rfl rfl ?_
  refine R_sipush (v := (160 : Int32)) X dX2_init_14 (by decide) ?_
  refine R_newi 160 X warr_int (by decide) (by decide) (by decide) (Nat.le_of_ble_eq_true rfl) (Nat.le_of_ble_eq_true rfl) dX2_init_17 (fun q1 => ?_)
  refine R_ws [(h0, .inr (2, [.ref q0, .int 0, .int 0, .int 0, .int 0, .int 0, .null, .int 0, .null])), (q0, .inl (cI, 160, .inl (fun _ => 0))), (q1, .inl (cI, 160, .inl (fun _ => 0)))] rfl ?_
  refine R_putF 6 0 (ty := .array .int) (v := .ref q1) X hin uw_X2 tyX2 tyX2_ok nmX2 rfl rfl (by decide) rfl wfl_RX2_15 rfl rfl rfl (by decide +kernel) rfl (Nat.le_of_ble_eq_true rfl) dX2_init_19 ?_
  refine R_ws [(h0, .inr (2, [.ref q0, .int 0, .int 0, .int 0, .int 0, .int 0, .ref q1, .int 0, .null])), (q0, .inl (cI, 160, .inl (fun _ => 0))), (q1, .inl (cI, 160, .inl (fun _ => 0)))] rfl ?_
  refine R_aload_n X 0 dX2_init_22 rfl rfl ?_
  refine R_iconst (v := (3 : Int32)) X dX2_init_23 (by decide) ?_
  refine R_newi 3 X warr_int (by decide) (by decide) (by decide) (Nat.le_of_ble_eq_true rfl) (Nat.le_of_ble_eq_true rfl) dX2_init_24 (fun q2 => ?_)
  refine R_ws [(h0, .inr (2, [.ref q0, .int 0, .int 0, .int 0, .int 0, .int 0, .ref q1, .int 0, .null])), (q0, .inl (cI, 160, .inl (fun _ => 0))), (q1, .inl (cI, 160, .inl (fun _ => 0))), (q2, .inl (cI, 3, .inl (fun _ => 0)))] rfl ?_
  refine R_putF 8 0 (ty := .array .int) (v := .ref q2) X hin uw_X2 tyX2 tyX2_ok nmX2 rfl rfl (by decide) rfl wfl_RX2_18 rfl rfl rfl (by decide +kernel) rfl (Nat.le_of_ble_eq_true rfl) dX2_init_26 ?_
  refine R_ws [(h0, .inr (2, [.ref q0, .int 0, .int 0, .int 0, .int 0, .int 0, .ref q1, .int 0, .ref q2])), (q0, .inl (cI, 160, .inl (fun _ => 0))), (q1, .inl (cI, 160, .inl (fun _ => 0))), (q2, .inl (cI, 3, .inl (fun _ => 0)))] rfl ?_
  exact R_vret (fun k => [q0, q1, q2].getD k 0) rfl trivial rfl e2 X dX2_init_29
def litM_73_f : Nat → Int32 := (upd (upd (upd (upd (fun _ => 0) (0 : Int32).toNatClampNeg (-1 : Int32)) (1 : Int32).toNatClampNeg (-1 : Int32)) (2 : Int32).toNatClampNeg (-1 : Int32)) (3 : Int32).toNatClampNeg (-1 : Int32))
set_option maxRecDepth 100000 in
set_option maxHeartbeats 8000000 in
theorem litM_73 {E : JE} {nL F L MC MS : Nat} {cI : ClassId} {ret : Option FieldType} {Q : State → Prop} {lv : List (Nat × Value)} {st : List Value} {kc ks : Nat} (X : XR E nL cX5_init RX5 ret F L MC MS cI) (pre : va_W) (q : Nat) (kk : JR E nL Q lv 89 (.ref q :: st) (pre ++ [(q, .inl (cI, 4, .inl litM_73_f))]) kc ks) : JR E nL Q lv 73 (.ref q :: st) (pre ++ [(q, .inl (cI, 4, .inl (fun _ => 0)))]) kc ks := by
  refine R_dup X dX5_init_73 rfl ?_
  refine R_iconst (v := (0 : Int32)) X dX5_init_74 (by decide) ?_
  refine R_iconst (v := (-1 : Int32)) X dX5_init_75 (by decide) ?_
  refine R_fill X (vp_lit (by decide)) dX5_init_76 ?_
  refine R_dup X dX5_init_77 rfl ?_
  refine R_iconst (v := (1 : Int32)) X dX5_init_78 (by decide) ?_
  refine R_iconst (v := (-1 : Int32)) X dX5_init_79 (by decide) ?_
  refine R_fill X (vp_lit (by decide)) dX5_init_80 ?_
  refine R_dup X dX5_init_81 rfl ?_
  refine R_iconst (v := (2 : Int32)) X dX5_init_82 (by decide) ?_
  refine R_iconst (v := (-1 : Int32)) X dX5_init_83 (by decide) ?_
  refine R_fill X (vp_lit (by decide)) dX5_init_84 ?_
  refine R_dup X dX5_init_85 rfl ?_
  refine R_iconst (v := (3 : Int32)) X dX5_init_86 (by decide) ?_
  refine R_iconst (v := (-1 : Int32)) X dX5_init_87 (by decide) ?_
  refine R_fill X (vp_lit (by decide)) dX5_init_88 ?_
  exact kk
def litM_113_f : Nat → Int32 := (upd (upd (upd (upd (upd (upd (upd (upd (upd (upd (upd (upd (upd (upd (upd (upd (upd (upd (upd (upd (upd (upd (upd (upd (upd (upd (upd (upd (upd (upd (upd (upd (upd (upd (upd (upd (upd (upd (upd (upd (upd (upd (upd (fun _ => 0) (0 : Int32).toNatClampNeg (103 : Int32)) (1 : Int32).toNatClampNeg (111 : Int32)) (2 : Int32).toNatClampNeg (110 : Int32)) (3 : Int32).toNatClampNeg (101 : Int32)) (4 : Int32).toNatClampNeg (32 : Int32)) (5 : Int32).toNatClampNeg (51 : Int32)) (6 : Int32).toNatClampNeg (32 : Int32)) (7 : Int32).toNatClampNeg (43 : Int32)) (8 : Int32).toNatClampNeg (32 : Int32)) (9 : Int32).toNatClampNeg (115 : Int32)) (10 : Int32).toNatClampNeg (111 : Int32)) (11 : Int32).toNatClampNeg (114 : Int32)) (12 : Int32).toNatClampNeg (116 : Int32)) (13 : Int32).toNatClampNeg (32 : Int32)) (14 : Int32).toNatClampNeg (59 : Int32)) (15 : Int32).toNatClampNeg (32 : Int32)) (16 : Int32).toNatClampNeg (103 : Int32)) (17 : Int32).toNatClampNeg (97 : Int32)) (18 : Int32).toNatClampNeg (105 : Int32)) (19 : Int32).toNatClampNeg (110 : Int32)) (20 : Int32).toNatClampNeg (115 : Int32)) (21 : Int32).toNatClampNeg (32 : Int32)) (22 : Int32).toNatClampNeg (115 : Int32)) (23 : Int32).toNatClampNeg (111 : Int32)) (24 : Int32).toNatClampNeg (114 : Int32)) (25 : Int32).toNatClampNeg (116 : Int32)) (26 : Int32).toNatClampNeg (32 : Int32)) (27 : Int32).toNatClampNeg (42 : Int32)) (28 : Int32).toNatClampNeg (32 : Int32)) (29 : Int32).toNatClampNeg (50 : Int32)) (30 : Int32).toNatClampNeg (32 : Int32)) (31 : Int32).toNatClampNeg (59 : Int32)) (32 : Int32).toNatClampNeg (32 : Int32)) (33 : Int32).toNatClampNeg (115 : Int32)) (34 : Int32).toNatClampNeg (112 : Int32)) (35 : Int32).toNatClampNeg (105 : Int32)) (36 : Int32).toNatClampNeg (108 : Int32)) (37 : Int32).toNatClampNeg (108 : Int32)) (38 : Int32).toNatClampNeg (115 : Int32)) (39 : Int32).toNatClampNeg (32 : Int32)) (40 : Int32).toNatClampNeg (48 : Int32)) (41 : Int32).toNatClampNeg (32 : Int32)) (42 : Int32).toNatClampNeg (59 : Int32))
set_option maxRecDepth 100000 in
set_option maxHeartbeats 8000000 in
theorem litM_113 {E : JE} {nL F L MC MS : Nat} {cI : ClassId} {ret : Option FieldType} {Q : State → Prop} {lv : List (Nat × Value)} {st : List Value} {kc ks : Nat} (X : XR E nL cX5_init RX5 ret F L MC MS cI) (pre : va_W) (q : Nat) (kk : JR E nL Q lv 365 (.ref q :: st) (pre ++ [(q, .inl (cI, 43, .inl litM_113_f))]) kc ks) : JR E nL Q lv 113 (.ref q :: st) (pre ++ [(q, .inl (cI, 43, .inl (fun _ => 0)))]) kc ks := by
  refine R_dup X dX5_init_113 rfl ?_
  refine R_iconst (v := (0 : Int32)) X dX5_init_114 (by decide) ?_
  refine R_bipush (v := (103 : Int32)) X dX5_init_115 (by decide) ?_
  refine R_fill X (vp_lit (by decide)) dX5_init_117 ?_
  refine R_dup X dX5_init_118 rfl ?_
  refine R_iconst (v := (1 : Int32)) X dX5_init_119 (by decide) ?_
  refine R_bipush (v := (111 : Int32)) X dX5_init_120 (by decide) ?_
  refine R_fill X (vp_lit (by decide)) dX5_init_122 ?_
  refine R_dup X dX5_init_123 rfl ?_
  refine R_iconst (v := (2 : Int32)) X dX5_init_124 (by decide) ?_
  refine R_bipush (v := (110 : Int32)) X dX5_init_125 (by decide) ?_
  refine R_fill X (vp_lit (by decide)) dX5_init_127 ?_
  refine R_dup X dX5_init_128 rfl ?_
  refine R_iconst (v := (3 : Int32)) X dX5_init_129 (by decide) ?_
  refine R_bipush (v := (101 : Int32)) X dX5_init_130 (by decide) ?_
  refine R_fill X (vp_lit (by decide)) dX5_init_132 ?_
  refine R_dup X dX5_init_133 rfl ?_
  refine R_iconst (v := (4 : Int32)) X dX5_init_134 (by decide) ?_
  refine R_bipush (v := (32 : Int32)) X dX5_init_135 (by decide) ?_
  refine R_fill X (vp_lit (by decide)) dX5_init_137 ?_
  refine R_dup X dX5_init_138 rfl ?_
  refine R_iconst (v := (5 : Int32)) X dX5_init_139 (by decide) ?_
  refine R_bipush (v := (51 : Int32)) X dX5_init_140 (by decide) ?_
  refine R_fill X (vp_lit (by decide)) dX5_init_142 ?_
  refine R_dup X dX5_init_143 rfl ?_
  refine R_bipush (v := (6 : Int32)) X dX5_init_144 (by decide) ?_
  refine R_bipush (v := (32 : Int32)) X dX5_init_146 (by decide) ?_
  refine R_fill X (vp_lit (by decide)) dX5_init_148 ?_
  refine R_dup X dX5_init_149 rfl ?_
  refine R_bipush (v := (7 : Int32)) X dX5_init_150 (by decide) ?_
  refine R_bipush (v := (43 : Int32)) X dX5_init_152 (by decide) ?_
  refine R_fill X (vp_lit (by decide)) dX5_init_154 ?_
  refine R_dup X dX5_init_155 rfl ?_
  refine R_bipush (v := (8 : Int32)) X dX5_init_156 (by decide) ?_
  refine R_bipush (v := (32 : Int32)) X dX5_init_158 (by decide) ?_
  refine R_fill X (vp_lit (by decide)) dX5_init_160 ?_
  refine R_dup X dX5_init_161 rfl ?_
  refine R_bipush (v := (9 : Int32)) X dX5_init_162 (by decide) ?_
  refine R_bipush (v := (115 : Int32)) X dX5_init_164 (by decide) ?_
  refine R_fill X (vp_lit (by decide)) dX5_init_166 ?_
  refine R_dup X dX5_init_167 rfl ?_
  refine R_bipush (v := (10 : Int32)) X dX5_init_168 (by decide) ?_
  refine R_bipush (v := (111 : Int32)) X dX5_init_170 (by decide) ?_
  refine R_fill X (vp_lit (by decide)) dX5_init_172 ?_
  refine R_dup X dX5_init_173 rfl ?_
  refine R_bipush (v := (11 : Int32)) X dX5_init_174 (by decide) ?_
  refine R_bipush (v := (114 : Int32)) X dX5_init_176 (by decide) ?_
  refine R_fill X (vp_lit (by decide)) dX5_init_178 ?_
  refine R_dup X dX5_init_179 rfl ?_
  refine R_bipush (v := (12 : Int32)) X dX5_init_180 (by decide) ?_
  refine R_bipush (v := (116 : Int32)) X dX5_init_182 (by decide) ?_
  refine R_fill X (vp_lit (by decide)) dX5_init_184 ?_
  refine R_dup X dX5_init_185 rfl ?_
  refine R_bipush (v := (13 : Int32)) X dX5_init_186 (by decide) ?_
  refine R_bipush (v := (32 : Int32)) X dX5_init_188 (by decide) ?_
  refine R_fill X (vp_lit (by decide)) dX5_init_190 ?_
  refine R_dup X dX5_init_191 rfl ?_
  refine R_bipush (v := (14 : Int32)) X dX5_init_192 (by decide) ?_
  refine R_bipush (v := (59 : Int32)) X dX5_init_194 (by decide) ?_
  refine R_fill X (vp_lit (by decide)) dX5_init_196 ?_
  refine R_dup X dX5_init_197 rfl ?_
  refine R_bipush (v := (15 : Int32)) X dX5_init_198 (by decide) ?_
  refine R_bipush (v := (32 : Int32)) X dX5_init_200 (by decide) ?_
  refine R_fill X (vp_lit (by decide)) dX5_init_202 ?_
  refine R_dup X dX5_init_203 rfl ?_
  refine R_bipush (v := (16 : Int32)) X dX5_init_204 (by decide) ?_
  refine R_bipush (v := (103 : Int32)) X dX5_init_206 (by decide) ?_
  refine R_fill X (vp_lit (by decide)) dX5_init_208 ?_
  refine R_dup X dX5_init_209 rfl ?_
  refine R_bipush (v := (17 : Int32)) X dX5_init_210 (by decide) ?_
  refine R_bipush (v := (97 : Int32)) X dX5_init_212 (by decide) ?_
  refine R_fill X (vp_lit (by decide)) dX5_init_214 ?_
  refine R_dup X dX5_init_215 rfl ?_
  refine R_bipush (v := (18 : Int32)) X dX5_init_216 (by decide) ?_
  refine R_bipush (v := (105 : Int32)) X dX5_init_218 (by decide) ?_
  refine R_fill X (vp_lit (by decide)) dX5_init_220 ?_
  refine R_dup X dX5_init_221 rfl ?_
  refine R_bipush (v := (19 : Int32)) X dX5_init_222 (by decide) ?_
  refine R_bipush (v := (110 : Int32)) X dX5_init_224 (by decide) ?_
  refine R_fill X (vp_lit (by decide)) dX5_init_226 ?_
  refine R_dup X dX5_init_227 rfl ?_
  refine R_bipush (v := (20 : Int32)) X dX5_init_228 (by decide) ?_
  refine R_bipush (v := (115 : Int32)) X dX5_init_230 (by decide) ?_
  refine R_fill X (vp_lit (by decide)) dX5_init_232 ?_
  refine R_dup X dX5_init_233 rfl ?_
  refine R_bipush (v := (21 : Int32)) X dX5_init_234 (by decide) ?_
  refine R_bipush (v := (32 : Int32)) X dX5_init_236 (by decide) ?_
  refine R_fill X (vp_lit (by decide)) dX5_init_238 ?_
  refine R_dup X dX5_init_239 rfl ?_
  refine R_bipush (v := (22 : Int32)) X dX5_init_240 (by decide) ?_
  refine R_bipush (v := (115 : Int32)) X dX5_init_242 (by decide) ?_
  refine R_fill X (vp_lit (by decide)) dX5_init_244 ?_
  refine R_dup X dX5_init_245 rfl ?_
  refine R_bipush (v := (23 : Int32)) X dX5_init_246 (by decide) ?_
  refine R_bipush (v := (111 : Int32)) X dX5_init_248 (by decide) ?_
  refine R_fill X (vp_lit (by decide)) dX5_init_250 ?_
  refine R_dup X dX5_init_251 rfl ?_
  refine R_bipush (v := (24 : Int32)) X dX5_init_252 (by decide) ?_
  refine R_bipush (v := (114 : Int32)) X dX5_init_254 (by decide) ?_
  refine R_fill X (vp_lit (by decide)) dX5_init_256 ?_
  refine R_dup X dX5_init_257 rfl ?_
  refine R_bipush (v := (25 : Int32)) X dX5_init_258 (by decide) ?_
  refine R_bipush (v := (116 : Int32)) X dX5_init_260 (by decide) ?_
  refine R_fill X (vp_lit (by decide)) dX5_init_262 ?_
  refine R_dup X dX5_init_263 rfl ?_
  refine R_bipush (v := (26 : Int32)) X dX5_init_264 (by decide) ?_
  refine R_bipush (v := (32 : Int32)) X dX5_init_266 (by decide) ?_
  refine R_fill X (vp_lit (by decide)) dX5_init_268 ?_
  refine R_dup X dX5_init_269 rfl ?_
  refine R_bipush (v := (27 : Int32)) X dX5_init_270 (by decide) ?_
  refine R_bipush (v := (42 : Int32)) X dX5_init_272 (by decide) ?_
  refine R_fill X (vp_lit (by decide)) dX5_init_274 ?_
  refine R_dup X dX5_init_275 rfl ?_
  refine R_bipush (v := (28 : Int32)) X dX5_init_276 (by decide) ?_
  refine R_bipush (v := (32 : Int32)) X dX5_init_278 (by decide) ?_
  refine R_fill X (vp_lit (by decide)) dX5_init_280 ?_
  refine R_dup X dX5_init_281 rfl ?_
  refine R_bipush (v := (29 : Int32)) X dX5_init_282 (by decide) ?_
  refine R_bipush (v := (50 : Int32)) X dX5_init_284 (by decide) ?_
  refine R_fill X (vp_lit (by decide)) dX5_init_286 ?_
  refine R_dup X dX5_init_287 rfl ?_
  refine R_bipush (v := (30 : Int32)) X dX5_init_288 (by decide) ?_
  refine R_bipush (v := (32 : Int32)) X dX5_init_290 (by decide) ?_
  refine R_fill X (vp_lit (by decide)) dX5_init_292 ?_
  refine R_dup X dX5_init_293 rfl ?_
  refine R_bipush (v := (31 : Int32)) X dX5_init_294 (by decide) ?_
  refine R_bipush (v := (59 : Int32)) X dX5_init_296 (by decide) ?_
  refine R_fill X (vp_lit (by decide)) dX5_init_298 ?_
  refine R_dup X dX5_init_299 rfl ?_
  refine R_bipush (v := (32 : Int32)) X dX5_init_300 (by decide) ?_
  refine R_bipush (v := (32 : Int32)) X dX5_init_302 (by decide) ?_
  refine R_fill X (vp_lit (by decide)) dX5_init_304 ?_
  refine R_dup X dX5_init_305 rfl ?_
  refine R_bipush (v := (33 : Int32)) X dX5_init_306 (by decide) ?_
  refine R_bipush (v := (115 : Int32)) X dX5_init_308 (by decide) ?_
  refine R_fill X (vp_lit (by decide)) dX5_init_310 ?_
  refine R_dup X dX5_init_311 rfl ?_
  refine R_bipush (v := (34 : Int32)) X dX5_init_312 (by decide) ?_
  refine R_bipush (v := (112 : Int32)) X dX5_init_314 (by decide) ?_
  refine R_fill X (vp_lit (by decide)) dX5_init_316 ?_
  refine R_dup X dX5_init_317 rfl ?_
  refine R_bipush (v := (35 : Int32)) X dX5_init_318 (by decide) ?_
  refine R_bipush (v := (105 : Int32)) X dX5_init_320 (by decide) ?_
  refine R_fill X (vp_lit (by decide)) dX5_init_322 ?_
  refine R_dup X dX5_init_323 rfl ?_
  refine R_bipush (v := (36 : Int32)) X dX5_init_324 (by decide) ?_
  refine R_bipush (v := (108 : Int32)) X dX5_init_326 (by decide) ?_
  refine R_fill X (vp_lit (by decide)) dX5_init_328 ?_
  refine R_dup X dX5_init_329 rfl ?_
  refine R_bipush (v := (37 : Int32)) X dX5_init_330 (by decide) ?_
  refine R_bipush (v := (108 : Int32)) X dX5_init_332 (by decide) ?_
  refine R_fill X (vp_lit (by decide)) dX5_init_334 ?_
  refine R_dup X dX5_init_335 rfl ?_
  refine R_bipush (v := (38 : Int32)) X dX5_init_336 (by decide) ?_
  refine R_bipush (v := (115 : Int32)) X dX5_init_338 (by decide) ?_
  refine R_fill X (vp_lit (by decide)) dX5_init_340 ?_
  refine R_dup X dX5_init_341 rfl ?_
  refine R_bipush (v := (39 : Int32)) X dX5_init_342 (by decide) ?_
  refine R_bipush (v := (32 : Int32)) X dX5_init_344 (by decide) ?_
  refine R_fill X (vp_lit (by decide)) dX5_init_346 ?_
  refine R_dup X dX5_init_347 rfl ?_
  refine R_bipush (v := (40 : Int32)) X dX5_init_348 (by decide) ?_
  refine R_bipush (v := (48 : Int32)) X dX5_init_350 (by decide) ?_
  refine R_fill X (vp_lit (by decide)) dX5_init_352 ?_
  refine R_dup X dX5_init_353 rfl ?_
  refine R_bipush (v := (41 : Int32)) X dX5_init_354 (by decide) ?_
  refine R_bipush (v := (32 : Int32)) X dX5_init_356 (by decide) ?_
  refine R_fill X (vp_lit (by decide)) dX5_init_358 ?_
  refine R_dup X dX5_init_359 rfl ?_
  refine R_bipush (v := (42 : Int32)) X dX5_init_360 (by decide) ?_
  refine R_bipush (v := (59 : Int32)) X dX5_init_362 (by decide) ?_
  refine R_fill X (vp_lit (by decide)) dX5_init_364 ?_
  exact kk
def litM_373_f : Nat → Int32 := (upd (upd (upd (upd (upd (upd (upd (upd (upd (upd (upd (upd (upd (upd (upd (upd (upd (upd (upd (upd (upd (upd (upd (upd (upd (upd (upd (upd (upd (upd (upd (upd (upd (upd (upd (upd (upd (upd (upd (upd (upd (upd (upd (upd (upd (upd (upd (upd (upd (upd (upd (upd (upd (upd (upd (upd (upd (upd (upd (upd (upd (upd (upd (upd (upd (upd (upd (upd (upd (upd (upd (upd (upd (upd (upd (upd (upd (upd (upd (upd (upd (upd (upd (upd (upd (upd (upd (upd (upd (upd (upd (upd (upd (upd (upd (upd (fun _ => 0) (0 : Int32).toNatClampNeg (103 : Int32)) (1 : Int32).toNatClampNeg (111 : Int32)) (2 : Int32).toNatClampNeg (110 : Int32)) (3 : Int32).toNatClampNeg (101 : Int32)) (4 : Int32).toNatClampNeg (32 : Int32)) (5 : Int32).toNatClampNeg (32 : Int32)) (6 : Int32).toNatClampNeg (32 : Int32)) (7 : Int32).toNatClampNeg (32 : Int32)) (8 : Int32).toNatClampNeg (103 : Int32)) (9 : Int32).toNatClampNeg (97 : Int32)) (10 : Int32).toNatClampNeg (105 : Int32)) (11 : Int32).toNatClampNeg (110 : Int32)) (12 : Int32).toNatClampNeg (115 : Int32)) (13 : Int32).toNatClampNeg (32 : Int32)) (14 : Int32).toNatClampNeg (32 : Int32)) (15 : Int32).toNatClampNeg (32 : Int32)) (16 : Int32).toNatClampNeg (115 : Int32)) (17 : Int32).toNatClampNeg (112 : Int32)) (18 : Int32).toNatClampNeg (105 : Int32)) (19 : Int32).toNatClampNeg (108 : Int32)) (20 : Int32).toNatClampNeg (108 : Int32)) (21 : Int32).toNatClampNeg (115 : Int32)) (22 : Int32).toNatClampNeg (32 : Int32)) (23 : Int32).toNatClampNeg (32 : Int32)) (24 : Int32).toNatClampNeg (115 : Int32)) (25 : Int32).toNatClampNeg (111 : Int32)) (26 : Int32).toNatClampNeg (114 : Int32)) (27 : Int32).toNatClampNeg (116 : Int32)) (28 : Int32).toNatClampNeg (32 : Int32)) (29 : Int32).toNatClampNeg (32 : Int32)) (30 : Int32).toNatClampNeg (32 : Int32)) (31 : Int32).toNatClampNeg (32 : Int32)) (32 : Int32).toNatClampNeg (103 : Int32)) (33 : Int32).toNatClampNeg (114 : Int32)) (34 : Int32).toNatClampNeg (97 : Int32)) (35 : Int32).toNatClampNeg (105 : Int32)) (36 : Int32).toNatClampNeg (110 : Int32)) (37 : Int32).toNatClampNeg (115 : Int32)) (38 : Int32).toNatClampNeg (32 : Int32)) (39 : Int32).toNatClampNeg (32 : Int32)) (40 : Int32).toNatClampNeg (119 : Int32)) (41 : Int32).toNatClampNeg (105 : Int32)) (42 : Int32).toNatClampNeg (116 : Int32)) (43 : Int32).toNatClampNeg (32 : Int32)) (44 : Int32).toNatClampNeg (32 : Int32)) (45 : Int32).toNatClampNeg (32 : Int32)) (46 : Int32).toNatClampNeg (32 : Int32)) (47 : Int32).toNatClampNeg (32 : Int32)) (48 : Int32).toNatClampNeg (115 : Int32)) (49 : Int32).toNatClampNeg (97 : Int32)) (50 : Int32).toNatClampNeg (110 : Int32)) (51 : Int32).toNatClampNeg (100 : Int32)) (52 : Int32).toNatClampNeg (32 : Int32)) (53 : Int32).toNatClampNeg (32 : Int32)) (54 : Int32).toNatClampNeg (32 : Int32)) (55 : Int32).toNatClampNeg (32 : Int32)) (56 : Int32).toNatClampNeg (109 : Int32)) (57 : Int32).toNatClampNeg (105 : Int32)) (58 : Int32).toNatClampNeg (110 : Int32)) (59 : Int32).toNatClampNeg (117 : Int32)) (60 : Int32).toNatClampNeg (116 : Int32)) (61 : Int32).toNatClampNeg (101 : Int32)) (62 : Int32).toNatClampNeg (32 : Int32)) (63 : Int32).toNatClampNeg (32 : Int32)) (64 : Int32).toNatClampNeg (109 : Int32)) (65 : Int32).toNatClampNeg (111 : Int32)) (66 : Int32).toNatClampNeg (114 : Int32)) (67 : Int32).toNatClampNeg (101 : Int32)) (68 : Int32).toNatClampNeg (32 : Int32)) (69 : Int32).toNatClampNeg (32 : Int32)) (70 : Int32).toNatClampNeg (32 : Int32)) (71 : Int32).toNatClampNeg (32 : Int32)) (72 : Int32).toNatClampNeg (111 : Int32)) (73 : Int32).toNatClampNeg (114 : Int32)) (74 : Int32).toNatClampNeg (32 : Int32)) (75 : Int32).toNatClampNeg (32 : Int32)) (76 : Int32).toNatClampNeg (32 : Int32)) (77 : Int32).toNatClampNeg (32 : Int32)) (78 : Int32).toNatClampNeg (32 : Int32)) (79 : Int32).toNatClampNeg (32 : Int32)) (80 : Int32).toNatClampNeg (97 : Int32)) (81 : Int32).toNatClampNeg (110 : Int32)) (82 : Int32).toNatClampNeg (100 : Int32)) (83 : Int32).toNatClampNeg (32 : Int32)) (84 : Int32).toNatClampNeg (32 : Int32)) (85 : Int32).toNatClampNeg (32 : Int32)) (86 : Int32).toNatClampNeg (32 : Int32)) (87 : Int32).toNatClampNeg (32 : Int32)) (88 : Int32).toNatClampNeg (110 : Int32)) (89 : Int32).toNatClampNeg (111 : Int32)) (90 : Int32).toNatClampNeg (116 : Int32)) (91 : Int32).toNatClampNeg (32 : Int32)) (92 : Int32).toNatClampNeg (32 : Int32)) (93 : Int32).toNatClampNeg (32 : Int32)) (94 : Int32).toNatClampNeg (32 : Int32)) (95 : Int32).toNatClampNeg (32 : Int32))
set_option maxRecDepth 100000 in
set_option maxHeartbeats 8000000 in
theorem litM_373 {E : JE} {nL F L MC MS : Nat} {cI : ClassId} {ret : Option FieldType} {Q : State → Prop} {lv : List (Nat × Value)} {st : List Value} {kc ks : Nat} (X : XR E nL cX5_init RX5 ret F L MC MS cI) (pre : va_W) (q : Nat) (kk : JR E nL Q lv 943 (.ref q :: st) (pre ++ [(q, .inl (cI, 96, .inl litM_373_f))]) kc ks) : JR E nL Q lv 373 (.ref q :: st) (pre ++ [(q, .inl (cI, 96, .inl (fun _ => 0)))]) kc ks := by
  refine R_dup X dX5_init_373 rfl ?_
  refine R_iconst (v := (0 : Int32)) X dX5_init_374 (by decide) ?_
  refine R_bipush (v := (103 : Int32)) X dX5_init_375 (by decide) ?_
  refine R_fill X (vp_lit (by decide)) dX5_init_377 ?_
  refine R_dup X dX5_init_378 rfl ?_
  refine R_iconst (v := (1 : Int32)) X dX5_init_379 (by decide) ?_
  refine R_bipush (v := (111 : Int32)) X dX5_init_380 (by decide) ?_
  refine R_fill X (vp_lit (by decide)) dX5_init_382 ?_
  refine R_dup X dX5_init_383 rfl ?_
  refine R_iconst (v := (2 : Int32)) X dX5_init_384 (by decide) ?_
  refine R_bipush (v := (110 : Int32)) X dX5_init_385 (by decide) ?_
  refine R_fill X (vp_lit (by decide)) dX5_init_387 ?_
  refine R_dup X dX5_init_388 rfl ?_
  refine R_iconst (v := (3 : Int32)) X dX5_init_389 (by decide) ?_
  refine R_bipush (v := (101 : Int32)) X dX5_init_390 (by decide) ?_
  refine R_fill X (vp_lit (by decide)) dX5_init_392 ?_
  refine R_dup X dX5_init_393 rfl ?_
  refine R_iconst (v := (4 : Int32)) X dX5_init_394 (by decide) ?_
  refine R_bipush (v := (32 : Int32)) X dX5_init_395 (by decide) ?_
  refine R_fill X (vp_lit (by decide)) dX5_init_397 ?_
  refine R_dup X dX5_init_398 rfl ?_
  refine R_iconst (v := (5 : Int32)) X dX5_init_399 (by decide) ?_
  refine R_bipush (v := (32 : Int32)) X dX5_init_400 (by decide) ?_
  refine R_fill X (vp_lit (by decide)) dX5_init_402 ?_
  refine R_dup X dX5_init_403 rfl ?_
  refine R_bipush (v := (6 : Int32)) X dX5_init_404 (by decide) ?_
  refine R_bipush (v := (32 : Int32)) X dX5_init_406 (by decide) ?_
  refine R_fill X (vp_lit (by decide)) dX5_init_408 ?_
  refine R_dup X dX5_init_409 rfl ?_
  refine R_bipush (v := (7 : Int32)) X dX5_init_410 (by decide) ?_
  refine R_bipush (v := (32 : Int32)) X dX5_init_412 (by decide) ?_
  refine R_fill X (vp_lit (by decide)) dX5_init_414 ?_
  refine R_dup X dX5_init_415 rfl ?_
  refine R_bipush (v := (8 : Int32)) X dX5_init_416 (by decide) ?_
  refine R_bipush (v := (103 : Int32)) X dX5_init_418 (by decide) ?_
  refine R_fill X (vp_lit (by decide)) dX5_init_420 ?_
  refine R_dup X dX5_init_421 rfl ?_
  refine R_bipush (v := (9 : Int32)) X dX5_init_422 (by decide) ?_
  refine R_bipush (v := (97 : Int32)) X dX5_init_424 (by decide) ?_
  refine R_fill X (vp_lit (by decide)) dX5_init_426 ?_
  refine R_dup X dX5_init_427 rfl ?_
  refine R_bipush (v := (10 : Int32)) X dX5_init_428 (by decide) ?_
  refine R_bipush (v := (105 : Int32)) X dX5_init_430 (by decide) ?_
  refine R_fill X (vp_lit (by decide)) dX5_init_432 ?_
  refine R_dup X dX5_init_433 rfl ?_
  refine R_bipush (v := (11 : Int32)) X dX5_init_434 (by decide) ?_
  refine R_bipush (v := (110 : Int32)) X dX5_init_436 (by decide) ?_
  refine R_fill X (vp_lit (by decide)) dX5_init_438 ?_
  refine R_dup X dX5_init_439 rfl ?_
  refine R_bipush (v := (12 : Int32)) X dX5_init_440 (by decide) ?_
  refine R_bipush (v := (115 : Int32)) X dX5_init_442 (by decide) ?_
  refine R_fill X (vp_lit (by decide)) dX5_init_444 ?_
  refine R_dup X dX5_init_445 rfl ?_
  refine R_bipush (v := (13 : Int32)) X dX5_init_446 (by decide) ?_
  refine R_bipush (v := (32 : Int32)) X dX5_init_448 (by decide) ?_
  refine R_fill X (vp_lit (by decide)) dX5_init_450 ?_
  refine R_dup X dX5_init_451 rfl ?_
  refine R_bipush (v := (14 : Int32)) X dX5_init_452 (by decide) ?_
  refine R_bipush (v := (32 : Int32)) X dX5_init_454 (by decide) ?_
  refine R_fill X (vp_lit (by decide)) dX5_init_456 ?_
  refine R_dup X dX5_init_457 rfl ?_
  refine R_bipush (v := (15 : Int32)) X dX5_init_458 (by decide) ?_
  refine R_bipush (v := (32 : Int32)) X dX5_init_460 (by decide) ?_
  refine R_fill X (vp_lit (by decide)) dX5_init_462 ?_
  refine R_dup X dX5_init_463 rfl ?_
  refine R_bipush (v := (16 : Int32)) X dX5_init_464 (by decide) ?_
  refine R_bipush (v := (115 : Int32)) X dX5_init_466 (by decide) ?_
  refine R_fill X (vp_lit (by decide)) dX5_init_468 ?_
  refine R_dup X dX5_init_469 rfl ?_
  refine R_bipush (v := (17 : Int32)) X dX5_init_470 (by decide) ?_
  refine R_bipush (v := (112 : Int32)) X dX5_init_472 (by decide) ?_
  refine R_fill X (vp_lit (by decide)) dX5_init_474 ?_
  refine R_dup X dX5_init_475 rfl ?_
  refine R_bipush (v := (18 : Int32)) X dX5_init_476 (by decide) ?_
  refine R_bipush (v := (105 : Int32)) X dX5_init_478 (by decide) ?_
  refine R_fill X (vp_lit (by decide)) dX5_init_480 ?_
  refine R_dup X dX5_init_481 rfl ?_
  refine R_bipush (v := (19 : Int32)) X dX5_init_482 (by decide) ?_
  refine R_bipush (v := (108 : Int32)) X dX5_init_484 (by decide) ?_
  refine R_fill X (vp_lit (by decide)) dX5_init_486 ?_
  refine R_dup X dX5_init_487 rfl ?_
  refine R_bipush (v := (20 : Int32)) X dX5_init_488 (by decide) ?_
  refine R_bipush (v := (108 : Int32)) X dX5_init_490 (by decide) ?_
  refine R_fill X (vp_lit (by decide)) dX5_init_492 ?_
  refine R_dup X dX5_init_493 rfl ?_
  refine R_bipush (v := (21 : Int32)) X dX5_init_494 (by decide) ?_
  refine R_bipush (v := (115 : Int32)) X dX5_init_496 (by decide) ?_
  refine R_fill X (vp_lit (by decide)) dX5_init_498 ?_
  refine R_dup X dX5_init_499 rfl ?_
  refine R_bipush (v := (22 : Int32)) X dX5_init_500 (by decide) ?_
  refine R_bipush (v := (32 : Int32)) X dX5_init_502 (by decide) ?_
  refine R_fill X (vp_lit (by decide)) dX5_init_504 ?_
  refine R_dup X dX5_init_505 rfl ?_
  refine R_bipush (v := (23 : Int32)) X dX5_init_506 (by decide) ?_
  refine R_bipush (v := (32 : Int32)) X dX5_init_508 (by decide) ?_
  refine R_fill X (vp_lit (by decide)) dX5_init_510 ?_
  refine R_dup X dX5_init_511 rfl ?_
  refine R_bipush (v := (24 : Int32)) X dX5_init_512 (by decide) ?_
  refine R_bipush (v := (115 : Int32)) X dX5_init_514 (by decide) ?_
  refine R_fill X (vp_lit (by decide)) dX5_init_516 ?_
  refine R_dup X dX5_init_517 rfl ?_
  refine R_bipush (v := (25 : Int32)) X dX5_init_518 (by decide) ?_
  refine R_bipush (v := (111 : Int32)) X dX5_init_520 (by decide) ?_
  refine R_fill X (vp_lit (by decide)) dX5_init_522 ?_
  refine R_dup X dX5_init_523 rfl ?_
  refine R_bipush (v := (26 : Int32)) X dX5_init_524 (by decide) ?_
  refine R_bipush (v := (114 : Int32)) X dX5_init_526 (by decide) ?_
  refine R_fill X (vp_lit (by decide)) dX5_init_528 ?_
  refine R_dup X dX5_init_529 rfl ?_
  refine R_bipush (v := (27 : Int32)) X dX5_init_530 (by decide) ?_
  refine R_bipush (v := (116 : Int32)) X dX5_init_532 (by decide) ?_
  refine R_fill X (vp_lit (by decide)) dX5_init_534 ?_
  refine R_dup X dX5_init_535 rfl ?_
  refine R_bipush (v := (28 : Int32)) X dX5_init_536 (by decide) ?_
  refine R_bipush (v := (32 : Int32)) X dX5_init_538 (by decide) ?_
  refine R_fill X (vp_lit (by decide)) dX5_init_540 ?_
  refine R_dup X dX5_init_541 rfl ?_
  refine R_bipush (v := (29 : Int32)) X dX5_init_542 (by decide) ?_
  refine R_bipush (v := (32 : Int32)) X dX5_init_544 (by decide) ?_
  refine R_fill X (vp_lit (by decide)) dX5_init_546 ?_
  refine R_dup X dX5_init_547 rfl ?_
  refine R_bipush (v := (30 : Int32)) X dX5_init_548 (by decide) ?_
  refine R_bipush (v := (32 : Int32)) X dX5_init_550 (by decide) ?_
  refine R_fill X (vp_lit (by decide)) dX5_init_552 ?_
  refine R_dup X dX5_init_553 rfl ?_
  refine R_bipush (v := (31 : Int32)) X dX5_init_554 (by decide) ?_
  refine R_bipush (v := (32 : Int32)) X dX5_init_556 (by decide) ?_
  refine R_fill X (vp_lit (by decide)) dX5_init_558 ?_
  refine R_dup X dX5_init_559 rfl ?_
  refine R_bipush (v := (32 : Int32)) X dX5_init_560 (by decide) ?_
  refine R_bipush (v := (103 : Int32)) X dX5_init_562 (by decide) ?_
  refine R_fill X (vp_lit (by decide)) dX5_init_564 ?_
  refine R_dup X dX5_init_565 rfl ?_
  refine R_bipush (v := (33 : Int32)) X dX5_init_566 (by decide) ?_
  refine R_bipush (v := (114 : Int32)) X dX5_init_568 (by decide) ?_
  refine R_fill X (vp_lit (by decide)) dX5_init_570 ?_
  refine R_dup X dX5_init_571 rfl ?_
  refine R_bipush (v := (34 : Int32)) X dX5_init_572 (by decide) ?_
  refine R_bipush (v := (97 : Int32)) X dX5_init_574 (by decide) ?_
  refine R_fill X (vp_lit (by decide)) dX5_init_576 ?_
  refine R_dup X dX5_init_577 rfl ?_
  refine R_bipush (v := (35 : Int32)) X dX5_init_578 (by decide) ?_
  refine R_bipush (v := (105 : Int32)) X dX5_init_580 (by decide) ?_
  refine R_fill X (vp_lit (by decide)) dX5_init_582 ?_
  refine R_dup X dX5_init_583 rfl ?_
  refine R_bipush (v := (36 : Int32)) X dX5_init_584 (by decide) ?_
  refine R_bipush (v := (110 : Int32)) X dX5_init_586 (by decide) ?_
  refine R_fill X (vp_lit (by decide)) dX5_init_588 ?_
  refine R_dup X dX5_init_589 rfl ?_
  refine R_bipush (v := (37 : Int32)) X dX5_init_590 (by decide) ?_
  refine R_bipush (v := (115 : Int32)) X dX5_init_592 (by decide) ?_
  refine R_fill X (vp_lit (by decide)) dX5_init_594 ?_
  refine R_dup X dX5_init_595 rfl ?_
  refine R_bipush (v := (38 : Int32)) X dX5_init_596 (by decide) ?_
  refine R_bipush (v := (32 : Int32)) X dX5_init_598 (by decide) ?_
  refine R_fill X (vp_lit (by decide)) dX5_init_600 ?_
  refine R_dup X dX5_init_601 rfl ?_
  refine R_bipush (v := (39 : Int32)) X dX5_init_602 (by decide) ?_
  refine R_bipush (v := (32 : Int32)) X dX5_init_604 (by decide) ?_
  refine R_fill X (vp_lit (by decide)) dX5_init_606 ?_
  refine R_dup X dX5_init_607 rfl ?_
  refine R_bipush (v := (40 : Int32)) X dX5_init_608 (by decide) ?_
  refine R_bipush (v := (119 : Int32)) X dX5_init_610 (by decide) ?_
  refine R_fill X (vp_lit (by decide)) dX5_init_612 ?_
  refine R_dup X dX5_init_613 rfl ?_
  refine R_bipush (v := (41 : Int32)) X dX5_init_614 (by decide) ?_
  refine R_bipush (v := (105 : Int32)) X dX5_init_616 (by decide) ?_
  refine R_fill X (vp_lit (by decide)) dX5_init_618 ?_
  refine R_dup X dX5_init_619 rfl ?_
  refine R_bipush (v := (42 : Int32)) X dX5_init_620 (by decide) ?_
  refine R_bipush (v := (116 : Int32)) X dX5_init_622 (by decide) ?_
  refine R_fill X (vp_lit (by decide)) dX5_init_624 ?_
  refine R_dup X dX5_init_625 rfl ?_
  refine R_bipush (v := (43 : Int32)) X dX5_init_626 (by decide) ?_
  refine R_bipush (v := (32 : Int32)) X dX5_init_628 (by decide) ?_
  refine R_fill X (vp_lit (by decide)) dX5_init_630 ?_
  refine R_dup X dX5_init_631 rfl ?_
  refine R_bipush (v := (44 : Int32)) X dX5_init_632 (by decide) ?_
  refine R_bipush (v := (32 : Int32)) X dX5_init_634 (by decide) ?_
  refine R_fill X (vp_lit (by decide)) dX5_init_636 ?_
  refine R_dup X dX5_init_637 rfl ?_
  refine R_bipush (v := (45 : Int32)) X dX5_init_638 (by decide) ?_
  refine R_bipush (v := (32 : Int32)) X dX5_init_640 (by decide) ?_
  refine R_fill X (vp_lit (by decide)) dX5_init_642 ?_
  refine R_dup X dX5_init_643 rfl ?_
  refine R_bipush (v := (46 : Int32)) X dX5_init_644 (by decide) ?_
  refine R_bipush (v := (32 : Int32)) X dX5_init_646 (by decide) ?_
  refine R_fill X (vp_lit (by decide)) dX5_init_648 ?_
  refine R_dup X dX5_init_649 rfl ?_
  refine R_bipush (v := (47 : Int32)) X dX5_init_650 (by decide) ?_
  refine R_bipush (v := (32 : Int32)) X dX5_init_652 (by decide) ?_
  refine R_fill X (vp_lit (by decide)) dX5_init_654 ?_
  refine R_dup X dX5_init_655 rfl ?_
  refine R_bipush (v := (48 : Int32)) X dX5_init_656 (by decide) ?_
  refine R_bipush (v := (115 : Int32)) X dX5_init_658 (by decide) ?_
  refine R_fill X (vp_lit (by decide)) dX5_init_660 ?_
  refine R_dup X dX5_init_661 rfl ?_
  refine R_bipush (v := (49 : Int32)) X dX5_init_662 (by decide) ?_
  refine R_bipush (v := (97 : Int32)) X dX5_init_664 (by decide) ?_
  refine R_fill X (vp_lit (by decide)) dX5_init_666 ?_
  refine R_dup X dX5_init_667 rfl ?_
  refine R_bipush (v := (50 : Int32)) X dX5_init_668 (by decide) ?_
  refine R_bipush (v := (110 : Int32)) X dX5_init_670 (by decide) ?_
  refine R_fill X (vp_lit (by decide)) dX5_init_672 ?_
  refine R_dup X dX5_init_673 rfl ?_
  refine R_bipush (v := (51 : Int32)) X dX5_init_674 (by decide) ?_
  refine R_bipush (v := (100 : Int32)) X dX5_init_676 (by decide) ?_
  refine R_fill X (vp_lit (by decide)) dX5_init_678 ?_
  refine R_dup X dX5_init_679 rfl ?_
  refine R_bipush (v := (52 : Int32)) X dX5_init_680 (by decide) ?_
  refine R_bipush (v := (32 : Int32)) X dX5_init_682 (by decide) ?_
  refine R_fill X (vp_lit (by decide)) dX5_init_684 ?_
  refine R_dup X dX5_init_685 rfl ?_
  refine R_bipush (v := (53 : Int32)) X dX5_init_686 (by decide) ?_
  refine R_bipush (v := (32 : Int32)) X dX5_init_688 (by decide) ?_
  refine R_fill X (vp_lit (by decide)) dX5_init_690 ?_
  refine R_dup X dX5_init_691 rfl ?_
  refine R_bipush (v := (54 : Int32)) X dX5_init_692 (by decide) ?_
  refine R_bipush (v := (32 : Int32)) X dX5_init_694 (by decide) ?_
  refine R_fill X (vp_lit (by decide)) dX5_init_696 ?_
  refine R_dup X dX5_init_697 rfl ?_
  refine R_bipush (v := (55 : Int32)) X dX5_init_698 (by decide) ?_
  refine R_bipush (v := (32 : Int32)) X dX5_init_700 (by decide) ?_
  refine R_fill X (vp_lit (by decide)) dX5_init_702 ?_
  refine R_dup X dX5_init_703 rfl ?_
  refine R_bipush (v := (56 : Int32)) X dX5_init_704 (by decide) ?_
  refine R_bipush (v := (109 : Int32)) X dX5_init_706 (by decide) ?_
  refine R_fill X (vp_lit (by decide)) dX5_init_708 ?_
  refine R_dup X dX5_init_709 rfl ?_
  refine R_bipush (v := (57 : Int32)) X dX5_init_710 (by decide) ?_
  refine R_bipush (v := (105 : Int32)) X dX5_init_712 (by decide) ?_
  refine R_fill X (vp_lit (by decide)) dX5_init_714 ?_
  refine R_dup X dX5_init_715 rfl ?_
  refine R_bipush (v := (58 : Int32)) X dX5_init_716 (by decide) ?_
  refine R_bipush (v := (110 : Int32)) X dX5_init_718 (by decide) ?_
  refine R_fill X (vp_lit (by decide)) dX5_init_720 ?_
  refine R_dup X dX5_init_721 rfl ?_
  refine R_bipush (v := (59 : Int32)) X dX5_init_722 (by decide) ?_
  refine R_bipush (v := (117 : Int32)) X dX5_init_724 (by decide) ?_
  refine R_fill X (vp_lit (by decide)) dX5_init_726 ?_
  refine R_dup X dX5_init_727 rfl ?_
  refine R_bipush (v := (60 : Int32)) X dX5_init_728 (by decide) ?_
  refine R_bipush (v := (116 : Int32)) X dX5_init_730 (by decide) ?_
  refine R_fill X (vp_lit (by decide)) dX5_init_732 ?_
  refine R_dup X dX5_init_733 rfl ?_
  refine R_bipush (v := (61 : Int32)) X dX5_init_734 (by decide) ?_
  refine R_bipush (v := (101 : Int32)) X dX5_init_736 (by decide) ?_
  refine R_fill X (vp_lit (by decide)) dX5_init_738 ?_
  refine R_dup X dX5_init_739 rfl ?_
  refine R_bipush (v := (62 : Int32)) X dX5_init_740 (by decide) ?_
  refine R_bipush (v := (32 : Int32)) X dX5_init_742 (by decide) ?_
  refine R_fill X (vp_lit (by decide)) dX5_init_744 ?_
  refine R_dup X dX5_init_745 rfl ?_
  refine R_bipush (v := (63 : Int32)) X dX5_init_746 (by decide) ?_
  refine R_bipush (v := (32 : Int32)) X dX5_init_748 (by decide) ?_
  refine R_fill X (vp_lit (by decide)) dX5_init_750 ?_
  refine R_dup X dX5_init_751 rfl ?_
  refine R_bipush (v := (64 : Int32)) X dX5_init_752 (by decide) ?_
  refine R_bipush (v := (109 : Int32)) X dX5_init_754 (by decide) ?_
  refine R_fill X (vp_lit (by decide)) dX5_init_756 ?_
  refine R_dup X dX5_init_757 rfl ?_
  refine R_bipush (v := (65 : Int32)) X dX5_init_758 (by decide) ?_
  refine R_bipush (v := (111 : Int32)) X dX5_init_760 (by decide) ?_
  refine R_fill X (vp_lit (by decide)) dX5_init_762 ?_
  refine R_dup X dX5_init_763 rfl ?_
  refine R_bipush (v := (66 : Int32)) X dX5_init_764 (by decide) ?_
  refine R_bipush (v := (114 : Int32)) X dX5_init_766 (by decide) ?_
  refine R_fill X (vp_lit (by decide)) dX5_init_768 ?_
  refine R_dup X dX5_init_769 rfl ?_
  refine R_bipush (v := (67 : Int32)) X dX5_init_770 (by decide) ?_
  refine R_bipush (v := (101 : Int32)) X dX5_init_772 (by decide) ?_
  refine R_fill X (vp_lit (by decide)) dX5_init_774 ?_
  refine R_dup X dX5_init_775 rfl ?_
  refine R_bipush (v := (68 : Int32)) X dX5_init_776 (by decide) ?_
  refine R_bipush (v := (32 : Int32)) X dX5_init_778 (by decide) ?_
  refine R_fill X (vp_lit (by decide)) dX5_init_780 ?_
  refine R_dup X dX5_init_781 rfl ?_
  refine R_bipush (v := (69 : Int32)) X dX5_init_782 (by decide) ?_
  refine R_bipush (v := (32 : Int32)) X dX5_init_784 (by decide) ?_
  refine R_fill X (vp_lit (by decide)) dX5_init_786 ?_
  refine R_dup X dX5_init_787 rfl ?_
  refine R_bipush (v := (70 : Int32)) X dX5_init_788 (by decide) ?_
  refine R_bipush (v := (32 : Int32)) X dX5_init_790 (by decide) ?_
  refine R_fill X (vp_lit (by decide)) dX5_init_792 ?_
  refine R_dup X dX5_init_793 rfl ?_
  refine R_bipush (v := (71 : Int32)) X dX5_init_794 (by decide) ?_
  refine R_bipush (v := (32 : Int32)) X dX5_init_796 (by decide) ?_
  refine R_fill X (vp_lit (by decide)) dX5_init_798 ?_
  refine R_dup X dX5_init_799 rfl ?_
  refine R_bipush (v := (72 : Int32)) X dX5_init_800 (by decide) ?_
  refine R_bipush (v := (111 : Int32)) X dX5_init_802 (by decide) ?_
  refine R_fill X (vp_lit (by decide)) dX5_init_804 ?_
  refine R_dup X dX5_init_805 rfl ?_
  refine R_bipush (v := (73 : Int32)) X dX5_init_806 (by decide) ?_
  refine R_bipush (v := (114 : Int32)) X dX5_init_808 (by decide) ?_
  refine R_fill X (vp_lit (by decide)) dX5_init_810 ?_
  refine R_dup X dX5_init_811 rfl ?_
  refine R_bipush (v := (74 : Int32)) X dX5_init_812 (by decide) ?_
  refine R_bipush (v := (32 : Int32)) X dX5_init_814 (by decide) ?_
  refine R_fill X (vp_lit (by decide)) dX5_init_816 ?_
  refine R_dup X dX5_init_817 rfl ?_
  refine R_bipush (v := (75 : Int32)) X dX5_init_818 (by decide) ?_
  refine R_bipush (v := (32 : Int32)) X dX5_init_820 (by decide) ?_
  refine R_fill X (vp_lit (by decide)) dX5_init_822 ?_
  refine R_dup X dX5_init_823 rfl ?_
  refine R_bipush (v := (76 : Int32)) X dX5_init_824 (by decide) ?_
  refine R_bipush (v := (32 : Int32)) X dX5_init_826 (by decide) ?_
  refine R_fill X (vp_lit (by decide)) dX5_init_828 ?_
  refine R_dup X dX5_init_829 rfl ?_
  refine R_bipush (v := (77 : Int32)) X dX5_init_830 (by decide) ?_
  refine R_bipush (v := (32 : Int32)) X dX5_init_832 (by decide) ?_
  refine R_fill X (vp_lit (by decide)) dX5_init_834 ?_
  refine R_dup X dX5_init_835 rfl ?_
  refine R_bipush (v := (78 : Int32)) X dX5_init_836 (by decide) ?_
  refine R_bipush (v := (32 : Int32)) X dX5_init_838 (by decide) ?_
  refine R_fill X (vp_lit (by decide)) dX5_init_840 ?_
  refine R_dup X dX5_init_841 rfl ?_
  refine R_bipush (v := (79 : Int32)) X dX5_init_842 (by decide) ?_
  refine R_bipush (v := (32 : Int32)) X dX5_init_844 (by decide) ?_
  refine R_fill X (vp_lit (by decide)) dX5_init_846 ?_
  refine R_dup X dX5_init_847 rfl ?_
  refine R_bipush (v := (80 : Int32)) X dX5_init_848 (by decide) ?_
  refine R_bipush (v := (97 : Int32)) X dX5_init_850 (by decide) ?_
  refine R_fill X (vp_lit (by decide)) dX5_init_852 ?_
  refine R_dup X dX5_init_853 rfl ?_
  refine R_bipush (v := (81 : Int32)) X dX5_init_854 (by decide) ?_
  refine R_bipush (v := (110 : Int32)) X dX5_init_856 (by decide) ?_
  refine R_fill X (vp_lit (by decide)) dX5_init_858 ?_
  refine R_dup X dX5_init_859 rfl ?_
  refine R_bipush (v := (82 : Int32)) X dX5_init_860 (by decide) ?_
  refine R_bipush (v := (100 : Int32)) X dX5_init_862 (by decide) ?_
  refine R_fill X (vp_lit (by decide)) dX5_init_864 ?_
  refine R_dup X dX5_init_865 rfl ?_
  refine R_bipush (v := (83 : Int32)) X dX5_init_866 (by decide) ?_
  refine R_bipush (v := (32 : Int32)) X dX5_init_868 (by decide) ?_
  refine R_fill X (vp_lit (by decide)) dX5_init_870 ?_
  refine R_dup X dX5_init_871 rfl ?_
  refine R_bipush (v := (84 : Int32)) X dX5_init_872 (by decide) ?_
  refine R_bipush (v := (32 : Int32)) X dX5_init_874 (by decide) ?_
  refine R_fill X (vp_lit (by decide)) dX5_init_876 ?_
  refine R_dup X dX5_init_877 rfl ?_
  refine R_bipush (v := (85 : Int32)) X dX5_init_878 (by decide) ?_
  refine R_bipush (v := (32 : Int32)) X dX5_init_880 (by decide) ?_
  refine R_fill X (vp_lit (by decide)) dX5_init_882 ?_
  refine R_dup X dX5_init_883 rfl ?_
  refine R_bipush (v := (86 : Int32)) X dX5_init_884 (by decide) ?_
  refine R_bipush (v := (32 : Int32)) X dX5_init_886 (by decide) ?_
  refine R_fill X (vp_lit (by decide)) dX5_init_888 ?_
  refine R_dup X dX5_init_889 rfl ?_
  refine R_bipush (v := (87 : Int32)) X dX5_init_890 (by decide) ?_
  refine R_bipush (v := (32 : Int32)) X dX5_init_892 (by decide) ?_
  refine R_fill X (vp_lit (by decide)) dX5_init_894 ?_
  refine R_dup X dX5_init_895 rfl ?_
  refine R_bipush (v := (88 : Int32)) X dX5_init_896 (by decide) ?_
  refine R_bipush (v := (110 : Int32)) X dX5_init_898 (by decide) ?_
  refine R_fill X (vp_lit (by decide)) dX5_init_900 ?_
  refine R_dup X dX5_init_901 rfl ?_
  refine R_bipush (v := (89 : Int32)) X dX5_init_902 (by decide) ?_
  refine R_bipush (v := (111 : Int32)) X dX5_init_904 (by decide) ?_
  refine R_fill X (vp_lit (by decide)) dX5_init_906 ?_
  refine R_dup X dX5_init_907 rfl ?_
  refine R_bipush (v := (90 : Int32)) X dX5_init_908 (by decide) ?_
  refine R_bipush (v := (116 : Int32)) X dX5_init_910 (by decide) ?_
  refine R_fill X (vp_lit (by decide)) dX5_init_912 ?_
  refine R_dup X dX5_init_913 rfl ?_
  refine R_bipush (v := (91 : Int32)) X dX5_init_914 (by decide) ?_
  refine R_bipush (v := (32 : Int32)) X dX5_init_916 (by decide) ?_
  refine R_fill X (vp_lit (by decide)) dX5_init_918 ?_
  refine R_dup X dX5_init_919 rfl ?_
  refine R_bipush (v := (92 : Int32)) X dX5_init_920 (by decide) ?_
  refine R_bipush (v := (32 : Int32)) X dX5_init_922 (by decide) ?_
  refine R_fill X (vp_lit (by decide)) dX5_init_924 ?_
  refine R_dup X dX5_init_925 rfl ?_
  refine R_bipush (v := (93 : Int32)) X dX5_init_926 (by decide) ?_
  refine R_bipush (v := (32 : Int32)) X dX5_init_928 (by decide) ?_
  refine R_fill X (vp_lit (by decide)) dX5_init_930 ?_
  refine R_dup X dX5_init_931 rfl ?_
  refine R_bipush (v := (94 : Int32)) X dX5_init_932 (by decide) ?_
  refine R_bipush (v := (32 : Int32)) X dX5_init_934 (by decide) ?_
  refine R_fill X (vp_lit (by decide)) dX5_init_936 ?_
  refine R_dup X dX5_init_937 rfl ?_
  refine R_bipush (v := (95 : Int32)) X dX5_init_938 (by decide) ?_
  refine R_bipush (v := (32 : Int32)) X dX5_init_940 (by decide) ?_
  refine R_fill X (vp_lit (by decide)) dX5_init_942 ?_
  exact kk
noncomputable section
def f_X5_init_L1021 (σ : ST) : Option (Unit × ST) := put 50 6 (43 : Int32) σ (fun t1024 => bnd (f_X5_text t1024) (fun y1028 t1028 => some ((), t1028)))
def f_X5_init_L997 : Nat → Int32 → ST → Option (Unit × ST)
  | 0, _, _ => none
  | n + 1, v1, σ => (if (43 : Int32) ≤ v1 then f_X5_init_L1021 σ else ald (ga 50 17 σ) 43 v1 (fun x1013 => ast 50 5 160 v1 x1013 σ (fun t1014 => f_X5_init_L997 n (v1 + (1 : Int32)) t1014)))
def f_X5_init (σ : ST) : Option (Unit × ST) := f_X5_init_L997 1000 (0 : Int32) σ
end
set_option maxRecDepth 100000 in
set_option maxHeartbeats 4000000 in
theorem j_X5_init_L1021 {E : JE} {G : JG} (X : JM E 2 cX5_init RX5 none 8 400 G) {Fi : Unit → ST → State → Prop} (hex : ∀ (σ : ST) (H : Heap) (locs : List Loc) (ls : Array Slot) (lv1 : List (Nat × Value)), va_P (jV E).1 vwCl ((jV E).2.2.1 σ) H → va_D (jA E) ((jV E).2.2.1 σ) → va_S (jA E) (jS E).heap H locs → lv_has ls 2 lv1 → JW E H locs (Fi () σ) 1032 ls []) (σ : ST) : Jg E 2 Fi [(0, .ref (gO G 50))] 1021 [] σ (f_X5_init_L1021 σ) := by
  have Y := X.1
  unfold f_X5_init_L1021
  refine J_aload_n Y 0 dX5_init_1021 rfl rfl ?_
  refine J_bipush (v := (43 : Int32)) Y dX5_init_1022 (by decide) ?_
  refine M_put 6 (ty := .int) X (by decide) wfl_RX5_67 rfl rfl rfl (by decide +kernel) rfl (mF_6 G _ _) dX5_init_1024 (fun t1024 => ?_)
  refine J_aload_n Y 0 dX5_init_1027 rfl rfl ?_
  refine M_cVi (As := []) (st := []) rfl X (c_X5_text G _) wi_X5_text win_X5_text wse_X5_text wml_RX5_71 ⟨Nat.le_of_ble_eq_true rfl, Nat.le_of_ble_eq_true rfl⟩ rfl (Nat.le_of_ble_eq_true rfl) dX5_init_1028 (fun y1028 t1028 => ?_)
  refine J_pop Y dX5_init_1031 rfl ?_
  exact J_exit (fun H locs ls hP hD hS hl => hex _ H locs ls _ hP hD hS hl)
set_option maxRecDepth 100000 in
set_option maxHeartbeats 4000000 in
theorem j_X5_init_L997 {E : JE} {G : JG} (X : JM E 2 cX5_init RX5 none 8 400 G) {Fi : Unit → ST → State → Prop} (hex : ∀ (σ : ST) (H : Heap) (locs : List Loc) (ls : Array Slot) (lv1 : List (Nat × Value)), va_P (jV E).1 vwCl ((jV E).2.2.1 σ) H → va_D (jA E) ((jV E).2.2.1 σ) → va_S (jA E) (jS E).heap H locs → lv_has ls 2 lv1 → JW E H locs (Fi () σ) 1032 ls []) : ∀ (n : Nat) (v1 : Int32) (σ : ST), Jg E 2 Fi [(0, .ref (gO G 50)), (1, .int v1)] 997 [] σ (f_X5_init_L997 n v1 σ) := by
  have Y := X.1
  intro n
  induction n with
  | zero => intro v1 σ; rw [f_X5_init_L997]; exact J_none
  | succ n ih =>
    intro v1 σ
    rw [f_X5_init_L997]
    refine J_iload_n Y 1 dX5_init_997 rfl rfl ?_
    refine J_bipush (v := (43 : Int32)) Y dX5_init_998 (by decide) ?_
    refine J_icmp_ge (tgt := 1021) Y dX5_init_1000 (by decide) ?_ ?_
    · refine J_sub [0] rfl ?_
      exact j_X5_init_L1021 X hex  σ
    · refine J_aload_n Y 0 dX5_init_1003 rfl rfl ?_
      refine M_get 5 X (by decide) rfl wfl_RX5_19 rfl dX5_init_1004 ?_
      refine J_iload_n Y 1 dX5_init_1007 rfl rfl ?_
      refine J_aload_n Y 0 dX5_init_1008 rfl rfl ?_
      refine M_get 17 X (by decide) rfl wfl_RX5_43 rfl dX5_init_1009 ?_
      refine J_iload_n Y 1 dX5_init_1012 rfl rfl ?_
      refine M_ald X (mA_17 G _) dX5_init_1013 (fun x1013 => ?_)
      refine M_ast X (mA_5 G _) (mS_5 G _) dX5_init_1014 (fun t1014 => ?_)
      refine J_iinc (v := v1 + (1 : Int32)) [(1, .int (v1 + (1 : Int32))), (0, .ref (gO G 50))] Y 1 dX5_init_1015 rfl (congrArg (fun z => _ + z) (by decide)) (by decide) rfl ?_
      refine J_goto (tgt := 997) Y dX5_init_1018 (by decide) ?_
      refine J_sub [1, 0] rfl ?_
      exact ih (v1 + (1 : Int32)) t1014
set_option maxRecDepth 100000 in
set_option maxHeartbeats 4000000 in
theorem j_X5_init {E : JE} {G : JG} (X : JM E 2 cX5_init RX5 none 8 400 G) {Fi : Unit → ST → State → Prop} (hex : ∀ (σ : ST) (H : Heap) (locs : List Loc) (ls : Array Slot) (lv1 : List (Nat × Value)), va_P (jV E).1 vwCl ((jV E).2.2.1 σ) H → va_D (jA E) ((jV E).2.2.1 σ) → va_S (jA E) (jS E).heap H locs → lv_has ls 2 lv1 → JW E H locs (Fi () σ) 1032 ls []) (σ : ST) : Jg E 2 Fi [(0, .ref (gO G 50))] 995 [] σ (f_X5_init σ) := by
  have Y := X.1
  unfold f_X5_init
  refine J_iconst (v := (0 : Int32)) Y dX5_init_995 (by decide) ?_
  refine J_istore_n [(1, .int (0 : Int32)), (0, .ref (gO G 50))] Y dX5_init_996 rfl (by decide) rfl ?_
  refine J_sub [1, 0] rfl ?_
  exact j_X5_init_L997 X hex 1000 (0 : Int32) σ
def sM0 : ST := (fun _ _ => 0, fun _ k => if k = 14 then litM_73_f else if k = 17 then litM_113_f else if k = 22 then litM_373_f else (fun _ => 0))
def gM0 (G0 : JG) (h0 : Nat) (q : Nat → Nat) : JG := (G0.1, G0.2.1, G0.2.2.1, fun _ => h0, fun _ k => q k, G0.2.2.2.2.2)
def dX5 : List Value := [.int 0, .null, .null, .null, .int 0, .null, .int 0, .null, .null, .int 0, .int 0, .int 0, .null, .null, .null, .null, .null, .null, .int 0, .int 0, .int 0, .int 0, .null, .null, .int 0, .int 0, .int 0, .null, .null, .null, .null, .null, .int 0]
set_option maxRecDepth 100000 in
set_option maxHeartbeats 8000000 in
theorem i_X5_init {V : JV} (G0 : JG) (hV : VOK V) (hD : V.1 = G0.2.1) (hI : V.2.1[0]? = some (gI G0, .int)) (h0 : Nat) (σe : ST) (hr : f_X5_init sM0 = some ((), σe)) : RMet V G0.1 yX5_init cX5_init 2 none 8 400 19 2394 [.ref h0] [(h0, .inr (5, dX5))] (fun _ : (Nat → Nat) × ST => none) (fun x => x.2 = σe) (fun x => wM (gM0 G0 h0 x.1) x.2) := by
  refine R_of (cI := gI G0) hV hI (by decide +kernel) (Nat.le_of_ble_eq_true rfl) (fun E e1 e2 X hin => ?_)
  generalize hcI : gI G0 = cI at X
  refine R_ws [(h0, .inr (5, [.int 0, .null, .null, .null, .int 0, .null, .int 0, .null, .null, .int 0, .int 0, .int 0, .null, .null, .null, .null, .null, .null, .int 0, .int 0, .int 0, .int 0, .null, .null, .int 0, .int 0, .int 0, .null, .null, .null, .null, .null, .int 0]))] rfl ?_
  refine R_aload_n X 0 dX5_init_0 rfl rfl ?_
  refine R_objI X wob_RX5_1 wob_in wob_code (Nat.le_of_ble_eq_true rfl) (Nat.le_of_ble_eq_true rfl) dX5_init_1 ?_
  refine R_aload_n X 0 dX5_init_4 rfl rfl ?_
  refine R_bipush (v := (6 : Int32)) X dX5_init_5 (by decide) ?_
  refine R_newi 6 X warr_int (by decide) (by decide) (by decide) (Nat.le_of_ble_eq_true rfl) (Nat.le_of_ble_eq_true rfl) dX5_init_7 (fun q0 => ?_)
  refine R_ws [(h0, .inr (5, [.int 0, .null, .null, .null, .int 0, .null, .int 0, .null, .null, .int 0, .int 0, .int 0, .null, .null, .null, .null, .null, .null, .int 0, .int 0, .int 0, .int 0, .null, .null, .int 0, .int 0, .int 0, .null, .null, .null, .null, .null, .int 0])), (q0, .inl (cI, 6, .inl (fun _ => 0)))] rfl ?_
  refine R_putF 1 0 (ty := .array .int) (v := .ref q0) X hin uw_X5 tyX5 tyX5_ok nmX5 rfl rfl (by decide) rfl wfl_RX5_7 rfl rfl rfl (by decide +kernel) rfl (Nat.le_of_ble_eq_true rfl) dX5_init_9 ?_
  refine R_ws [(h0, .inr (5, [.int 0, .ref q0, .null, .null, .int 0, .null, .int 0, .null, .null, .int 0, .int 0, .int 0, .null, .null, .null, .null, .null, .null, .int 0, .int 0, .int 0, .int 0, .null, .null, .int 0, .int 0, .int 0, .null, .null, .null, .null, .null, .int 0])), (q0, .inl (cI, 6, .inl (fun _ => 0)))] rfl ?_
  refine R_aload_n X 0 dX5_init_12 rfl rfl ?_
  refine R_bipush (v := (6 : Int32)) X dX5_init_13 (by decide) ?_
  refine R_newi 6 X warr_int (by decide) (by decide) (by decide) (Nat.le_of_ble_eq_true rfl) (Nat.le_of_ble_eq_true rfl) dX5_init_15 (fun q1 => ?_)
  refine R_ws [(h0, .inr (5, [.int 0, .ref q0, .null, .null, .int 0, .null, .int 0, .null, .null, .int 0, .int 0, .int 0, .null, .null, .null, .null, .null, .null, .int 0, .int 0, .int 0, .int 0, .null, .null, .int 0, .int 0, .int 0, .null, .null, .null, .null, .null, .int 0])), (q0, .inl (cI, 6, .inl (fun _ => 0))), (q1, .inl (cI, 6, .inl (fun _ => 0)))] rfl ?_
  refine R_putF 2 0 (ty := .array .int) (v := .ref q1) X hin uw_X5 tyX5 tyX5_ok nmX5 rfl rfl (by decide) rfl wfl_RX5_13 rfl rfl rfl (by decide +kernel) rfl (Nat.le_of_ble_eq_true rfl) dX5_init_17 ?_
  refine R_ws [(h0, .inr (5, [.int 0, .ref q0, .ref q1, .null, .int 0, .null, .int 0, .null, .null, .int 0, .int 0, .int 0, .null, .null, .null, .null, .null, .null, .int 0, .int 0, .int 0, .int 0, .null, .null, .int 0, .int 0, .int 0, .null, .null, .null, .null, .null, .int 0])), (q0, .inl (cI, 6, .inl (fun _ => 0))), (q1, .inl (cI, 6, .inl (fun _ => 0)))] rfl ?_
  refine R_aload_n X 0 dX5_init_20 rfl rfl ?_
  refine R_bipush (v := (72 : Int32)) X dX5_init_21 (by decide) ?_
  refine R_newi 72 X warr_int (by decide) (by decide) (by decide) (Nat.le_of_ble_eq_true rfl) (Nat.le_of_ble_eq_true rfl) dX5_init_23 (fun q2 => ?_)
  refine R_ws [(h0, .inr (5, [.int 0, .ref q0, .ref q1, .null, .int 0, .null, .int 0, .null, .null, .int 0, .int 0, .int 0, .null, .null, .null, .null, .null, .null, .int 0, .int 0, .int 0, .int 0, .null, .null, .int 0, .int 0, .int 0, .null, .null, .null, .null, .null, .int 0])), (q0, .inl (cI, 6, .inl (fun _ => 0))), (q1, .inl (cI, 6, .inl (fun _ => 0))), (q2, .inl (cI, 72, .inl (fun _ => 0)))] rfl ?_
  refine R_putF 3 0 (ty := .array .int) (v := .ref q2) X hin uw_X5 tyX5 tyX5_ok nmX5 rfl rfl (by decide) rfl wfl_RX5_16 rfl rfl rfl (by decide +kernel) rfl (Nat.le_of_ble_eq_true rfl) dX5_init_25 ?_
  refine R_ws [(h0, .inr (5, [.int 0, .ref q0, .ref q1, .ref q2, .int 0, .null, .int 0, .null, .null, .int 0, .int 0, .int 0, .null, .null, .null, .null, .null, .null, .int 0, .int 0, .int 0, .int 0, .null, .null, .int 0, .int 0, .int 0, .null, .null, .null, .null, .null, .int 0])), (q0, .inl (cI, 6, .inl (fun _ => 0))), (q1, .inl (cI, 6, .inl (fun _ => 0))), (q2, .inl (cI, 72, .inl (fun _ => 0)))] rfl ?_
  refine R_aload_n X 0 dX5_init_28 rfl rfl ?_
  refine R_sipush (v := (160 : Int32)) X dX5_init_29 (by decide) ?_
  refine R_newi 160 X warr_int (by decide) (by decide) (by decide) (Nat.le_of_ble_eq_true rfl) (Nat.le_of_ble_eq_true rfl) dX5_init_32 (fun q3 => ?_)
  refine R_ws [(h0, .inr (5, [.int 0, .ref q0, .ref q1, .ref q2, .int 0, .null, .int 0, .null, .null, .int 0, .int 0, .int 0, .null, .null, .null, .null, .null, .null, .int 0, .int 0, .int 0, .int 0, .null, .null, .int 0, .int 0, .int 0, .null, .null, .null, .null, .null, .int 0])), (q0, .inl (cI, 6, .inl (fun _ => 0))), (q1, .inl (cI, 6, .inl (fun _ => 0))), (q2, .inl (cI, 72, .inl (fun _ => 0))), (q3, .inl (cI, 160, .inl (fun _ => 0)))] rfl ?_
  refine R_putF 5 0 (ty := .array .int) (v := .ref q3) X hin uw_X5 tyX5 tyX5_ok nmX5 rfl rfl (by decide) rfl wfl_RX5_19 rfl rfl rfl (by decide +kernel) rfl (Nat.le_of_ble_eq_true rfl) dX5_init_34 ?_
  refine R_ws [(h0, .inr (5, [.int 0, .ref q0, .ref q1, .ref q2, .int 0, .ref q3, .int 0, .null, .null, .int 0, .int 0, .int 0, .null, .null, .null, .null, .null, .null, .int 0, .int 0, .int 0, .int 0, .null, .null, .int 0, .int 0, .int 0, .null, .null, .null, .null, .null, .int 0])), (q0, .inl (cI, 6, .inl (fun _ => 0))), (q1, .inl (cI, 6, .inl (fun _ => 0))), (q2, .inl (cI, 72, .inl (fun _ => 0))), (q3, .inl (cI, 160, .inl (fun _ => 0)))] rfl ?_
  refine R_aload_n X 0 dX5_init_37 rfl rfl ?_
  refine R_sipush (v := (1200 : Int32)) X dX5_init_38 (by decide) ?_
  refine R_newi 1200 X warr_int (by decide) (by decide) (by decide) (Nat.le_of_ble_eq_true rfl) (Nat.le_of_ble_eq_true rfl) dX5_init_41 (fun q4 => ?_)
  refine R_ws [(h0, .inr (5, [.int 0, .ref q0, .ref q1, .ref q2, .int 0, .ref q3, .int 0, .null, .null, .int 0, .int 0, .int 0, .null, .null, .null, .null, .null, .null, .int 0, .int 0, .int 0, .int 0, .null, .null, .int 0, .int 0, .int 0, .null, .null, .null, .null, .null, .int 0])), (q0, .inl (cI, 6, .inl (fun _ => 0))), (q1, .inl (cI, 6, .inl (fun _ => 0))), (q2, .inl (cI, 72, .inl (fun _ => 0))), (q3, .inl (cI, 160, .inl (fun _ => 0))), (q4, .inl (cI, 1200, .inl (fun _ => 0)))] rfl ?_
  refine R_putF 7 0 (ty := .array .int) (v := .ref q4) X hin uw_X5 tyX5 tyX5_ok nmX5 rfl rfl (by decide) rfl wfl_RX5_22 rfl rfl rfl (by decide +kernel) rfl (Nat.le_of_ble_eq_true rfl) dX5_init_43 ?_
  refine R_ws [(h0, .inr (5, [.int 0, .ref q0, .ref q1, .ref q2, .int 0, .ref q3, .int 0, .ref q4, .null, .int 0, .int 0, .int 0, .null, .null, .null, .null, .null, .null, .int 0, .int 0, .int 0, .int 0, .null, .null, .int 0, .int 0, .int 0, .null, .null, .null, .null, .null, .int 0])), (q0, .inl (cI, 6, .inl (fun _ => 0))), (q1, .inl (cI, 6, .inl (fun _ => 0))), (q2, .inl (cI, 72, .inl (fun _ => 0))), (q3, .inl (cI, 160, .inl (fun _ => 0))), (q4, .inl (cI, 1200, .inl (fun _ => 0)))] rfl ?_
  refine R_aload_n X 0 dX5_init_46 rfl rfl ?_
  refine R_bipush (v := (24 : Int32)) X dX5_init_47 (by decide) ?_
  refine R_newi 24 X warr_int (by decide) (by decide) (by decide) (Nat.le_of_ble_eq_true rfl) (Nat.le_of_ble_eq_true rfl) dX5_init_49 (fun q5 => ?_)
  refine R_ws [(h0, .inr (5, [.int 0, .ref q0, .ref q1, .ref q2, .int 0, .ref q3, .int 0, .ref q4, .null, .int 0, .int 0, .int 0, .null, .null, .null, .null, .null, .null, .int 0, .int 0, .int 0, .int 0, .null, .null, .int 0, .int 0, .int 0, .null, .null, .null, .null, .null, .int 0])), (q0, .inl (cI, 6, .inl (fun _ => 0))), (q1, .inl (cI, 6, .inl (fun _ => 0))), (q2, .inl (cI, 72, .inl (fun _ => 0))), (q3, .inl (cI, 160, .inl (fun _ => 0))), (q4, .inl (cI, 1200, .inl (fun _ => 0))), (q5, .inl (cI, 24, .inl (fun _ => 0)))] rfl ?_
  refine R_putF 8 0 (ty := .array .int) (v := .ref q5) X hin uw_X5 tyX5 tyX5_ok nmX5 rfl rfl (by decide) rfl wfl_RX5_25 rfl rfl rfl (by decide +kernel) rfl (Nat.le_of_ble_eq_true rfl) dX5_init_51 ?_
  refine R_ws [(h0, .inr (5, [.int 0, .ref q0, .ref q1, .ref q2, .int 0, .ref q3, .int 0, .ref q4, .ref q5, .int 0, .int 0, .int 0, .null, .null, .null, .null, .null, .null, .int 0, .int 0, .int 0, .int 0, .null, .null, .int 0, .int 0, .int 0, .null, .null, .null, .null, .null, .int 0])), (q0, .inl (cI, 6, .inl (fun _ => 0))), (q1, .inl (cI, 6, .inl (fun _ => 0))), (q2, .inl (cI, 72, .inl (fun _ => 0))), (q3, .inl (cI, 160, .inl (fun _ => 0))), (q4, .inl (cI, 1200, .inl (fun _ => 0))), (q5, .inl (cI, 24, .inl (fun _ => 0)))] rfl ?_
  refine R_aload_n X 0 dX5_init_54 rfl rfl ?_
  refine R_bipush (v := (72 : Int32)) X dX5_init_55 (by decide) ?_
  refine R_newi 72 X warr_int (by decide) (by decide) (by decide) (Nat.le_of_ble_eq_true rfl) (Nat.le_of_ble_eq_true rfl) dX5_init_57 (fun q6 => ?_)
  refine R_ws [(h0, .inr (5, [.int 0, .ref q0, .ref q1, .ref q2, .int 0, .ref q3, .int 0, .ref q4, .ref q5, .int 0, .int 0, .int 0, .null, .null, .null, .null, .null, .null, .int 0, .int 0, .int 0, .int 0, .null, .null, .int 0, .int 0, .int 0, .null, .null, .null, .null, .null, .int 0])), (q0, .inl (cI, 6, .inl (fun _ => 0))), (q1, .inl (cI, 6, .inl (fun _ => 0))), (q2, .inl (cI, 72, .inl (fun _ => 0))), (q3, .inl (cI, 160, .inl (fun _ => 0))), (q4, .inl (cI, 1200, .inl (fun _ => 0))), (q5, .inl (cI, 24, .inl (fun _ => 0))), (q6, .inl (cI, 72, .inl (fun _ => 0)))] rfl ?_
  refine R_putF 12 0 (ty := .array .int) (v := .ref q6) X hin uw_X5 tyX5 tyX5_ok nmX5 rfl rfl (by decide) rfl wfl_RX5_28 rfl rfl rfl (by decide +kernel) rfl (Nat.le_of_ble_eq_true rfl) dX5_init_59 ?_
  refine R_ws [(h0, .inr (5, [.int 0, .ref q0, .ref q1, .ref q2, .int 0, .ref q3, .int 0, .ref q4, .ref q5, .int 0, .int 0, .int 0, .ref q6, .null, .null, .null, .null, .null, .int 0, .int 0, .int 0, .int 0, .null, .null, .int 0, .int 0, .int 0, .null, .null, .null, .null, .null, .int 0])), (q0, .inl (cI, 6, .inl (fun _ => 0))), (q1, .inl (cI, 6, .inl (fun _ => 0))), (q2, .inl (cI, 72, .inl (fun _ => 0))), (q3, .inl (cI, 160, .inl (fun _ => 0))), (q4, .inl (cI, 1200, .inl (fun _ => 0))), (q5, .inl (cI, 24, .inl (fun _ => 0))), (q6, .inl (cI, 72, .inl (fun _ => 0)))] rfl ?_
  refine R_aload_n X 0 dX5_init_62 rfl rfl ?_
  refine R_iconst (v := (3 : Int32)) X dX5_init_63 (by decide) ?_
  refine R_newi 3 X warr_int (by decide) (by decide) (by decide) (Nat.le_of_ble_eq_true rfl) (Nat.le_of_ble_eq_true rfl) dX5_init_64 (fun q7 => ?_)
  refine R_ws [(h0, .inr (5, [.int 0, .ref q0, .ref q1, .ref q2, .int 0, .ref q3, .int 0, .ref q4, .ref q5, .int 0, .int 0, .int 0, .ref q6, .null, .null, .null, .null, .null, .int 0, .int 0, .int 0, .int 0, .null, .null, .int 0, .int 0, .int 0, .null, .null, .null, .null, .null, .int 0])), (q0, .inl (cI, 6, .inl (fun _ => 0))), (q1, .inl (cI, 6, .inl (fun _ => 0))), (q2, .inl (cI, 72, .inl (fun _ => 0))), (q3, .inl (cI, 160, .inl (fun _ => 0))), (q4, .inl (cI, 1200, .inl (fun _ => 0))), (q5, .inl (cI, 24, .inl (fun _ => 0))), (q6, .inl (cI, 72, .inl (fun _ => 0))), (q7, .inl (cI, 3, .inl (fun _ => 0)))] rfl ?_
  refine R_putF 13 0 (ty := .array .int) (v := .ref q7) X hin uw_X5 tyX5 tyX5_ok nmX5 rfl rfl (by decide) rfl wfl_RX5_31 rfl rfl rfl (by decide +kernel) rfl (Nat.le_of_ble_eq_true rfl) dX5_init_66 ?_
  refine R_ws [(h0, .inr (5, [.int 0, .ref q0, .ref q1, .ref q2, .int 0, .ref q3, .int 0, .ref q4, .ref q5, .int 0, .int 0, .int 0, .ref q6, .ref q7, .null, .null, .null, .null, .int 0, .int 0, .int 0, .int 0, .null, .null, .int 0, .int 0, .int 0, .null, .null, .null, .null, .null, .int 0])), (q0, .inl (cI, 6, .inl (fun _ => 0))), (q1, .inl (cI, 6, .inl (fun _ => 0))), (q2, .inl (cI, 72, .inl (fun _ => 0))), (q3, .inl (cI, 160, .inl (fun _ => 0))), (q4, .inl (cI, 1200, .inl (fun _ => 0))), (q5, .inl (cI, 24, .inl (fun _ => 0))), (q6, .inl (cI, 72, .inl (fun _ => 0))), (q7, .inl (cI, 3, .inl (fun _ => 0)))] rfl ?_
  refine R_aload_n X 0 dX5_init_69 rfl rfl ?_
  refine R_iconst (v := (4 : Int32)) X dX5_init_70 (by decide) ?_
  refine R_newi 4 X warr_int (by decide) (by decide) (by decide) (Nat.le_of_ble_eq_true rfl) (Nat.le_of_ble_eq_true rfl) dX5_init_71 (fun q8 => ?_)
  refine R_ws [(h0, .inr (5, [.int 0, .ref q0, .ref q1, .ref q2, .int 0, .ref q3, .int 0, .ref q4, .ref q5, .int 0, .int 0, .int 0, .ref q6, .ref q7, .null, .null, .null, .null, .int 0, .int 0, .int 0, .int 0, .null, .null, .int 0, .int 0, .int 0, .null, .null, .null, .null, .null, .int 0])), (q0, .inl (cI, 6, .inl (fun _ => 0))), (q1, .inl (cI, 6, .inl (fun _ => 0))), (q2, .inl (cI, 72, .inl (fun _ => 0))), (q3, .inl (cI, 160, .inl (fun _ => 0))), (q4, .inl (cI, 1200, .inl (fun _ => 0))), (q5, .inl (cI, 24, .inl (fun _ => 0))), (q6, .inl (cI, 72, .inl (fun _ => 0))), (q7, .inl (cI, 3, .inl (fun _ => 0))), (q8, .inl (cI, 4, .inl (fun _ => 0)))] rfl ?_
  refine litM_73 X [(h0, .inr (5, [.int 0, .ref q0, .ref q1, .ref q2, .int 0, .ref q3, .int 0, .ref q4, .ref q5, .int 0, .int 0, .int 0, .ref q6, .ref q7, .null, .null, .null, .null, .int 0, .int 0, .int 0, .int 0, .null, .null, .int 0, .int 0, .int 0, .null, .null, .null, .null, .null, .int 0])), (q0, .inl (cI, 6, .inl (fun _ => 0))), (q1, .inl (cI, 6, .inl (fun _ => 0))), (q2, .inl (cI, 72, .inl (fun _ => 0))), (q3, .inl (cI, 160, .inl (fun _ => 0))), (q4, .inl (cI, 1200, .inl (fun _ => 0))), (q5, .inl (cI, 24, .inl (fun _ => 0))), (q6, .inl (cI, 72, .inl (fun _ => 0))), (q7, .inl (cI, 3, .inl (fun _ => 0)))] q8 ?_
  refine R_ws [(h0, .inr (5, [.int 0, .ref q0, .ref q1, .ref q2, .int 0, .ref q3, .int 0, .ref q4, .ref q5, .int 0, .int 0, .int 0, .ref q6, .ref q7, .null, .null, .null, .null, .int 0, .int 0, .int 0, .int 0, .null, .null, .int 0, .int 0, .int 0, .null, .null, .null, .null, .null, .int 0])), (q0, .inl (cI, 6, .inl (fun _ => 0))), (q1, .inl (cI, 6, .inl (fun _ => 0))), (q2, .inl (cI, 72, .inl (fun _ => 0))), (q3, .inl (cI, 160, .inl (fun _ => 0))), (q4, .inl (cI, 1200, .inl (fun _ => 0))), (q5, .inl (cI, 24, .inl (fun _ => 0))), (q6, .inl (cI, 72, .inl (fun _ => 0))), (q7, .inl (cI, 3, .inl (fun _ => 0))), (q8, .inl (cI, 4, .inl (litM_73_f)))] rfl ?_
  refine R_putF 14 0 (ty := .array .int) (v := .ref q8) X hin uw_X5 tyX5 tyX5_ok nmX5 rfl rfl (by decide) rfl wfl_RX5_34 rfl rfl rfl (by decide +kernel) rfl (Nat.le_of_ble_eq_true rfl) dX5_init_89 ?_
  refine R_ws [(h0, .inr (5, [.int 0, .ref q0, .ref q1, .ref q2, .int 0, .ref q3, .int 0, .ref q4, .ref q5, .int 0, .int 0, .int 0, .ref q6, .ref q7, .ref q8, .null, .null, .null, .int 0, .int 0, .int 0, .int 0, .null, .null, .int 0, .int 0, .int 0, .null, .null, .null, .null, .null, .int 0])), (q0, .inl (cI, 6, .inl (fun _ => 0))), (q1, .inl (cI, 6, .inl (fun _ => 0))), (q2, .inl (cI, 72, .inl (fun _ => 0))), (q3, .inl (cI, 160, .inl (fun _ => 0))), (q4, .inl (cI, 1200, .inl (fun _ => 0))), (q5, .inl (cI, 24, .inl (fun _ => 0))), (q6, .inl (cI, 72, .inl (fun _ => 0))), (q7, .inl (cI, 3, .inl (fun _ => 0))), (q8, .inl (cI, 4, .inl (litM_73_f)))] rfl ?_
  refine R_aload_n X 0 dX5_init_92 rfl rfl ?_
  refine R_iconst (v := (4 : Int32)) X dX5_init_93 (by decide) ?_
  refine R_newi 4 X warr_int (by decide) (by decide) (by decide) (Nat.le_of_ble_eq_true rfl) (Nat.le_of_ble_eq_true rfl) dX5_init_94 (fun q9 => ?_)
  refine R_ws [(h0, .inr (5, [.int 0, .ref q0, .ref q1, .ref q2, .int 0, .ref q3, .int 0, .ref q4, .ref q5, .int 0, .int 0, .int 0, .ref q6, .ref q7, .ref q8, .null, .null, .null, .int 0, .int 0, .int 0, .int 0, .null, .null, .int 0, .int 0, .int 0, .null, .null, .null, .null, .null, .int 0])), (q0, .inl (cI, 6, .inl (fun _ => 0))), (q1, .inl (cI, 6, .inl (fun _ => 0))), (q2, .inl (cI, 72, .inl (fun _ => 0))), (q3, .inl (cI, 160, .inl (fun _ => 0))), (q4, .inl (cI, 1200, .inl (fun _ => 0))), (q5, .inl (cI, 24, .inl (fun _ => 0))), (q6, .inl (cI, 72, .inl (fun _ => 0))), (q7, .inl (cI, 3, .inl (fun _ => 0))), (q8, .inl (cI, 4, .inl (litM_73_f))), (q9, .inl (cI, 4, .inl (fun _ => 0)))] rfl ?_
  refine R_putF 15 0 (ty := .array .int) (v := .ref q9) X hin uw_X5 tyX5 tyX5_ok nmX5 rfl rfl (by decide) rfl wfl_RX5_37 rfl rfl rfl (by decide +kernel) rfl (Nat.le_of_ble_eq_true rfl) dX5_init_96 ?_
  refine R_ws [(h0, .inr (5, [.int 0, .ref q0, .ref q1, .ref q2, .int 0, .ref q3, .int 0, .ref q4, .ref q5, .int 0, .int 0, .int 0, .ref q6, .ref q7, .ref q8, .ref q9, .null, .null, .int 0, .int 0, .int 0, .int 0, .null, .null, .int 0, .int 0, .int 0, .null, .null, .null, .null, .null, .int 0])), (q0, .inl (cI, 6, .inl (fun _ => 0))), (q1, .inl (cI, 6, .inl (fun _ => 0))), (q2, .inl (cI, 72, .inl (fun _ => 0))), (q3, .inl (cI, 160, .inl (fun _ => 0))), (q4, .inl (cI, 1200, .inl (fun _ => 0))), (q5, .inl (cI, 24, .inl (fun _ => 0))), (q6, .inl (cI, 72, .inl (fun _ => 0))), (q7, .inl (cI, 3, .inl (fun _ => 0))), (q8, .inl (cI, 4, .inl (litM_73_f))), (q9, .inl (cI, 4, .inl (fun _ => 0)))] rfl ?_
  refine R_aload_n X 0 dX5_init_99 rfl rfl ?_
  refine R_sipush (v := (160 : Int32)) X dX5_init_100 (by decide) ?_
  refine R_newi 160 X warr_int (by decide) (by decide) (by decide) (Nat.le_of_ble_eq_true rfl) (Nat.le_of_ble_eq_true rfl) dX5_init_103 (fun q10 => ?_)
  refine R_ws [(h0, .inr (5, [.int 0, .ref q0, .ref q1, .ref q2, .int 0, .ref q3, .int 0, .ref q4, .ref q5, .int 0, .int 0, .int 0, .ref q6, .ref q7, .ref q8, .ref q9, .null, .null, .int 0, .int 0, .int 0, .int 0, .null, .null, .int 0, .int 0, .int 0, .null, .null, .null, .null, .null, .int 0])), (q0, .inl (cI, 6, .inl (fun _ => 0))), (q1, .inl (cI, 6, .inl (fun _ => 0))), (q2, .inl (cI, 72, .inl (fun _ => 0))), (q3, .inl (cI, 160, .inl (fun _ => 0))), (q4, .inl (cI, 1200, .inl (fun _ => 0))), (q5, .inl (cI, 24, .inl (fun _ => 0))), (q6, .inl (cI, 72, .inl (fun _ => 0))), (q7, .inl (cI, 3, .inl (fun _ => 0))), (q8, .inl (cI, 4, .inl (litM_73_f))), (q9, .inl (cI, 4, .inl (fun _ => 0))), (q10, .inl (cI, 160, .inl (fun _ => 0)))] rfl ?_
  refine R_putF 16 0 (ty := .array .int) (v := .ref q10) X hin uw_X5 tyX5 tyX5_ok nmX5 rfl rfl (by decide) rfl wfl_RX5_40 rfl rfl rfl (by decide +kernel) rfl (Nat.le_of_ble_eq_true rfl) dX5_init_105 ?_
  refine R_ws [(h0, .inr (5, [.int 0, .ref q0, .ref q1, .ref q2, .int 0, .ref q3, .int 0, .ref q4, .ref q5, .int 0, .int 0, .int 0, .ref q6, .ref q7, .ref q8, .ref q9, .ref q10, .null, .int 0, .int 0, .int 0, .int 0, .null, .null, .int 0, .int 0, .int 0, .null, .null, .null, .null, .null, .int 0])), (q0, .inl (cI, 6, .inl (fun _ => 0))), (q1, .inl (cI, 6, .inl (fun _ => 0))), (q2, .inl (cI, 72, .inl (fun _ => 0))), (q3, .inl (cI, 160, .inl (fun _ => 0))), (q4, .inl (cI, 1200, .inl (fun _ => 0))), (q5, .inl (cI, 24, .inl (fun _ => 0))), (q6, .inl (cI, 72, .inl (fun _ => 0))), (q7, .inl (cI, 3, .inl (fun _ => 0))), (q8, .inl (cI, 4, .inl (litM_73_f))), (q9, .inl (cI, 4, .inl (fun _ => 0))), (q10, .inl (cI, 160, .inl (fun _ => 0)))] rfl ?_
  refine R_aload_n X 0 dX5_init_108 rfl rfl ?_
  refine R_bipush (v := (43 : Int32)) X dX5_init_109 (by decide) ?_
  refine R_newi 43 X warr_int (by decide) (by decide) (by decide) (Nat.le_of_ble_eq_true rfl) (Nat.le_of_ble_eq_true rfl) dX5_init_111 (fun q11 => ?_)
  refine R_ws [(h0, .inr (5, [.int 0, .ref q0, .ref q1, .ref q2, .int 0, .ref q3, .int 0, .ref q4, .ref q5, .int 0, .int 0, .int 0, .ref q6, .ref q7, .ref q8, .ref q9, .ref q10, .null, .int 0, .int 0, .int 0, .int 0, .null, .null, .int 0, .int 0, .int 0, .null, .null, .null, .null, .null, .int 0])), (q0, .inl (cI, 6, .inl (fun _ => 0))), (q1, .inl (cI, 6, .inl (fun _ => 0))), (q2, .inl (cI, 72, .inl (fun _ => 0))), (q3, .inl (cI, 160, .inl (fun _ => 0))), (q4, .inl (cI, 1200, .inl (fun _ => 0))), (q5, .inl (cI, 24, .inl (fun _ => 0))), (q6, .inl (cI, 72, .inl (fun _ => 0))), (q7, .inl (cI, 3, .inl (fun _ => 0))), (q8, .inl (cI, 4, .inl (litM_73_f))), (q9, .inl (cI, 4, .inl (fun _ => 0))), (q10, .inl (cI, 160, .inl (fun _ => 0))), (q11, .inl (cI, 43, .inl (fun _ => 0)))] rfl ?_
  refine litM_113 X [(h0, .inr (5, [.int 0, .ref q0, .ref q1, .ref q2, .int 0, .ref q3, .int 0, .ref q4, .ref q5, .int 0, .int 0, .int 0, .ref q6, .ref q7, .ref q8, .ref q9, .ref q10, .null, .int 0, .int 0, .int 0, .int 0, .null, .null, .int 0, .int 0, .int 0, .null, .null, .null, .null, .null, .int 0])), (q0, .inl (cI, 6, .inl (fun _ => 0))), (q1, .inl (cI, 6, .inl (fun _ => 0))), (q2, .inl (cI, 72, .inl (fun _ => 0))), (q3, .inl (cI, 160, .inl (fun _ => 0))), (q4, .inl (cI, 1200, .inl (fun _ => 0))), (q5, .inl (cI, 24, .inl (fun _ => 0))), (q6, .inl (cI, 72, .inl (fun _ => 0))), (q7, .inl (cI, 3, .inl (fun _ => 0))), (q8, .inl (cI, 4, .inl (litM_73_f))), (q9, .inl (cI, 4, .inl (fun _ => 0))), (q10, .inl (cI, 160, .inl (fun _ => 0)))] q11 ?_
  refine R_ws [(h0, .inr (5, [.int 0, .ref q0, .ref q1, .ref q2, .int 0, .ref q3, .int 0, .ref q4, .ref q5, .int 0, .int 0, .int 0, .ref q6, .ref q7, .ref q8, .ref q9, .ref q10, .null, .int 0, .int 0, .int 0, .int 0, .null, .null, .int 0, .int 0, .int 0, .null, .null, .null, .null, .null, .int 0])), (q0, .inl (cI, 6, .inl (fun _ => 0))), (q1, .inl (cI, 6, .inl (fun _ => 0))), (q2, .inl (cI, 72, .inl (fun _ => 0))), (q3, .inl (cI, 160, .inl (fun _ => 0))), (q4, .inl (cI, 1200, .inl (fun _ => 0))), (q5, .inl (cI, 24, .inl (fun _ => 0))), (q6, .inl (cI, 72, .inl (fun _ => 0))), (q7, .inl (cI, 3, .inl (fun _ => 0))), (q8, .inl (cI, 4, .inl (litM_73_f))), (q9, .inl (cI, 4, .inl (fun _ => 0))), (q10, .inl (cI, 160, .inl (fun _ => 0))), (q11, .inl (cI, 43, .inl (litM_113_f)))] rfl ?_
  refine R_putF 17 0 (ty := .array .int) (v := .ref q11) X hin uw_X5 tyX5 tyX5_ok nmX5 rfl rfl (by decide) rfl wfl_RX5_43 rfl rfl rfl (by decide +kernel) rfl (Nat.le_of_ble_eq_true rfl) dX5_init_365 ?_
  refine R_ws [(h0, .inr (5, [.int 0, .ref q0, .ref q1, .ref q2, .int 0, .ref q3, .int 0, .ref q4, .ref q5, .int 0, .int 0, .int 0, .ref q6, .ref q7, .ref q8, .ref q9, .ref q10, .ref q11, .int 0, .int 0, .int 0, .int 0, .null, .null, .int 0, .int 0, .int 0, .null, .null, .null, .null, .null, .int 0])), (q0, .inl (cI, 6, .inl (fun _ => 0))), (q1, .inl (cI, 6, .inl (fun _ => 0))), (q2, .inl (cI, 72, .inl (fun _ => 0))), (q3, .inl (cI, 160, .inl (fun _ => 0))), (q4, .inl (cI, 1200, .inl (fun _ => 0))), (q5, .inl (cI, 24, .inl (fun _ => 0))), (q6, .inl (cI, 72, .inl (fun _ => 0))), (q7, .inl (cI, 3, .inl (fun _ => 0))), (q8, .inl (cI, 4, .inl (litM_73_f))), (q9, .inl (cI, 4, .inl (fun _ => 0))), (q10, .inl (cI, 160, .inl (fun _ => 0))), (q11, .inl (cI, 43, .inl (litM_113_f)))] rfl ?_
  refine R_aload_n X 0 dX5_init_368 rfl rfl ?_
  refine R_bipush (v := (96 : Int32)) X dX5_init_369 (by decide) ?_
  refine R_newi 96 X warr_int (by decide) (by decide) (by decide) (Nat.le_of_ble_eq_true rfl) (Nat.le_of_ble_eq_true rfl) dX5_init_371 (fun q12 => ?_)
  refine R_ws [(h0, .inr (5, [.int 0, .ref q0, .ref q1, .ref q2, .int 0, .ref q3, .int 0, .ref q4, .ref q5, .int 0, .int 0, .int 0, .ref q6, .ref q7, .ref q8, .ref q9, .ref q10, .ref q11, .int 0, .int 0, .int 0, .int 0, .null, .null, .int 0, .int 0, .int 0, .null, .null, .null, .null, .null, .int 0])), (q0, .inl (cI, 6, .inl (fun _ => 0))), (q1, .inl (cI, 6, .inl (fun _ => 0))), (q2, .inl (cI, 72, .inl (fun _ => 0))), (q3, .inl (cI, 160, .inl (fun _ => 0))), (q4, .inl (cI, 1200, .inl (fun _ => 0))), (q5, .inl (cI, 24, .inl (fun _ => 0))), (q6, .inl (cI, 72, .inl (fun _ => 0))), (q7, .inl (cI, 3, .inl (fun _ => 0))), (q8, .inl (cI, 4, .inl (litM_73_f))), (q9, .inl (cI, 4, .inl (fun _ => 0))), (q10, .inl (cI, 160, .inl (fun _ => 0))), (q11, .inl (cI, 43, .inl (litM_113_f))), (q12, .inl (cI, 96, .inl (fun _ => 0)))] rfl ?_
  refine litM_373 X [(h0, .inr (5, [.int 0, .ref q0, .ref q1, .ref q2, .int 0, .ref q3, .int 0, .ref q4, .ref q5, .int 0, .int 0, .int 0, .ref q6, .ref q7, .ref q8, .ref q9, .ref q10, .ref q11, .int 0, .int 0, .int 0, .int 0, .null, .null, .int 0, .int 0, .int 0, .null, .null, .null, .null, .null, .int 0])), (q0, .inl (cI, 6, .inl (fun _ => 0))), (q1, .inl (cI, 6, .inl (fun _ => 0))), (q2, .inl (cI, 72, .inl (fun _ => 0))), (q3, .inl (cI, 160, .inl (fun _ => 0))), (q4, .inl (cI, 1200, .inl (fun _ => 0))), (q5, .inl (cI, 24, .inl (fun _ => 0))), (q6, .inl (cI, 72, .inl (fun _ => 0))), (q7, .inl (cI, 3, .inl (fun _ => 0))), (q8, .inl (cI, 4, .inl (litM_73_f))), (q9, .inl (cI, 4, .inl (fun _ => 0))), (q10, .inl (cI, 160, .inl (fun _ => 0))), (q11, .inl (cI, 43, .inl (litM_113_f)))] q12 ?_
  refine R_ws [(h0, .inr (5, [.int 0, .ref q0, .ref q1, .ref q2, .int 0, .ref q3, .int 0, .ref q4, .ref q5, .int 0, .int 0, .int 0, .ref q6, .ref q7, .ref q8, .ref q9, .ref q10, .ref q11, .int 0, .int 0, .int 0, .int 0, .null, .null, .int 0, .int 0, .int 0, .null, .null, .null, .null, .null, .int 0])), (q0, .inl (cI, 6, .inl (fun _ => 0))), (q1, .inl (cI, 6, .inl (fun _ => 0))), (q2, .inl (cI, 72, .inl (fun _ => 0))), (q3, .inl (cI, 160, .inl (fun _ => 0))), (q4, .inl (cI, 1200, .inl (fun _ => 0))), (q5, .inl (cI, 24, .inl (fun _ => 0))), (q6, .inl (cI, 72, .inl (fun _ => 0))), (q7, .inl (cI, 3, .inl (fun _ => 0))), (q8, .inl (cI, 4, .inl (litM_73_f))), (q9, .inl (cI, 4, .inl (fun _ => 0))), (q10, .inl (cI, 160, .inl (fun _ => 0))), (q11, .inl (cI, 43, .inl (litM_113_f))), (q12, .inl (cI, 96, .inl (litM_373_f)))] rfl ?_
  refine R_putF 22 0 (ty := .array .int) (v := .ref q12) X hin uw_X5 tyX5 tyX5_ok nmX5 rfl rfl (by decide) rfl wfl_RX5_46 rfl rfl rfl (by decide +kernel) rfl (Nat.le_of_ble_eq_true rfl) dX5_init_943 ?_
  refine R_ws [(h0, .inr (5, [.int 0, .ref q0, .ref q1, .ref q2, .int 0, .ref q3, .int 0, .ref q4, .ref q5, .int 0, .int 0, .int 0, .ref q6, .ref q7, .ref q8, .ref q9, .ref q10, .ref q11, .int 0, .int 0, .int 0, .int 0, .ref q12, .null, .int 0, .int 0, .int 0, .null, .null, .null, .null, .null, .int 0])), (q0, .inl (cI, 6, .inl (fun _ => 0))), (q1, .inl (cI, 6, .inl (fun _ => 0))), (q2, .inl (cI, 72, .inl (fun _ => 0))), (q3, .inl (cI, 160, .inl (fun _ => 0))), (q4, .inl (cI, 1200, .inl (fun _ => 0))), (q5, .inl (cI, 24, .inl (fun _ => 0))), (q6, .inl (cI, 72, .inl (fun _ => 0))), (q7, .inl (cI, 3, .inl (fun _ => 0))), (q8, .inl (cI, 4, .inl (litM_73_f))), (q9, .inl (cI, 4, .inl (fun _ => 0))), (q10, .inl (cI, 160, .inl (fun _ => 0))), (q11, .inl (cI, 43, .inl (litM_113_f))), (q12, .inl (cI, 96, .inl (litM_373_f)))] rfl ?_
  refine R_aload_n X 0 dX5_init_946 rfl rfl ?_
  refine R_sipush (v := (200 : Int32)) X dX5_init_947 (by decide) ?_
  refine R_newi 200 X warr_int (by decide) (by decide) (by decide) (Nat.le_of_ble_eq_true rfl) (Nat.le_of_ble_eq_true rfl) dX5_init_950 (fun q13 => ?_)
  refine R_ws [(h0, .inr (5, [.int 0, .ref q0, .ref q1, .ref q2, .int 0, .ref q3, .int 0, .ref q4, .ref q5, .int 0, .int 0, .int 0, .ref q6, .ref q7, .ref q8, .ref q9, .ref q10, .ref q11, .int 0, .int 0, .int 0, .int 0, .ref q12, .null, .int 0, .int 0, .int 0, .null, .null, .null, .null, .null, .int 0])), (q0, .inl (cI, 6, .inl (fun _ => 0))), (q1, .inl (cI, 6, .inl (fun _ => 0))), (q2, .inl (cI, 72, .inl (fun _ => 0))), (q3, .inl (cI, 160, .inl (fun _ => 0))), (q4, .inl (cI, 1200, .inl (fun _ => 0))), (q5, .inl (cI, 24, .inl (fun _ => 0))), (q6, .inl (cI, 72, .inl (fun _ => 0))), (q7, .inl (cI, 3, .inl (fun _ => 0))), (q8, .inl (cI, 4, .inl (litM_73_f))), (q9, .inl (cI, 4, .inl (fun _ => 0))), (q10, .inl (cI, 160, .inl (fun _ => 0))), (q11, .inl (cI, 43, .inl (litM_113_f))), (q12, .inl (cI, 96, .inl (litM_373_f))), (q13, .inl (cI, 200, .inl (fun _ => 0)))] rfl ?_
  refine R_putF 23 0 (ty := .array .int) (v := .ref q13) X hin uw_X5 tyX5 tyX5_ok nmX5 rfl rfl (by decide) rfl wfl_RX5_49 rfl rfl rfl (by decide +kernel) rfl (Nat.le_of_ble_eq_true rfl) dX5_init_952 ?_
  refine R_ws [(h0, .inr (5, [.int 0, .ref q0, .ref q1, .ref q2, .int 0, .ref q3, .int 0, .ref q4, .ref q5, .int 0, .int 0, .int 0, .ref q6, .ref q7, .ref q8, .ref q9, .ref q10, .ref q11, .int 0, .int 0, .int 0, .int 0, .ref q12, .ref q13, .int 0, .int 0, .int 0, .null, .null, .null, .null, .null, .int 0])), (q0, .inl (cI, 6, .inl (fun _ => 0))), (q1, .inl (cI, 6, .inl (fun _ => 0))), (q2, .inl (cI, 72, .inl (fun _ => 0))), (q3, .inl (cI, 160, .inl (fun _ => 0))), (q4, .inl (cI, 1200, .inl (fun _ => 0))), (q5, .inl (cI, 24, .inl (fun _ => 0))), (q6, .inl (cI, 72, .inl (fun _ => 0))), (q7, .inl (cI, 3, .inl (fun _ => 0))), (q8, .inl (cI, 4, .inl (litM_73_f))), (q9, .inl (cI, 4, .inl (fun _ => 0))), (q10, .inl (cI, 160, .inl (fun _ => 0))), (q11, .inl (cI, 43, .inl (litM_113_f))), (q12, .inl (cI, 96, .inl (litM_373_f))), (q13, .inl (cI, 200, .inl (fun _ => 0)))] rfl ?_
  refine R_aload_n X 0 dX5_init_955 rfl rfl ?_
  refine R_sipush (v := (200 : Int32)) X dX5_init_956 (by decide) ?_
  refine R_newi 200 X warr_int (by decide) (by decide) (by decide) (Nat.le_of_ble_eq_true rfl) (Nat.le_of_ble_eq_true rfl) dX5_init_959 (fun q14 => ?_)
  refine R_ws [(h0, .inr (5, [.int 0, .ref q0, .ref q1, .ref q2, .int 0, .ref q3, .int 0, .ref q4, .ref q5, .int 0, .int 0, .int 0, .ref q6, .ref q7, .ref q8, .ref q9, .ref q10, .ref q11, .int 0, .int 0, .int 0, .int 0, .ref q12, .ref q13, .int 0, .int 0, .int 0, .null, .null, .null, .null, .null, .int 0])), (q0, .inl (cI, 6, .inl (fun _ => 0))), (q1, .inl (cI, 6, .inl (fun _ => 0))), (q2, .inl (cI, 72, .inl (fun _ => 0))), (q3, .inl (cI, 160, .inl (fun _ => 0))), (q4, .inl (cI, 1200, .inl (fun _ => 0))), (q5, .inl (cI, 24, .inl (fun _ => 0))), (q6, .inl (cI, 72, .inl (fun _ => 0))), (q7, .inl (cI, 3, .inl (fun _ => 0))), (q8, .inl (cI, 4, .inl (litM_73_f))), (q9, .inl (cI, 4, .inl (fun _ => 0))), (q10, .inl (cI, 160, .inl (fun _ => 0))), (q11, .inl (cI, 43, .inl (litM_113_f))), (q12, .inl (cI, 96, .inl (litM_373_f))), (q13, .inl (cI, 200, .inl (fun _ => 0))), (q14, .inl (cI, 200, .inl (fun _ => 0)))] rfl ?_
  refine R_putF 27 0 (ty := .array .int) (v := .ref q14) X hin uw_X5 tyX5 tyX5_ok nmX5 rfl rfl (by decide) rfl wfl_RX5_52 rfl rfl rfl (by decide +kernel) rfl (Nat.le_of_ble_eq_true rfl) dX5_init_961 ?_
  refine R_ws [(h0, .inr (5, [.int 0, .ref q0, .ref q1, .ref q2, .int 0, .ref q3, .int 0, .ref q4, .ref q5, .int 0, .int 0, .int 0, .ref q6, .ref q7, .ref q8, .ref q9, .ref q10, .ref q11, .int 0, .int 0, .int 0, .int 0, .ref q12, .ref q13, .int 0, .int 0, .int 0, .ref q14, .null, .null, .null, .null, .int 0])), (q0, .inl (cI, 6, .inl (fun _ => 0))), (q1, .inl (cI, 6, .inl (fun _ => 0))), (q2, .inl (cI, 72, .inl (fun _ => 0))), (q3, .inl (cI, 160, .inl (fun _ => 0))), (q4, .inl (cI, 1200, .inl (fun _ => 0))), (q5, .inl (cI, 24, .inl (fun _ => 0))), (q6, .inl (cI, 72, .inl (fun _ => 0))), (q7, .inl (cI, 3, .inl (fun _ => 0))), (q8, .inl (cI, 4, .inl (litM_73_f))), (q9, .inl (cI, 4, .inl (fun _ => 0))), (q10, .inl (cI, 160, .inl (fun _ => 0))), (q11, .inl (cI, 43, .inl (litM_113_f))), (q12, .inl (cI, 96, .inl (litM_373_f))), (q13, .inl (cI, 200, .inl (fun _ => 0))), (q14, .inl (cI, 200, .inl (fun _ => 0)))] rfl ?_
  refine R_aload_n X 0 dX5_init_964 rfl rfl ?_
  refine R_bipush (v := (6 : Int32)) X dX5_init_965 (by decide) ?_
  refine R_newi 6 X warr_int (by decide) (by decide) (by decide) (Nat.le_of_ble_eq_true rfl) (Nat.le_of_ble_eq_true rfl) dX5_init_967 (fun q15 => ?_)
  refine R_ws [(h0, .inr (5, [.int 0, .ref q0, .ref q1, .ref q2, .int 0, .ref q3, .int 0, .ref q4, .ref q5, .int 0, .int 0, .int 0, .ref q6, .ref q7, .ref q8, .ref q9, .ref q10, .ref q11, .int 0, .int 0, .int 0, .int 0, .ref q12, .ref q13, .int 0, .int 0, .int 0, .ref q14, .null, .null, .null, .null, .int 0])), (q0, .inl (cI, 6, .inl (fun _ => 0))), (q1, .inl (cI, 6, .inl (fun _ => 0))), (q2, .inl (cI, 72, .inl (fun _ => 0))), (q3, .inl (cI, 160, .inl (fun _ => 0))), (q4, .inl (cI, 1200, .inl (fun _ => 0))), (q5, .inl (cI, 24, .inl (fun _ => 0))), (q6, .inl (cI, 72, .inl (fun _ => 0))), (q7, .inl (cI, 3, .inl (fun _ => 0))), (q8, .inl (cI, 4, .inl (litM_73_f))), (q9, .inl (cI, 4, .inl (fun _ => 0))), (q10, .inl (cI, 160, .inl (fun _ => 0))), (q11, .inl (cI, 43, .inl (litM_113_f))), (q12, .inl (cI, 96, .inl (litM_373_f))), (q13, .inl (cI, 200, .inl (fun _ => 0))), (q14, .inl (cI, 200, .inl (fun _ => 0))), (q15, .inl (cI, 6, .inl (fun _ => 0)))] rfl ?_
  refine R_putF 28 0 (ty := .array .int) (v := .ref q15) X hin uw_X5 tyX5 tyX5_ok nmX5 rfl rfl (by decide) rfl wfl_RX5_55 rfl rfl rfl (by decide +kernel) rfl (Nat.le_of_ble_eq_true rfl) dX5_init_969 ?_
  refine R_ws [(h0, .inr (5, [.int 0, .ref q0, .ref q1, .ref q2, .int 0, .ref q3, .int 0, .ref q4, .ref q5, .int 0, .int 0, .int 0, .ref q6, .ref q7, .ref q8, .ref q9, .ref q10, .ref q11, .int 0, .int 0, .int 0, .int 0, .ref q12, .ref q13, .int 0, .int 0, .int 0, .ref q14, .ref q15, .null, .null, .null, .int 0])), (q0, .inl (cI, 6, .inl (fun _ => 0))), (q1, .inl (cI, 6, .inl (fun _ => 0))), (q2, .inl (cI, 72, .inl (fun _ => 0))), (q3, .inl (cI, 160, .inl (fun _ => 0))), (q4, .inl (cI, 1200, .inl (fun _ => 0))), (q5, .inl (cI, 24, .inl (fun _ => 0))), (q6, .inl (cI, 72, .inl (fun _ => 0))), (q7, .inl (cI, 3, .inl (fun _ => 0))), (q8, .inl (cI, 4, .inl (litM_73_f))), (q9, .inl (cI, 4, .inl (fun _ => 0))), (q10, .inl (cI, 160, .inl (fun _ => 0))), (q11, .inl (cI, 43, .inl (litM_113_f))), (q12, .inl (cI, 96, .inl (litM_373_f))), (q13, .inl (cI, 200, .inl (fun _ => 0))), (q14, .inl (cI, 200, .inl (fun _ => 0))), (q15, .inl (cI, 6, .inl (fun _ => 0)))] rfl ?_
  refine R_aload_n X 0 dX5_init_972 rfl rfl ?_
  refine R_bipush (v := (73 : Int32)) X dX5_init_973 (by decide) ?_
  refine R_newi 73 X warr_int (by decide) (by decide) (by decide) (Nat.le_of_ble_eq_true rfl) (Nat.le_of_ble_eq_true rfl) dX5_init_975 (fun q16 => ?_)
  refine R_ws [(h0, .inr (5, [.int 0, .ref q0, .ref q1, .ref q2, .int 0, .ref q3, .int 0, .ref q4, .ref q5, .int 0, .int 0, .int 0, .ref q6, .ref q7, .ref q8, .ref q9, .ref q10, .ref q11, .int 0, .int 0, .int 0, .int 0, .ref q12, .ref q13, .int 0, .int 0, .int 0, .ref q14, .ref q15, .null, .null, .null, .int 0])), (q0, .inl (cI, 6, .inl (fun _ => 0))), (q1, .inl (cI, 6, .inl (fun _ => 0))), (q2, .inl (cI, 72, .inl (fun _ => 0))), (q3, .inl (cI, 160, .inl (fun _ => 0))), (q4, .inl (cI, 1200, .inl (fun _ => 0))), (q5, .inl (cI, 24, .inl (fun _ => 0))), (q6, .inl (cI, 72, .inl (fun _ => 0))), (q7, .inl (cI, 3, .inl (fun _ => 0))), (q8, .inl (cI, 4, .inl (litM_73_f))), (q9, .inl (cI, 4, .inl (fun _ => 0))), (q10, .inl (cI, 160, .inl (fun _ => 0))), (q11, .inl (cI, 43, .inl (litM_113_f))), (q12, .inl (cI, 96, .inl (litM_373_f))), (q13, .inl (cI, 200, .inl (fun _ => 0))), (q14, .inl (cI, 200, .inl (fun _ => 0))), (q15, .inl (cI, 6, .inl (fun _ => 0))), (q16, .inl (cI, 73, .inl (fun _ => 0)))] rfl ?_
  refine R_putF 29 0 (ty := .array .int) (v := .ref q16) X hin uw_X5 tyX5 tyX5_ok nmX5 rfl rfl (by decide) rfl wfl_RX5_58 rfl rfl rfl (by decide +kernel) rfl (Nat.le_of_ble_eq_true rfl) dX5_init_977 ?_
  refine R_ws [(h0, .inr (5, [.int 0, .ref q0, .ref q1, .ref q2, .int 0, .ref q3, .int 0, .ref q4, .ref q5, .int 0, .int 0, .int 0, .ref q6, .ref q7, .ref q8, .ref q9, .ref q10, .ref q11, .int 0, .int 0, .int 0, .int 0, .ref q12, .ref q13, .int 0, .int 0, .int 0, .ref q14, .ref q15, .ref q16, .null, .null, .int 0])), (q0, .inl (cI, 6, .inl (fun _ => 0))), (q1, .inl (cI, 6, .inl (fun _ => 0))), (q2, .inl (cI, 72, .inl (fun _ => 0))), (q3, .inl (cI, 160, .inl (fun _ => 0))), (q4, .inl (cI, 1200, .inl (fun _ => 0))), (q5, .inl (cI, 24, .inl (fun _ => 0))), (q6, .inl (cI, 72, .inl (fun _ => 0))), (q7, .inl (cI, 3, .inl (fun _ => 0))), (q8, .inl (cI, 4, .inl (litM_73_f))), (q9, .inl (cI, 4, .inl (fun _ => 0))), (q10, .inl (cI, 160, .inl (fun _ => 0))), (q11, .inl (cI, 43, .inl (litM_113_f))), (q12, .inl (cI, 96, .inl (litM_373_f))), (q13, .inl (cI, 200, .inl (fun _ => 0))), (q14, .inl (cI, 200, .inl (fun _ => 0))), (q15, .inl (cI, 6, .inl (fun _ => 0))), (q16, .inl (cI, 73, .inl (fun _ => 0)))] rfl ?_
  refine R_aload_n X 0 dX5_init_980 rfl rfl ?_
  refine R_iconst (v := (4 : Int32)) X dX5_init_981 (by decide) ?_
  refine R_newi 4 X warr_int (by decide) (by decide) (by decide) (Nat.le_of_ble_eq_true rfl) (Nat.le_of_ble_eq_true rfl) dX5_init_982 (fun q17 => ?_)
  refine R_ws [(h0, .inr (5, [.int 0, .ref q0, .ref q1, .ref q2, .int 0, .ref q3, .int 0, .ref q4, .ref q5, .int 0, .int 0, .int 0, .ref q6, .ref q7, .ref q8, .ref q9, .ref q10, .ref q11, .int 0, .int 0, .int 0, .int 0, .ref q12, .ref q13, .int 0, .int 0, .int 0, .ref q14, .ref q15, .ref q16, .null, .null, .int 0])), (q0, .inl (cI, 6, .inl (fun _ => 0))), (q1, .inl (cI, 6, .inl (fun _ => 0))), (q2, .inl (cI, 72, .inl (fun _ => 0))), (q3, .inl (cI, 160, .inl (fun _ => 0))), (q4, .inl (cI, 1200, .inl (fun _ => 0))), (q5, .inl (cI, 24, .inl (fun _ => 0))), (q6, .inl (cI, 72, .inl (fun _ => 0))), (q7, .inl (cI, 3, .inl (fun _ => 0))), (q8, .inl (cI, 4, .inl (litM_73_f))), (q9, .inl (cI, 4, .inl (fun _ => 0))), (q10, .inl (cI, 160, .inl (fun _ => 0))), (q11, .inl (cI, 43, .inl (litM_113_f))), (q12, .inl (cI, 96, .inl (litM_373_f))), (q13, .inl (cI, 200, .inl (fun _ => 0))), (q14, .inl (cI, 200, .inl (fun _ => 0))), (q15, .inl (cI, 6, .inl (fun _ => 0))), (q16, .inl (cI, 73, .inl (fun _ => 0))), (q17, .inl (cI, 4, .inl (fun _ => 0)))] rfl ?_
  refine R_putF 30 0 (ty := .array .int) (v := .ref q17) X hin uw_X5 tyX5 tyX5_ok nmX5 rfl rfl (by decide) rfl wfl_RX5_61 rfl rfl rfl (by decide +kernel) rfl (Nat.le_of_ble_eq_true rfl) dX5_init_984 ?_
  refine R_ws [(h0, .inr (5, [.int 0, .ref q0, .ref q1, .ref q2, .int 0, .ref q3, .int 0, .ref q4, .ref q5, .int 0, .int 0, .int 0, .ref q6, .ref q7, .ref q8, .ref q9, .ref q10, .ref q11, .int 0, .int 0, .int 0, .int 0, .ref q12, .ref q13, .int 0, .int 0, .int 0, .ref q14, .ref q15, .ref q16, .ref q17, .null, .int 0])), (q0, .inl (cI, 6, .inl (fun _ => 0))), (q1, .inl (cI, 6, .inl (fun _ => 0))), (q2, .inl (cI, 72, .inl (fun _ => 0))), (q3, .inl (cI, 160, .inl (fun _ => 0))), (q4, .inl (cI, 1200, .inl (fun _ => 0))), (q5, .inl (cI, 24, .inl (fun _ => 0))), (q6, .inl (cI, 72, .inl (fun _ => 0))), (q7, .inl (cI, 3, .inl (fun _ => 0))), (q8, .inl (cI, 4, .inl (litM_73_f))), (q9, .inl (cI, 4, .inl (fun _ => 0))), (q10, .inl (cI, 160, .inl (fun _ => 0))), (q11, .inl (cI, 43, .inl (litM_113_f))), (q12, .inl (cI, 96, .inl (litM_373_f))), (q13, .inl (cI, 200, .inl (fun _ => 0))), (q14, .inl (cI, 200, .inl (fun _ => 0))), (q15, .inl (cI, 6, .inl (fun _ => 0))), (q16, .inl (cI, 73, .inl (fun _ => 0))), (q17, .inl (cI, 4, .inl (fun _ => 0)))] rfl ?_
  refine R_aload_n X 0 dX5_init_987 rfl rfl ?_
  refine R_bipush (v := (61 : Int32)) X dX5_init_988 (by decide) ?_
  refine R_newi 61 X warr_int (by decide) (by decide) (by decide) (Nat.le_of_ble_eq_true rfl) (Nat.le_of_ble_eq_true rfl) dX5_init_990 (fun q18 => ?_)
  refine R_ws [(h0, .inr (5, [.int 0, .ref q0, .ref q1, .ref q2, .int 0, .ref q3, .int 0, .ref q4, .ref q5, .int 0, .int 0, .int 0, .ref q6, .ref q7, .ref q8, .ref q9, .ref q10, .ref q11, .int 0, .int 0, .int 0, .int 0, .ref q12, .ref q13, .int 0, .int 0, .int 0, .ref q14, .ref q15, .ref q16, .ref q17, .null, .int 0])), (q0, .inl (cI, 6, .inl (fun _ => 0))), (q1, .inl (cI, 6, .inl (fun _ => 0))), (q2, .inl (cI, 72, .inl (fun _ => 0))), (q3, .inl (cI, 160, .inl (fun _ => 0))), (q4, .inl (cI, 1200, .inl (fun _ => 0))), (q5, .inl (cI, 24, .inl (fun _ => 0))), (q6, .inl (cI, 72, .inl (fun _ => 0))), (q7, .inl (cI, 3, .inl (fun _ => 0))), (q8, .inl (cI, 4, .inl (litM_73_f))), (q9, .inl (cI, 4, .inl (fun _ => 0))), (q10, .inl (cI, 160, .inl (fun _ => 0))), (q11, .inl (cI, 43, .inl (litM_113_f))), (q12, .inl (cI, 96, .inl (litM_373_f))), (q13, .inl (cI, 200, .inl (fun _ => 0))), (q14, .inl (cI, 200, .inl (fun _ => 0))), (q15, .inl (cI, 6, .inl (fun _ => 0))), (q16, .inl (cI, 73, .inl (fun _ => 0))), (q17, .inl (cI, 4, .inl (fun _ => 0))), (q18, .inl (cI, 61, .inl (fun _ => 0)))] rfl ?_
  refine R_putF 31 0 (ty := .array .int) (v := .ref q18) X hin uw_X5 tyX5 tyX5_ok nmX5 rfl rfl (by decide) rfl wfl_RX5_64 rfl rfl rfl (by decide +kernel) rfl (Nat.le_of_ble_eq_true rfl) dX5_init_992 ?_
  refine R_ws [(h0, .inr (5, [.int 0, .ref q0, .ref q1, .ref q2, .int 0, .ref q3, .int 0, .ref q4, .ref q5, .int 0, .int 0, .int 0, .ref q6, .ref q7, .ref q8, .ref q9, .ref q10, .ref q11, .int 0, .int 0, .int 0, .int 0, .ref q12, .ref q13, .int 0, .int 0, .int 0, .ref q14, .ref q15, .ref q16, .ref q17, .ref q18, .int 0])), (q0, .inl (cI, 6, .inl (fun _ => 0))), (q1, .inl (cI, 6, .inl (fun _ => 0))), (q2, .inl (cI, 72, .inl (fun _ => 0))), (q3, .inl (cI, 160, .inl (fun _ => 0))), (q4, .inl (cI, 1200, .inl (fun _ => 0))), (q5, .inl (cI, 24, .inl (fun _ => 0))), (q6, .inl (cI, 72, .inl (fun _ => 0))), (q7, .inl (cI, 3, .inl (fun _ => 0))), (q8, .inl (cI, 4, .inl (litM_73_f))), (q9, .inl (cI, 4, .inl (fun _ => 0))), (q10, .inl (cI, 160, .inl (fun _ => 0))), (q11, .inl (cI, 43, .inl (litM_113_f))), (q12, .inl (cI, 96, .inl (litM_373_f))), (q13, .inl (cI, 200, .inl (fun _ => 0))), (q14, .inl (cI, 200, .inl (fun _ => 0))), (q15, .inl (cI, 6, .inl (fun _ => 0))), (q16, .inl (cI, 73, .inl (fun _ => 0))), (q17, .inl (cI, 4, .inl (fun _ => 0))), (q18, .inl (cI, 61, .inl (fun _ => 0)))] rfl ?_
  subst hcI
  have hRX := XR_R X
  have X1 : JM (E.1, E.2.1, E.2.2.1, VM (gM0 G0 h0 (fun k => [0, q0, q1, q2, 0, q3, 0, q4, q5, 0, 0, 0, q6, q7, q8, q9, q10, q11, 0, 0, 0, 0, q12, q13, 0, 0, 0, q14, q15, q16, q17, q18, 0].getD k 0)), (19, 2394, 19, 2394)) 2 cX5_init RX5 none 8 400 (gM0 G0 h0 (fun k => [0, q0, q1, q2, 0, q3, 0, q4, q5, 0, 0, 0, q6, q7, q8, q9, q10, q11, 0, 0, 0, 0, q12, q13, 0, 0, 0, q14, q15, q16, q17, q18, 0].getD k 0)) := by
    refine ⟨⟨X.1.1, ?_, X.1.2.2.1, X.1.2.2.2.1, X.1.2.2.2.2.1, hRX, ⟨Nat.le_refl _, Nat.le_refl _⟩, VM_ok _, trivial⟩, e1, rfl⟩
    have hK : va_K (jV E).1 vwCl (jV E).2.1 (jS E) := X.1.2.1
    rw [e2, hD] at hK
    exact hK.sub [0] (by show [V.2.1[0]?].filterMap id = _ ; rw [hI]; rfl)
  intro H locs ls hP hDD hS hl
  rw [e2, hD] at hP
  have J := j_X5_init X1 (Fi := fun _ σ' => MQ (jB E) (RPost (jV E) (jA E) (fun _ : (Nat → Nat) × ST => none) (fun x => x.2 = σ') (fun x => wM (gM0 G0 h0 x.1) x.2)) (jG E) (jS E) 19 2394 (jA E)) (fun σ H locs ls lv1 hP1 hD1 hS1 hl1 => R_vret (E := E) (V := jV E) (val := fun _ : (Nat → Nat) × ST => none) (post := fun x => x.2 = σ) (w1 := fun x => wM (gM0 G0 h0 x.1) x.2) (x := (fun k => [0, q0, q1, q2, 0, q3, 0, q4, q5, 0, 0, 0, q6, q7, q8, q9, q10, q11, 0, 0, 0, 0, q12, q13, 0, 0, 0, q14, q15, q16, q17, q18, 0].getD k 0, σ)) rfl rfl rfl rfl X dX5_init_1032 H locs ls (by rw [e2, hD]; exact hP1) hD1 hS1 hl1) sM0
  rw [e2] at J
  exact J () σe hr H locs ls hP hDD hS hl
