section RMore
variable {E : JE} {nL F L MC MS : Nat} {cI : ClassId} {cc : ByteArray} {own : String} {ret : Option FieldType} {Q : State → Prop} {lv : List (Nat × Value)} {pc : Nat} {st : List Value} {ws : va_W} {kc ks : Nat}
theorem R_mmax {index : Nat} {x y : Int32} (X : XR E nL cc own ret F L MC MS cI) (hlink : Cond.methodLink own index Lib.Math.max.name ∈ lw_ok) (hF : 1 ≤ F) (hL : (st.map fun v => v.category).sum + 13 ≤ L) (hfit : kc ≤ MC ∧ ks ≤ MS) (hdg : decode cc pc = .ok (.invokestatic index, 3)) (kk : JR E nL Q lv (pc + 3) (.int (mxI x y) :: st) ws kc ks) : JR E nL Q lv pc (.int y :: .int x :: st) ws kc ks := by
  intro H locs ls hP hD hS hl
  have hR := XR_R X
  exact va_mmax (rxx X) (rxb X) (X.1.1.2.2.1.trans hl.1.symm) (rxo X) (rxt X _ hlink) (rxt X _ wst_Lib_Math_max) (rxt X _ wini_RJ9) (rxt X _ wco_Lib_Math_max) (by rw [hR]; exact hF) (by rw [hR]; exact hL) (by rw [hR]; exact hfit.1) (by rw [hR]; exact hfit.2) hdg (kk H locs ls hP hD hS hl)
theorem R_mmin {index : Nat} {x y : Int32} (X : XR E nL cc own ret F L MC MS cI) (hlink : Cond.methodLink own index Lib.Math.min.name ∈ lw_ok) (hF : 1 ≤ F) (hL : (st.map fun v => v.category).sum + 13 ≤ L) (hfit : kc ≤ MC ∧ ks ≤ MS) (hdg : decode cc pc = .ok (.invokestatic index, 3)) (kk : JR E nL Q lv (pc + 3) (.int (mnI x y) :: st) ws kc ks) : JR E nL Q lv pc (.int y :: .int x :: st) ws kc ks := by
  intro H locs ls hP hD hS hl
  have hR := XR_R X
  exact va_mmin (rxx X) (rxb X) (X.1.1.2.2.1.trans hl.1.symm) (rxo X) (rxt X _ hlink) (rxt X _ wst_Lib_Math_min) (rxt X _ wini_RJ9) (rxt X _ wco_Lib_Math_min) (by rw [hR]; exact hF) (by rw [hR]; exact hL) (by rw [hR]; exact hfit.1) (by rw [hR]; exact hfit.2) hdg (kk H locs ls hP hD hS hl)
theorem R_acp (q1 q2 : Nat) {n1 n2 a1 a2 index : Nat} {f g : Nat → Int32} {sp dp n : Int32} (X : XR E nL cc own ret F L MC MS cI) (ha1 : ws[q1]? = some (a1, .inl (cI, n1, .inl f))) (ha2 : ws[q2]? = some (a2, .inl (cI, n2, .inl g))) (h1 : ¬ sp < 0) (h2 : ¬ dp < 0) (h3 : ¬ n < 0) (h4 : sp.toNatClampNeg + n.toNatClampNeg ≤ n1) (h5 : dp.toNatClampNeg + n.toNatClampNeg ≤ n2) (hlink : Cond.methodLink own index arraycopyName ∈ lw_ok) (hF : 1 ≤ F) (hL : (st.map fun v => v.category).sum + (nativeFrameWords "java/lang/System" "arraycopy" 5 + 11) ≤ L) (hdg : decode cc pc = .ok (.invokestatic index, 3)) (kk : JR E nL Q lv (pc + 3) st (ws.set q2 (a2, .inl (cI, n2, .inl (va_cpy f g sp.toNatClampNeg dp.toNatClampNeg n.toNatClampNeg)))) kc ks) : JR E nL Q lv pc (.int n :: .int dp :: .ref a2 :: .int sp :: .ref a1 :: st) ws kc ks := by
  intro H locs ls hP hD hS hl
  have hR := XR_R X
  exact va_copyi (rxx X) (rxb X) (X.1.1.2.2.1.trans hl.1.symm) (rxo X) (rxt X _ hlink) (rxt X _ wnat_acp) (rxt X _ wst_acp) (rxt X _ wini_RJ10) X.1.2.1 hP hD hS q1 q2 0 0 ha1 ha2 X.2.2 X.2.2 (ty := .int) rfl h1 h2 h3 h4 h5 (fun _ _ => rfl) (by rw [hR]; exact hF) (by rw [hR]; exact hL) hdg (fun H1 locs1 hP1 hD1 hS1 => kk H1 locs1 ls hP1 hD1 hS1 hl)
theorem R_pick (isn : List Nat) (ws' : va_W) (hs : isn.map (fun i => ws[i]?) = ws'.map some) (hn : va_nd isn = true) (kk : JR E nL Q lv pc st ws' kc ks) : JR E nL Q lv pc st ws kc ks := by
  intro H locs ls hP hD hS hl
  refine kk H locs ls ?_ (hD.sub isn hn hs) hS hl
  intro k q hk
  have h1 : (isn.map (fun i => ws[i]?))[k]? = some (some q) := by rw [hs, List.getElem?_map, hk]; rfl
  rw [List.getElem?_map] at h1
  cases hi : isn[k]? with
  | none => rw [hi] at h1; cases h1
  | some i => rw [hi] at h1; exact hP i q (Option.some.inj h1)
end RMore
theorem mxmn (z : Int32) : ¬ mxI 0 (mnI z 160) < 0 ∧ (mxI 0 (mnI z 160)).toNatClampNeg ≤ 160 := by
  unfold mxI mnI
  by_cases h1 : (160 : Int32) < z
  · rw [if_pos h1]; decide
  · rw [if_neg h1]
    by_cases h2 : (0 : Int32) < z
    · rw [if_pos h2]
      have h3 : z.toInt ≤ 160 := by
        have := Int32.not_lt.mp h1
        simpa using Int32.le_iff_toInt_le.mp this
      have h4 : (0 : Int) < z.toInt := by simpa using Int32.lt_iff_toInt_lt.mp h2
      refine ⟨fun h => ?_, ?_⟩
      · have : z.toInt < 0 := by simpa using Int32.lt_iff_toInt_lt.mp h
        omega
      · show z.toInt.toNat ≤ 160
        omega
    · rw [if_neg h2]; decide
/-- the size of a text's code -/
def txZ (len : Int32) : Int32 := mxI 0 (mnI len 160)
def txC (f : Nat → Int32) (len : Int32) : Nat → Int32 := va_cpy f (fun _ => 0) (0 : Int32).toNatClampNeg (0 : Int32).toNatClampNeg (txZ len).toNatClampNeg
def txE (g : Nat → Int32) (len : Int32) : Nat → Int32 := upd (upd (upd (fun _ => 0) (0 : Int32).toNatClampNeg (mnI (g (0 : Int32).toNatClampNeg) (txZ len))) (1 : Int32).toNatClampNeg (mnI (g (1 : Int32).toNatClampNeg) (txZ len))) (2 : Int32).toNatClampNeg (mnI (g (2 : Int32).toNatClampNeg) (txZ len))
def dX3 : List Value := [.null, .null]
def wX3 (cI : ClassId) (t a1 a3 : Nat) (f g : Nat → Int32) (len : Int32) (q : Nat × Nat) : va_W := [(t, .inr (3, [.ref q.1, .ref q.2])), (a1, .inl (cI, 160, .inl f)), (a3, .inl (cI, 3, .inl g)), (q.2, .inl (cI, 3, .inl (txE g len))), (q.1, .inl (cI, (txZ len).toNatClampNeg, .inl (txC f len)))]
set_option maxRecDepth 100000 in
set_option maxHeartbeats 4000000 in
theorem i_X3_init {V : JV} {cI : ClassId} (hV : VOK V) (hI : V.2.1[0]? = some (cI, .int)) (l : Launch) (t a1 a3 : Nat) (f g : Nat → Int32) (len : Int32) : RMet V l yX3_init cX3_init 6 none 1 60 2 163 [.ref t, .ref a1, .int len, .ref a3] [(t, .inr (3, dX3)), (a1, .inl (cI, 160, .inl f)), (a3, .inl (cI, 3, .inl g))] (fun _ : Nat × Nat => none) (fun _ => True) (wX3 cI t a1 a3 f g len) := by
  refine R_of hV hI (by decide +kernel) (Nat.le_of_ble_eq_true rfl) (fun E e1 e2 X hin => ?_)
  refine R_ws [(t, .inr (3, [.null, .null])), (a1, .inl (cI, 160, .inl f)), (a3, .inl (cI, 3, .inl g))] rfl ?_
  refine R_aload_n X 0 dX3_init_0 rfl rfl ?_
  refine R_objI X wob_RX3_3 wob_in wob_code (Nat.le_of_ble_eq_true rfl) (Nat.le_of_ble_eq_true rfl) dX3_init_1 ?_
  refine R_aload_n X 0 dX3_init_4 rfl rfl ?_
  refine R_iconst (v := (3 : Int32)) X dX3_init_5 (by decide) ?_
  refine R_newi 3 X warr_int (by decide) (by decide) (by decide) (Nat.le_of_ble_eq_true rfl) (Nat.le_of_ble_eq_true rfl) dX3_init_6 (fun q0 => ?_)
  refine R_ws [(t, .inr (3, [.null, .null])), (a1, .inl (cI, 160, .inl f)), (a3, .inl (cI, 3, .inl g)), (q0, .inl (cI, 3, .inl (fun _ => 0)))] rfl ?_
  refine R_putF 1 0 (ty := .array .int) (v := .ref q0) X hin uw_X3 tyX3 tyX3_ok nmX3 rfl rfl (by decide) rfl wfl_RX3_9 rfl rfl rfl (by decide +kernel) rfl (Nat.le_of_ble_eq_true rfl) dX3_init_8 ?_
  refine R_ws [(t, .inr (3, [.null, .ref q0])), (a1, .inl (cI, 160, .inl f)), (a3, .inl (cI, 3, .inl g)), (q0, .inl (cI, 3, .inl (fun _ => 0)))] rfl ?_
  refine R_iconst (v := (0 : Int32)) X dX3_init_11 (by decide) ?_
  refine R_iload_n X 2 dX3_init_12 rfl rfl ?_
  refine R_aload_n X 1 dX3_init_13 rfl rfl ?_
  refine R_alen 1 (v := (160 : Int32)) X rfl (by decide) dX3_init_14 ?_
  refine R_mmin X wml_RX3_15 (Nat.le_of_ble_eq_true rfl) (Nat.le_of_ble_eq_true rfl) ⟨(Nat.le_of_ble_eq_true rfl), (Nat.le_of_ble_eq_true rfl)⟩ dX3_init_15 ?_
  refine R_mmax X wml_RX3_21 (Nat.le_of_ble_eq_true rfl) (Nat.le_of_ble_eq_true rfl) ⟨(Nat.le_of_ble_eq_true rfl), (Nat.le_of_ble_eq_true rfl)⟩ dX3_init_18 ?_
  refine R_istore [(4, .int (txZ len)), (0, .ref t), (1, .ref a1), (2, .int len), (3, .ref a3)] X dX3_init_21 (by decide) rfl ?_
  refine R_aload_n X 1 dX3_init_23 rfl rfl ?_
  refine R_iload X 0 dX3_init_24 rfl ?_
  refine R_newi (txZ len).toNatClampNeg X warr_int (mxmn len).1 rfl (by have := (mxmn len).2; show (txZ len).toNatClampNeg * 4 ≤ _; unfold txZ; omega) (Nat.le_of_ble_eq_true rfl) (by have := (mxmn len).2; show 0 + 3 + (txZ len).toNatClampNeg ≤ 163; unfold txZ; omega) dX3_init_26 (fun q1 => ?_)
  refine R_ws [(t, .inr (3, [.null, .ref q0])), (a1, .inl (cI, 160, .inl f)), (a3, .inl (cI, 3, .inl g)), (q0, .inl (cI, 3, .inl (fun _ => 0))), (q1, .inl (cI, (txZ len).toNatClampNeg, .inl (fun _ => 0)))] rfl ?_
  refine R_wid (kc' := 2) (ks' := 163) (Nat.le_of_ble_eq_true rfl) (by have := (mxmn len).2; show 0 + 3 + (txZ len).toNatClampNeg ≤ 163; unfold txZ; omega) ?_
  refine R_putF 0 0 (ty := .array .int) (v := .ref q1) X hin uw_X3 tyX3 tyX3_ok nmX3 rfl rfl (by decide) rfl wfl_RX3_24 rfl rfl rfl (by decide +kernel) rfl (Nat.le_of_ble_eq_true rfl) dX3_init_28 ?_
  refine R_ws [(t, .inr (3, [.ref q1, .ref q0])), (a1, .inl (cI, 160, .inl f)), (a3, .inl (cI, 3, .inl g)), (q0, .inl (cI, 3, .inl (fun _ => 0))), (q1, .inl (cI, (txZ len).toNatClampNeg, .inl (fun _ => 0)))] rfl ?_
  refine R_aload_n X 2 dX3_init_31 rfl rfl ?_
  refine R_iconst (v := (0 : Int32)) X dX3_init_32 (by decide) ?_
  refine R_aload_n X 1 dX3_init_33 rfl rfl ?_
  refine R_get 0 0 X uw_X3 rfl rfl (by decide) rfl wfl_RX3_24 rfl dX3_init_34 ?_
  refine R_iconst (v := (0 : Int32)) X dX3_init_37 (by decide) ?_
  refine R_iload X 0 dX3_init_38 rfl ?_
  refine R_acp 1 4 X rfl rfl (by decide) (by decide) (mxmn len).1 (by have := (mxmn len).2; show 0 + (txZ len).toNatClampNeg ≤ 160; unfold txZ; omega) (by show 0 + (txZ len).toNatClampNeg ≤ _; omega) wml_RX3_27 (Nat.le_of_ble_eq_true rfl) (Nat.le_of_ble_eq_true rfl) dX3_init_40 ?_
  refine R_ws [(t, .inr (3, [.ref q1, .ref q0])), (a1, .inl (cI, 160, .inl f)), (a3, .inl (cI, 3, .inl g)), (q0, .inl (cI, 3, .inl (fun _ => 0))), (q1, .inl (cI, (txZ len).toNatClampNeg, .inl (txC f len)))] rfl ?_
  refine R_iconst (v := (0 : Int32)) X dX3_init_43 (by decide) ?_
  refine R_istore [(5, .int (0 : Int32)), (4, .int (txZ len)), (0, .ref t), (1, .ref a1), (2, .int len), (3, .ref a3)] X dX3_init_44 (by decide) rfl ?_
  refine R_iload X 0 dX3_init_46 rfl ?_
  refine R_iconst (v := (3 : Int32)) X dX3_init_48 (by decide) ?_
  refine R_icmp_ge (tgt := 81) X dX3_init_49 (by decide) (fun h => absurd h (by decide)) (fun _ => ?_)
  refine R_iload X 0 dX3_init_52 rfl ?_
  refine R_aload_n X 5 dX3_init_54 rfl rfl ?_
  refine R_alen 2 (v := (3 : Int32)) X rfl (by decide) dX3_init_55 ?_
  refine R_icmp_ge (tgt := 81) X dX3_init_56 (by decide) (fun h => absurd h (by decide)) (fun _ => ?_)
  refine R_aload_n X 2 dX3_init_59 rfl rfl ?_
  refine R_get 1 0 X uw_X3 rfl rfl (by decide) rfl wfl_RX3_9 rfl dX3_init_60 ?_
  refine R_iload X 0 dX3_init_63 rfl ?_
  refine R_aload_n X 5 dX3_init_65 rfl rfl ?_
  refine R_iload X 0 dX3_init_66 rfl ?_
  refine R_iald 2 X rfl (vp_lit (by decide)) dX3_init_68 ?_
  refine R_iload X 1 dX3_init_69 rfl ?_
  refine R_mmin X wml_RX3_15 (Nat.le_of_ble_eq_true rfl) (Nat.le_of_ble_eq_true rfl) ⟨(Nat.le_of_ble_eq_true rfl), (Nat.le_of_ble_eq_true rfl)⟩ dX3_init_71 ?_
  refine R_iast 3 X rfl (vp_lit (by decide)) dX3_init_74 ?_
  refine R_ws [(t, .inr (3, [.ref q1, .ref q0])), (a1, .inl (cI, 160, .inl f)), (a3, .inl (cI, 3, .inl g)), (q0, .inl (cI, 3, .inl (upd (fun _ => 0) (0 : Int32).toNatClampNeg (mnI (g (0 : Int32).toNatClampNeg) (txZ len))))), (q1, .inl (cI, (txZ len).toNatClampNeg, .inl (txC f len)))] rfl ?_
  refine R_iinc (v := (1 : Int32)) [(5, .int (1 : Int32)), (4, .int (txZ len)), (0, .ref t), (1, .ref a1), (2, .int len), (3, .ref a3)] X 0 dX3_init_75 rfl (by decide) (by decide) rfl ?_
  refine R_goto (tgt := 46) X dX3_init_78 (by decide) ?_
  refine R_iload X 0 dX3_init_46 rfl ?_
  refine R_iconst (v := (3 : Int32)) X dX3_init_48 (by decide) ?_
  refine R_icmp_ge (tgt := 81) X dX3_init_49 (by decide) (fun h => absurd h (by decide)) (fun _ => ?_)
  refine R_iload X 0 dX3_init_52 rfl ?_
  refine R_aload_n X 5 dX3_init_54 rfl rfl ?_
  refine R_alen 2 (v := (3 : Int32)) X rfl (by decide) dX3_init_55 ?_
  refine R_icmp_ge (tgt := 81) X dX3_init_56 (by decide) (fun h => absurd h (by decide)) (fun _ => ?_)
  refine R_aload_n X 2 dX3_init_59 rfl rfl ?_
  refine R_get 1 0 X uw_X3 rfl rfl (by decide) rfl wfl_RX3_9 rfl dX3_init_60 ?_
  refine R_iload X 0 dX3_init_63 rfl ?_
  refine R_aload_n X 5 dX3_init_65 rfl rfl ?_
  refine R_iload X 0 dX3_init_66 rfl ?_
  refine R_iald 2 X rfl (vp_lit (by decide)) dX3_init_68 ?_
  refine R_iload X 1 dX3_init_69 rfl ?_
  refine R_mmin X wml_RX3_15 (Nat.le_of_ble_eq_true rfl) (Nat.le_of_ble_eq_true rfl) ⟨(Nat.le_of_ble_eq_true rfl), (Nat.le_of_ble_eq_true rfl)⟩ dX3_init_71 ?_
  refine R_iast 3 X rfl (vp_lit (by decide)) dX3_init_74 ?_
  refine R_ws [(t, .inr (3, [.ref q1, .ref q0])), (a1, .inl (cI, 160, .inl f)), (a3, .inl (cI, 3, .inl g)), (q0, .inl (cI, 3, .inl (upd (upd (fun _ => 0) (0 : Int32).toNatClampNeg (mnI (g (0 : Int32).toNatClampNeg) (txZ len))) (1 : Int32).toNatClampNeg (mnI (g (1 : Int32).toNatClampNeg) (txZ len))))), (q1, .inl (cI, (txZ len).toNatClampNeg, .inl (txC f len)))] rfl ?_
  refine R_iinc (v := (2 : Int32)) [(5, .int (2 : Int32)), (4, .int (txZ len)), (0, .ref t), (1, .ref a1), (2, .int len), (3, .ref a3)] X 0 dX3_init_75 rfl (by decide) (by decide) rfl ?_
  refine R_goto (tgt := 46) X dX3_init_78 (by decide) ?_
  refine R_iload X 0 dX3_init_46 rfl ?_
  refine R_iconst (v := (3 : Int32)) X dX3_init_48 (by decide) ?_
  refine R_icmp_ge (tgt := 81) X dX3_init_49 (by decide) (fun h => absurd h (by decide)) (fun _ => ?_)
  refine R_iload X 0 dX3_init_52 rfl ?_
  refine R_aload_n X 5 dX3_init_54 rfl rfl ?_
  refine R_alen 2 (v := (3 : Int32)) X rfl (by decide) dX3_init_55 ?_
  refine R_icmp_ge (tgt := 81) X dX3_init_56 (by decide) (fun h => absurd h (by decide)) (fun _ => ?_)
  refine R_aload_n X 2 dX3_init_59 rfl rfl ?_
  refine R_get 1 0 X uw_X3 rfl rfl (by decide) rfl wfl_RX3_9 rfl dX3_init_60 ?_
  refine R_iload X 0 dX3_init_63 rfl ?_
  refine R_aload_n X 5 dX3_init_65 rfl rfl ?_
  refine R_iload X 0 dX3_init_66 rfl ?_
  refine R_iald 2 X rfl (vp_lit (by decide)) dX3_init_68 ?_
  refine R_iload X 1 dX3_init_69 rfl ?_
  refine R_mmin X wml_RX3_15 (Nat.le_of_ble_eq_true rfl) (Nat.le_of_ble_eq_true rfl) ⟨(Nat.le_of_ble_eq_true rfl), (Nat.le_of_ble_eq_true rfl)⟩ dX3_init_71 ?_
  refine R_iast 3 X rfl (vp_lit (by decide)) dX3_init_74 ?_
  refine R_ws [(t, .inr (3, [.ref q1, .ref q0])), (a1, .inl (cI, 160, .inl f)), (a3, .inl (cI, 3, .inl g)), (q0, .inl (cI, 3, .inl (upd (upd (upd (fun _ => 0) (0 : Int32).toNatClampNeg (mnI (g (0 : Int32).toNatClampNeg) (txZ len))) (1 : Int32).toNatClampNeg (mnI (g (1 : Int32).toNatClampNeg) (txZ len))) (2 : Int32).toNatClampNeg (mnI (g (2 : Int32).toNatClampNeg) (txZ len))))), (q1, .inl (cI, (txZ len).toNatClampNeg, .inl (txC f len)))] rfl ?_
  refine R_iinc (v := (3 : Int32)) [(5, .int (3 : Int32)), (4, .int (txZ len)), (0, .ref t), (1, .ref a1), (2, .int len), (3, .ref a3)] X 0 dX3_init_75 rfl (by decide) (by decide) rfl ?_
  refine R_goto (tgt := 46) X dX3_init_78 (by decide) ?_
  refine R_iload X 0 dX3_init_46 rfl ?_
  refine R_iconst (v := (3 : Int32)) X dX3_init_48 (by decide) ?_
  refine R_icmp_ge (tgt := 81) X dX3_init_49 (by decide) (fun _ => ?_) (fun h => absurd (by decide) h)
  exact R_vret (q1, q0) rfl trivial rfl e2 X dX3_init_81
section RAret
variable {E : JE} {nL F L MC MS : Nat} {cI : ClassId} {cc : ByteArray} {own : String} {lv : List (Nat × Value)} {pc : Nat} {ws : va_W} {S : Type} {val : S → Option Value} {post : S → Prop} {w1 : S → va_W} {V : JV}
theorem R_aret {C : String} {a : Nat} (x : S) (hval : val x = some (.ref a)) (hp : post x) (hw : ws = w1 x) (hV : jV E = V) (X : XR E nL cc own (some (.object C)) F L MC MS cI) (hdg : decode cc pc = .ok (.areturn, 1)) : JR E nL (MQ (jB E) (RPost V (jA E) val post w1) (jG E) (jS E) MC MS (jA E)) lv pc [.ref a] ws MC MS := by
  subst hV
  intro H locs ls hP hD hS hl
  subst hw
  exact W.aret (rxx X) (rxb X) X.1.2.2.2.1 (Or.inl ⟨_, rfl⟩) (Or.inr ⟨_, rfl⟩) (fun t ht hW => ⟨⟨x, by rw [hval], hp, by rw [ht]; exact hP, va_K.moved hW.alike X.1.2.1, hD⟩, hS.F ht⟩) hS.2.2 hdg X.1.2.2.2.2.1
end RAret
def wTp (cI : ClassId) (h0 b0 a1 a3 : Nat) (z1 z2 z3 z4 z5 len : Int32) (f g : Nat → Int32) : va_W := [(h0, .inr (2, [.ref b0, .int z1, .int z2, .int z3, .int z4, .int z5, .ref a1, .int len, .ref a3])), (a1, .inl (cI, 160, .inl f)), (a3, .inl (cI, 3, .inl g))]
/-- the new text's cells -/
def wTx (cI : ClassId) (f g : Nat → Int32) (len : Int32) (q : Nat × Nat × Nat) : va_W := [(q.1, .inr (3, [.ref q.2.1, .ref q.2.2])), (q.2.1, .inl (cI, (txZ len).toNatClampNeg, .inl (txC f len))), (q.2.2, .inl (cI, 3, .inl (txE g len)))]
set_option maxRecDepth 100000 in
set_option maxHeartbeats 4000000 in
theorem i_X2_asText {V : JV} {cI : ClassId} (hV : VOK V) (hI : V.2.1[0]? = some (cI, .int)) (l : Launch) (h0 b0 a1 a3 : Nat) (z1 z2 z3 z4 z5 len : Int32) (f g : Nat → Int32) : RMet V l yX2_asText cX2_asText 1 (some (.object RX3)) 2 120 3 165 [.ref h0] (wTp cI h0 b0 a1 a3 z1 z2 z3 z4 z5 len f g) (fun q : Nat × Nat × Nat => some (.ref q.1)) (fun _ => True) (fun q => wTp cI h0 b0 a1 a3 z1 z2 z3 z4 z5 len f g ++ wTx cI f g len q) := by
  refine R_of hV hI (by decide +kernel) (Nat.le_of_ble_eq_true rfl) (fun E e1 e2 X hin => ?_)
  refine R_new (ci := 3) dX3 X uw_X3 tyX3 tyX3_ok wcll_RX2_25 winst_RX3 wini_RX3 rfl (fun j hj => by rcases (show j = 0 ∨ j = 1 by omega) with rfl | rfl <;> rfl) (Nat.le_of_ble_eq_true rfl) (Nat.le_of_ble_eq_true rfl) dX2_asText_0 (fun t => ?_)
  refine R_ws [(h0, .inr (2, [.ref b0, .int z1, .int z2, .int z3, .int z4, .int z5, .ref a1, .int len, .ref a3])), (a1, .inl (cI, 160, .inl f)), (a3, .inl (cI, 3, .inl g)), (t, .inr (3, dX3))] rfl ?_
  refine R_dup X dX2_asText_3 rfl ?_
  refine R_aload_n X 0 dX2_asText_4 rfl rfl ?_
  refine R_get 6 0 X uw_X2 rfl rfl (by decide) rfl wfl_RX2_15 rfl dX2_asText_5 ?_
  refine R_aload_n X 0 dX2_asText_8 rfl rfl ?_
  refine R_get 7 0 X uw_X2 rfl rfl (by decide) rfl wfl_RX2_27 rfl dX2_asText_9 ?_
  refine R_aload_n X 0 dX2_asText_12 rfl rfl ?_
  refine R_get 8 0 X uw_X2 rfl rfl (by decide) rfl wfl_RX2_18 rfl dX2_asText_13 ?_
  have hM := i_X3_init (cI := cI) hV hI l t a1 a3 f g len
  rw [← e1, ← e2] at hM
  refine R_cI (As := [.ref a1, .int len, .ref a3]) (wr := [(h0, .inr (2, [.ref b0, .int z1, .int z2, .int z3, .int z4, .int z5, .ref a1, .int len, .ref a3]))]) (st := [.ref t]) [3, 1, 2] [0] X hM rfl rfl rfl rfl (by decide) rfl wi_X3_init rfl win_X3_init wml_RX2_30 ⟨(Nat.le_of_ble_eq_true rfl), (Nat.le_of_ble_eq_true rfl)⟩ ⟨(Nat.le_of_ble_eq_true rfl), (Nat.le_of_ble_eq_true rfl)⟩ rfl (Nat.le_of_ble_eq_true rfl) dX2_asText_16 (fun q _ => ?_)
  refine R_pick [0, 2, 3, 1, 5, 4] [(h0, .inr (2, [.ref b0, .int z1, .int z2, .int z3, .int z4, .int z5, .ref a1, .int len, .ref a3])), (a1, .inl (cI, 160, .inl f)), (a3, .inl (cI, 3, .inl g)), (t, .inr (3, [.ref q.1, .ref q.2])), (q.1, .inl (cI, (txZ len).toNatClampNeg, .inl (txC f len))), (q.2, .inl (cI, 3, .inl (txE g len)))] rfl (by decide) ?_
  exact R_aret (t, q.1, q.2) rfl trivial rfl e2 X dX2_asText_19
