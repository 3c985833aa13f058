/-! THE LAW'S LOOP -/
theorem i32_sub {a b : Int32} (h1 : -2147483648 ≤ a.toInt - b.toInt) (h2 : a.toInt - b.toInt < 2147483648) : (a - b).toInt = a.toInt - b.toInt := by
  rw [Int32.toInt_sub]
  exact Int.bmod_eq_of_le (by omega) (by omega)
/-- what the pure part owes, all of it -/
def PSall (Rel : TX → ST → ST → Prop) : Prop := PS_0 Rel ∧ PS_1 Rel ∧ PS_2 Rel ∧ PS_3 Rel ∧ PS_4 Rel ∧ PS_5 Rel ∧ PS_6 Rel ∧ PS_7 Rel ∧ PS_8 Rel ∧ PS_9 Rel ∧ PS_10 Rel ∧ PS_11 Rel ∧ PS_12 Rel ∧ PS_13 Rel ∧ PS_14 Rel ∧ PS_15 Rel ∧ PS_16 Rel ∧ PS_17 Rel ∧ PS_18 Rel ∧ PS_19 Rel ∧ PS_20 Rel ∧ PS_21 Rel ∧ PS_22 Rel ∧ PS_23 Rel ∧ PS_24 Rel ∧ PS_25 Rel ∧ PS_26 Rel ∧ PS_27 Rel ∧ PS_28 Rel ∧ PS_29 Rel ∧ PS_30 Rel ∧ PS_31 Rel ∧ PS_32 Rel ∧ PS_33 Rel ∧ PS_34 Rel ∧ PS_35 Rel
abbrev lE (p : Program) (l : Launch) (e : Env) (s : State) (m : MethodId) (b : Nat) (below : List Frame) (meth : Method) (c : Code) (V : JV) : JE := ((p, l, e, room_1, s, m), (#[Value.ref b], below, meth, c), (fun q => s.heap.size ≤ q), V, (0, 0, 600000, 7302250))
section LLoop
variable {p : Program} {l : Launch} {e : Env} {s : State} {m : MethodId} {b : Nat} {below : List Frame} {meth : Method} {c : Code} {V : JV} {Rel : TX → ST → ST → Prop} {G0 GM : JG} {W0 : ST → va_W} {L : Nat} {xs : Nat → Int32}
theorem law_end (X : XR (lE p l e s m b below meth c V) 4 cL_law RL (some .boolean) 2048 84000 600000 7302250 (gI G0)) {lv : List (Nat × Value)} {ws : va_W} {kc ks : Nat} (h1 : kc ≤ 600000) (h2 : ks ≤ 7302250) : JR (lE p l e s m b below meth c V) 4 (lw_Z below #[Value.ref b] s) lv 1530 [] ws kc ks := by
  refine R_iconst (v := (1 : Int32)) X dL_law_1530 (by decide) ?_
  intro H locs ls hP hD hS hl
  refine W.widen h1 h2 ?_
  refine va_forget (fun q hq => hS.2.2 q hq) ?_
  exact lw_ret X.1.1.1 X.1.1.2.1 X.1.2.2.2.1 X.1.2.2.2.2.1 dL_law_1531
theorem law_case (hS : PSall Rel) (X : XR (lE p l e s m b below meth c V) 4 cL_law RL (some .boolean) 2048 84000 600000 7302250 (gI G0)) (e1 : l = G0.1) (e2 : V = VI G0 W0) (gm : LGp G0 GM) (hX : va_X b L xs s s.heap) (hbl : b < s.heap.size) (hL : L ≤ 3584) {j : Nat} (hj : 7 * j + 7 ≤ L) (G : JG) (σc σm : ST) (g : LGp G0 G) (hr : Rel (gT G) σc σm)
    (kk : ∀ (G1 : JG) (c1 m1 : ST), LGp G0 G1 → gO G1 0 = gO G 0 → Rel (gT G1) c1 m1 → JR (lE p l e s m b below meth c V) 4 (lw_Z below #[Value.ref b] s) [(0, .ref b), (1, .ref (gO G 0)), (2, .ref (gO GM 50)), (3, .int (nI (7 * j)))] 1524 [] (wC G1 c1 ++ wM GM m1) (67 + 3 * j) (3789 + 165 * j)) :
    ∀ v : Int32, JR (lE p l e s m b below meth c V) 4 (lw_Z below #[Value.ref b] s) [(0, .ref b), (1, .ref (gO G 0)), (2, .ref (gO GM 50)), (3, .int (nI (7 * j)))] 33 [.int v] (wC G σc ++ wM GM σm) (64 + 3 * j) (3624 + 165 * j) := by
  intro v
  have hbA : ¬ (fun q : Nat => s.heap.size ≤ q) b := Nat.not_le.mpr hbl
  have hfit : 64 + 3 * j ≤ 600000 ∧ 3624 + 165 * j ≤ 7302250 := by omega
  have kk0 : ∀ (c1 m1 : ST), Rel (gT G) c1 m1 → JR (lE p l e s m b below meth c V) 4 (lw_Z below #[Value.ref b] s) [(0, .ref b), (1, .ref (gO G 0)), (2, .ref (gO GM 50)), (3, .int (nI (7 * j)))] 1524 [] (wC G c1 ++ wM GM m1) (64 + 3 * j) (3624 + 165 * j) := fun c1 m1 h => R_wid (by omega) (by omega) (kk G c1 m1 g rfl h)
  by_cases hd : v.toInt < 0 ∨ 35 < v.toInt
  · exact R_tout (tgt := 1524) X dL_law_33 hd (by decide) (kk0 σc σm hr)
  · obtain ⟨k, hk, hv⟩ : ∃ k : Nat, k < 36 ∧ v = nI k := by
      refine ⟨v.toInt.toNat, by omega, ?_⟩
      apply Int32.toInt_inj.mp
      rw [nI_toInt (by omega)]
      omega
    obtain ⟨p0, p1, p2, p3, p4, p5, p6, p7, p8, p9, p10, p11, p12, p13, p14, p15, p16, p17, p18, p19, p20, p21, p22, p23, p24, p25, p26, p27, p28, p29, p30, p31, p32, p33, p34, p35⟩ := hS
    rcases (show k = 0 ∨ k = 1 ∨ k = 2 ∨ k = 3 ∨ k = 4 ∨ k = 5 ∨ k = 6 ∨ k = 7 ∨ k = 8 ∨ k = 9 ∨ k = 10 ∨ k = 11 ∨ k = 12 ∨ k = 13 ∨ k = 14 ∨ k = 15 ∨ k = 16 ∨ k = 17 ∨ k = 18 ∨ k = 19 ∨ k = 20 ∨ k = 21 ∨ k = 22 ∨ k = 23 ∨ k = 24 ∨ k = 25 ∨ k = 26 ∨ k = 27 ∨ k = 28 ∨ k = 29 ∨ k = 30 ∨ k = 31 ∨ k = 32 ∨ k = 33 ∨ k = 34 ∨ k = 35 by omega) with rfl | rfl | rfl | rfl | rfl | rfl | rfl | rfl | rfl | rfl | rfl | rfl | rfl | rfl | rfl | rfl | rfl | rfl | rfl | rfl | rfl | rfl | rfl | rfl | rfl | rfl | rfl | rfl | rfl | rfl | rfl | rfl | rfl | rfl | rfl | rfl
    · exact R_tin (tgt := 192) (0 : Int32) hv X dL_law_33 (by decide) (by decide) rfl (by decide) (lc_0 p0 X e1 e2 g gm hX hbl hbA rfl hj hL σc σm hr hfit kk0)
    · exact R_tin (tgt := 215) (1 : Int32) hv X dL_law_33 (by decide) (by decide) rfl (by decide) (lc_1 p1 X e1 e2 g gm hX hbl hbA rfl hj hL σc σm hr hfit kk0)
    · exact R_tin (tgt := 238) (2 : Int32) hv X dL_law_33 (by decide) (by decide) rfl (by decide) (lc_2 p2 X e1 e2 g gm hX hbl hbA rfl hj hL σc σm hr hfit kk0)
    · exact R_tin (tgt := 313) (3 : Int32) hv X dL_law_33 (by decide) (by decide) rfl (by decide) (lc_3 p3 X e1 e2 g gm hX hbl hbA rfl hj hL σc σm hr (by omega) (fun G1 c1 m1 h1 h2 h3 => R_wid (by omega) (by omega) (kk G1 c1 m1 h1 h2 h3)))
    · exact R_tin (tgt := 326) (4 : Int32) hv X dL_law_33 (by decide) (by decide) rfl (by decide) (lc_4 p4 X e1 e2 g gm hX hbl hbA rfl hj hL σc σm hr hfit kk0)
    · exact R_tin (tgt := 349) (5 : Int32) hv X dL_law_33 (by decide) (by decide) rfl (by decide) (lc_5 p5 X e1 e2 g gm hX hbl hbA rfl hj hL σc σm hr hfit kk0)
    · exact R_tin (tgt := 392) (6 : Int32) hv X dL_law_33 (by decide) (by decide) rfl (by decide) (lc_6 p6 X e1 e2 g gm hX hbl hbA rfl hj hL σc σm hr hfit kk0)
    · exact R_tin (tgt := 425) (7 : Int32) hv X dL_law_33 (by decide) (by decide) rfl (by decide) (lc_7 p7 X e1 e2 g gm hX hbl hbA rfl hj hL σc σm hr hfit kk0)
    · exact R_tin (tgt := 468) (8 : Int32) hv X dL_law_33 (by decide) (by decide) rfl (by decide) (lc_8 p8 X e1 e2 g gm hX hbl hbA rfl hj hL σc σm hr hfit kk0)
    · exact R_tin (tgt := 501) (9 : Int32) hv X dL_law_33 (by decide) (by decide) rfl (by decide) (lc_9 p9 X e1 e2 g gm hX hbl hbA rfl hj hL σc σm hr hfit kk0)
    · exact R_tin (tgt := 544) (10 : Int32) hv X dL_law_33 (by decide) (by decide) rfl (by decide) (lc_10 p10 X e1 e2 g gm hX hbl hbA rfl hj hL σc σm hr hfit kk0)
    · exact R_tin (tgt := 577) (11 : Int32) hv X dL_law_33 (by decide) (by decide) rfl (by decide) (lc_11 p11 X e1 e2 g gm hX hbl hbA rfl hj hL σc σm hr hfit kk0)
    · exact R_tin (tgt := 620) (12 : Int32) hv X dL_law_33 (by decide) (by decide) rfl (by decide) (lc_12 p12 X e1 e2 g gm hX hbl hbA rfl hj hL σc σm hr hfit kk0)
    · exact R_tin (tgt := 633) (13 : Int32) hv X dL_law_33 (by decide) (by decide) rfl (by decide) (lc_13 p13 X e1 e2 g gm hX hbl hbA rfl hj hL σc σm hr hfit kk0)
    · exact R_tin (tgt := 656) (14 : Int32) hv X dL_law_33 (by decide) (by decide) rfl (by decide) (lc_14 p14 X e1 e2 g gm hX hbl hbA rfl hj hL σc σm hr hfit kk0)
    · exact R_tin (tgt := 689) (15 : Int32) hv X dL_law_33 (by decide) (by decide) rfl (by decide) (lc_15 p15 X e1 e2 g gm hX hbl hbA rfl hj hL σc σm hr hfit kk0)
    · exact R_tin (tgt := 712) (16 : Int32) hv X dL_law_33 (by decide) (by decide) rfl (by decide) (lc_16 p16 X e1 e2 g gm hX hbl hbA rfl hj hL σc σm hr hfit kk0)
    · exact R_tin (tgt := 755) (17 : Int32) hv X dL_law_33 (by decide) (by decide) rfl (by decide) (lc_17 p17 X e1 e2 g gm hX hbl hbA rfl hj hL σc σm hr hfit kk0)
    · exact R_tin (tgt := 788) (18 : Int32) hv X dL_law_33 (by decide) (by decide) rfl (by decide) (lc_18 p18 X e1 e2 g gm hX hbl hbA rfl hj hL σc σm hr hfit kk0)
    · exact R_tin (tgt := 821) (19 : Int32) hv X dL_law_33 (by decide) (by decide) rfl (by decide) (lc_19 p19 X e1 e2 g gm hX hbl hbA rfl hj hL σc σm hr hfit kk0)
    · exact R_tin (tgt := 854) (20 : Int32) hv X dL_law_33 (by decide) (by decide) rfl (by decide) (lc_20 p20 X e1 e2 g gm hX hbl hbA rfl hj hL σc σm hr hfit kk0)
    · exact R_tin (tgt := 888) (21 : Int32) hv X dL_law_33 (by decide) (by decide) rfl (by decide) (lc_21 p21 X e1 e2 g gm hX hbl hbA rfl hj hL σc σm hr hfit kk0)
    · exact R_tin (tgt := 931) (22 : Int32) hv X dL_law_33 (by decide) (by decide) rfl (by decide) (lc_22 p22 X e1 e2 g gm hX hbl hbA rfl hj hL σc σm hr hfit kk0)
    · exact R_tin (tgt := 984) (23 : Int32) hv X dL_law_33 (by decide) (by decide) rfl (by decide) (lc_23 p23 X e1 e2 g gm hX hbl hbA rfl hj hL σc σm hr hfit kk0)
    · exact R_tin (tgt := 1047) (24 : Int32) hv X dL_law_33 (by decide) (by decide) rfl (by decide) (lc_24 p24 X e1 e2 g gm hX hbl hbA rfl hj hL σc σm hr hfit kk0)
    · exact R_tin (tgt := 1080) (25 : Int32) hv X dL_law_33 (by decide) (by decide) rfl (by decide) (lc_25 p25 X e1 e2 g gm hX hbl hbA rfl hj hL σc σm hr hfit kk0)
    · exact R_tin (tgt := 1123) (26 : Int32) hv X dL_law_33 (by decide) (by decide) rfl (by decide) (lc_26 p26 X e1 e2 g gm hX hbl hbA rfl hj hL σc σm hr hfit kk0)
    · exact R_tin (tgt := 1166) (27 : Int32) hv X dL_law_33 (by decide) (by decide) rfl (by decide) (lc_27 p27 X e1 e2 g gm hX hbl hbA rfl hj hL σc σm hr hfit kk0)
    · exact R_tin (tgt := 1209) (28 : Int32) hv X dL_law_33 (by decide) (by decide) rfl (by decide) (lc_28 p28 X e1 e2 g gm hX hbl hbA rfl hj hL σc σm hr hfit kk0)
    · exact R_tin (tgt := 1263) (29 : Int32) hv X dL_law_33 (by decide) (by decide) rfl (by decide) (lc_29 p29 X e1 e2 g gm hX hbl hbA rfl hj hL σc σm hr hfit kk0)
    · exact R_tin (tgt := 1276) (30 : Int32) hv X dL_law_33 (by decide) (by decide) rfl (by decide) (lc_30 p30 X e1 e2 g gm hX hbl hbA rfl hj hL σc σm hr hfit kk0)
    · exact R_tin (tgt := 1289) (31 : Int32) hv X dL_law_33 (by decide) (by decide) rfl (by decide) (lc_31 p31 X e1 e2 g gm hX hbl hbA rfl hj hL σc σm hr hfit kk0)
    · exact R_tin (tgt := 1332) (32 : Int32) hv X dL_law_33 (by decide) (by decide) rfl (by decide) (lc_32 p32 X e1 e2 g gm hX hbl hbA rfl hj hL σc σm hr hfit kk0)
    · exact R_tin (tgt := 1375) (33 : Int32) hv X dL_law_33 (by decide) (by decide) rfl (by decide) (lc_33 p33 X e1 e2 g gm hX hbl hbA rfl hj hL σc σm hr hfit kk0)
    · exact R_tin (tgt := 1438) (34 : Int32) hv X dL_law_33 (by decide) (by decide) rfl (by decide) (lc_34 p34 X e1 e2 g gm hX hbl hbA rfl hj hL σc σm hr hfit kk0)
    · exact R_tin (tgt := 1491) (35 : Int32) hv X dL_law_33 (by decide) (by decide) rfl (by decide) (lc_35 p35 X e1 e2 g gm hX hbl hbA rfl hj hL σc σm hr hfit kk0)
theorem law_loop (hS : PSall Rel) (X : XR (lE p l e s m b below meth c V) 4 cL_law RL (some .boolean) 2048 84000 600000 7302250 (gI G0)) (e1 : l = G0.1) (e2 : V = VI G0 W0) (gm : LGp G0 GM) (hX : va_X b L xs s s.heap) (hbl : b < s.heap.size) (hL : L ≤ 3584) : ∀ (n j : Nat), 7 * j ≤ L → L < 7 * (j + n) → ∀ (G : JG) (σc σm : ST), LGp G0 G → Rel (gT G) σc σm →
    JR (lE p l e s m b below meth c V) 4 (lw_Z below #[Value.ref b] s) [(0, .ref b), (1, .ref (gO G 0)), (2, .ref (gO GM 50)), (3, .int (nI (7 * j)))] 18 [] (wC G σc ++ wM GM σm) (64 + 3 * j) (3624 + 165 * j) := by
  intro n
  induction n with
  | zero => intro j h1 h2; omega
  | succ n ih =>
    intro j h1 h2 G σc σm g hr
    have hbA : ¬ (fun q : Nat => s.heap.size ≤ q) b := Nat.not_le.mpr hbl
    refine R_iload_n X 3 dL_law_18 rfl rfl ?_
    refine R_aload_n X 0 dL_law_19 rfl rfl ?_
    refine R_slen X hX hbl hbA dL_law_20 ?_
    refine R_bipush (v := (7 : Int32)) X dL_law_21 (by decide) ?_
    refine R_isub X dL_law_23 ?_
    have ht : (Int32.ofNat L - 7).toInt = (L : Int) - 7 := by
      have h0 : (Int32.ofNat L).toInt = (L : Int) := nI_toInt (by omega)
      have h7 : (7 : Int32).toInt = 7 := by decide
      rw [i32_sub (by omega) (by omega), h0, h7]
    have hq : (nI (7 * j)).toInt = ((7 * j : Nat) : Int) := nI_toInt (by omega)
    refine R_icmp_gt (tgt := 1530) X dL_law_24 (by decide) (fun q => ?_) (fun q => ?_)
    · exact law_end X (by omega) (by omega)
    · have hj : 7 * j + 7 ≤ L := by
        have hh : ¬ (Int32.ofNat L - 7).toInt < (nI (7 * j)).toInt := fun z => q (Int32.lt_iff_toInt_lt.mpr z)
        omega
      refine R_aload_n X 0 dL_law_27 rfl rfl ?_
      refine R_iload_n X 3 dL_law_28 rfl rfl ?_
      refine R_sld X hX hbl hbA (vp_in_nI (by omega) (by omega)) dL_law_29 ?_
      refine R_bipush (v := (63 : Int32)) X dL_law_30 (by decide) ?_
      refine R_iand X dL_law_32 ?_
      refine law_case hS X e1 e2 gm hX hbl hL hj G σc σm g hr (fun G1 c1 m1 g1 g0 hr1 => ?_) _
      refine R_iinc (v := nI (7 * (j + 1))) [(3, .int (nI (7 * (j + 1)))), (0, .ref b), (1, .ref (gO G 0)), (2, .ref (gO GM 50))] X 3 dL_law_1524 rfl (by show nI (7 * j) + nI 7 = _; rw [nI_add]; rfl) (by decide) rfl ?_
      refine R_goto (tgt := 18) X dL_law_1527 (by decide) ?_
      refine R_sub [1, 2, 3, 0] rfl ?_
      rw [← g0]
      have := ih (j + 1) (by omega) (by omega) G1 c1 m1 g1 hr1
      exact R_wid (by omega) (by omega) this
end LLoop
section LInit
variable {E : JE} {nL F L MC MS : Nat} {cI : ClassId} {cc : ByteArray} {own : String} {ret : Option FieldType} {Q : State → Prop} {lv : List (Nat × Value)} {pc : Nat} {st : List Value} {kc ks : Nat}
theorem L_cI {S : Type} {post : S → Prop} {w1 : S → va_W} {As : List Value} {b n index maxL F1 L1 MC1 MS1 : Nat} {y : MethodName} {bytes : ByteArray} {wc wr : va_W} {st0 : List Value} (X : XR E nL cc own ret F L MC MS cI) (hM : RMet (jV E) (jL E) y bytes maxL none F1 L1 MC1 MS1 (.ref b :: As) wc (fun _ : S => none) post w1) (hst0 : st0 = As.reverse ++ .ref b :: st) (hw : WI y bytes maxL none n) (hy : y.name = "<init>") (hi : Cond.instanceMethod y ∈ lw_ok) (hlink : Cond.methodLink own index y ∈ lw_ok) (hRm : F1 + 1 ≤ F ∧ 8 + (maxL + 11) + L1 ≤ L) (hfit : kc + MC1 ≤ MC ∧ ks + MS1 ≤ MS) (hn : As.length = n) (hsum : (st.map fun v => v.category).sum ≤ 8) (hdg : decode cc pc = .ok (.invokespecial index, 3))
    (kk : ∀ x : S, post x → JR E nL Q lv (pc + 3) st (wr ++ w1 x) (kc + MC1) (ks + MS1)) : JR E nL Q lv pc st0 (wr ++ wc) kc ks := by
  have hR' := XR_R X
  refine R_callA (S := S) (val := fun _ : S => none) (post := post) (w1 := w1) (st := st) (MC1 := MC1) (MS1 := MS1) (mk := (Value.ref b :: As).toArray) X rfl (fun H locs ls hS hl hPc hDc => ?_) kk
  exact va_runI (As := As) (rest := st) X.1.1 (hM H.size) ⟨R_cb X hw hlink hRm, hy, rxt X _ hi⟩ (R_pre X hPc hDc hS (.ref b :: As)) rfl hn hl.1 hst0 (lv_room (pc := pc) (ls := ls) (rest := st0) (m := jM E) hsum) hdg (by rw [hR']; exact hfit)
end LInit
def T0 : TX := (0, fun _ => ((0, 0, 0, 0), fun _ => 0, fun _ => 0))
/-- what the pure part owes of the start -/
def PSinit (Rel : TX → ST → ST → Prop) : Prop := ∃ σe σm : ST, f_iL T0 1000 0 sC0 = some ((), σe) ∧ f_X5_init sM0 = some ((), σm) ∧ ∀ q : Nat × Nat × Nat, Rel (tC1 q σe) (sC1 σe) σm
def sTm (i : Nat) : Term := if i = 12 then .string RX4 18 else .string RX2 (106 + 2 * i)
theorem lw_tb1 {w : Cond} (i : Nat) (h : tables_1_1[i]? = some w) : w ∈ lw_tbl := List.mem_append_right _ (List.mem_append_left _ (List.mem_of_getElem? h))
theorem lw_tb2 {w : Cond} (i : Nat) (h : tables_1_2[i]? = some w) : w ∈ lw_tbl := List.mem_append_right _ (List.mem_append_right _ (List.mem_append_left _ (List.mem_of_getElem? h)))
theorem lw_tb3 {w : Cond} (i : Nat) (h : tables_1_3[i]? = some w) : w ∈ lw_tbl := List.mem_append_right _ (List.mem_append_right _ (List.mem_append_right _ (List.mem_append_left _ (List.mem_of_getElem? h))))
theorem lw_tb4 {w : Cond} (i : Nat) (h : tables_1_4[i]? = some w) : w ∈ lw_tbl := List.mem_append_right _ (List.mem_append_right _ (List.mem_append_right _ (List.mem_append_right _ (List.mem_append_left _ (List.mem_of_getElem? h)))))
theorem lw_tb5 {w : Cond} (i : Nat) (h : tables_1_5[i]? = some w) : w ∈ lw_tbl := List.mem_append_right _ (List.mem_append_right _ (List.mem_append_right _ (List.mem_append_right _ (List.mem_append_right _ (List.mem_of_getElem? h)))))
theorem nw_s0 : Cond.stringRef RX2 106 "gone" ∈ lw_tbl := lw_tb1 132 rfl
theorem nw_s1 : Cond.stringRef RX2 108 "gains" ∈ lw_tbl := lw_tb1 133 rfl
theorem nw_s2 : Cond.stringRef RX2 110 "spills" ∈ lw_tbl := lw_tb1 134 rfl
theorem nw_s3 : Cond.stringRef RX2 112 "or" ∈ lw_tbl := lw_tb1 135 rfl
theorem nw_s4 : Cond.stringRef RX2 114 "and" ∈ lw_tbl := lw_tb1 136 rfl
theorem nw_s5 : Cond.stringRef RX2 116 "not" ∈ lw_tbl := lw_tb1 137 rfl
theorem nw_s6 : Cond.stringRef RX2 118 "sort" ∈ lw_tbl := lw_tb1 138 rfl
theorem nw_s7 : Cond.stringRef RX2 120 "grains" ∈ lw_tbl := lw_tb1 139 rfl
theorem nw_s8 : Cond.stringRef RX2 122 "wit" ∈ lw_tbl := lw_tb1 140 rfl
theorem nw_s9 : Cond.stringRef RX2 124 "sand" ∈ lw_tbl := lw_tb1 141 rfl
theorem nw_s10 : Cond.stringRef RX2 126 "minute" ∈ lw_tbl := lw_tb1 142 rfl
theorem nw_s11 : Cond.stringRef RX2 128 "more" ∈ lw_tbl := lw_tb1 143 rfl
theorem nw_s12 : Cond.stringRef RX4 18 "gone 3 + sort ; gains sort * 2 ; spills 0 ;" ∈ lw_tbl := lw_tb1 61 rfl
theorem nw_aoX : Cond.arrayOver (.object RX3) ∈ lw_tbl := lw_tb1 23 rfl
theorem nw_aoH : Cond.arrayOver (.object RX1) ∈ lw_tbl := lw_tb2 35 rfl
theorem nw_ls0 : Cond.laysStatic RJ0 "COMPACT_STRINGS" "Z" ∈ lw_tbl := lw_tb1 71 rfl
theorem nw_ls3 : Cond.laysStatic RJ3 "SIOOBE_FORMATTER" "Ljava/util/function/BiFunction;" ∈ lw_tbl := lw_tb1 87 rfl
theorem nw_n1 : Cond.methodLinkNest RX0 93 yX4_bounded RX4 ∈ lw_tbl := lw_tb2 148 rfl
theorem nw_n2 : Cond.methodLinkNest RX0 103 yX4_isSort RX4 ∈ lw_tbl := lw_tb2 204 rfl
theorem nw_n3 : Cond.methodLinkNest RX4 13 yX2_init RX4 ∈ lw_tbl := lw_tb1 26 rfl
theorem nw_n4 : Cond.methodLinkNest RX4 70 yX1_init RX4 ∈ lw_tbl := lw_tb2 37 rfl
def nFl : List Cond := flatC (Jvm.Cond.and given_1 narrow_1)
theorem n_ex : ∀ i : Nat, i < 13 → Cond.exactly (sTm i) "java/lang/String" ∈ nFl := by
  intro i hi
  rcases (show i = 0 ∨ i = 1 ∨ i = 2 ∨ i = 3 ∨ i = 4 ∨ i = 5 ∨ i = 6 ∨ i = 7 ∨ i = 8 ∨ i = 9 ∨ i = 10 ∨ i = 11 ∨ i = 12 by omega) with rfl | rfl | rfl | rfl | rfl | rfl | rfl | rfl | rfl | rfl | rfl | rfl | rfl
  · exact List.mem_of_getElem? (i := 68) rfl
  · exact List.mem_of_getElem? (i := 77) rfl
  · exact List.mem_of_getElem? (i := 88) rfl
  · exact List.mem_of_getElem? (i := 101) rfl
  · exact List.mem_of_getElem? (i := 111) rfl
  · exact List.mem_of_getElem? (i := 123) rfl
  · exact List.mem_of_getElem? (i := 136) rfl
  · exact List.mem_of_getElem? (i := 151) rfl
  · exact List.mem_of_getElem? (i := 169) rfl
  · exact List.mem_of_getElem? (i := 185) rfl
  · exact List.mem_of_getElem? (i := 203) rfl
  · exact List.mem_of_getElem? (i := 224) rfl
  · exact List.mem_of_getElem? (i := 21) rfl
theorem n_co : ∀ i : Nat, i < 13 → Cond.eq (.field (sTm i) "java/lang/String" "coder" "B") (.int 0) ∈ nFl := by
  intro i hi
  rcases (show i = 0 ∨ i = 1 ∨ i = 2 ∨ i = 3 ∨ i = 4 ∨ i = 5 ∨ i = 6 ∨ i = 7 ∨ i = 8 ∨ i = 9 ∨ i = 10 ∨ i = 11 ∨ i = 12 by omega) with rfl | rfl | rfl | rfl | rfl | rfl | rfl | rfl | rfl | rfl | rfl | rfl | rfl
  · exact List.mem_of_getElem? (i := 69) rfl
  · exact List.mem_of_getElem? (i := 78) rfl
  · exact List.mem_of_getElem? (i := 89) rfl
  · exact List.mem_of_getElem? (i := 102) rfl
  · exact List.mem_of_getElem? (i := 112) rfl
  · exact List.mem_of_getElem? (i := 124) rfl
  · exact List.mem_of_getElem? (i := 137) rfl
  · exact List.mem_of_getElem? (i := 152) rfl
  · exact List.mem_of_getElem? (i := 170) rfl
  · exact List.mem_of_getElem? (i := 186) rfl
  · exact List.mem_of_getElem? (i := 204) rfl
  · exact List.mem_of_getElem? (i := 225) rfl
  · exact List.mem_of_getElem? (i := 22) rfl
theorem n_ar : ∀ i : Nat, i < 13 → Cond.arrayOf (.field (sTm i) "java/lang/String" "value" "[B") .byte ∈ nFl := by
  intro i hi
  rcases (show i = 0 ∨ i = 1 ∨ i = 2 ∨ i = 3 ∨ i = 4 ∨ i = 5 ∨ i = 6 ∨ i = 7 ∨ i = 8 ∨ i = 9 ∨ i = 10 ∨ i = 11 ∨ i = 12 by omega) with rfl | rfl | rfl | rfl | rfl | rfl | rfl | rfl | rfl | rfl | rfl | rfl | rfl
  · exact List.mem_of_getElem? (i := 70) rfl
  · exact List.mem_of_getElem? (i := 79) rfl
  · exact List.mem_of_getElem? (i := 90) rfl
  · exact List.mem_of_getElem? (i := 103) rfl
  · exact List.mem_of_getElem? (i := 113) rfl
  · exact List.mem_of_getElem? (i := 125) rfl
  · exact List.mem_of_getElem? (i := 138) rfl
  · exact List.mem_of_getElem? (i := 153) rfl
  · exact List.mem_of_getElem? (i := 171) rfl
  · exact List.mem_of_getElem? (i := 187) rfl
  · exact List.mem_of_getElem? (i := 205) rfl
  · exact List.mem_of_getElem? (i := 226) rfl
  · exact List.mem_of_getElem? (i := 23) rfl
theorem n_le : ∀ i : Nat, i < 13 → Cond.eq (.length (.field (sTm i) "java/lang/String" "value" "[B")) (.int (Int32.ofNat (sLen.getD i 0))) ∈ nFl := by
  intro i hi
  rcases (show i = 0 ∨ i = 1 ∨ i = 2 ∨ i = 3 ∨ i = 4 ∨ i = 5 ∨ i = 6 ∨ i = 7 ∨ i = 8 ∨ i = 9 ∨ i = 10 ∨ i = 11 ∨ i = 12 by omega) with rfl | rfl | rfl | rfl | rfl | rfl | rfl | rfl | rfl | rfl | rfl | rfl | rfl
  · exact List.mem_of_getElem? (i := 71) rfl
  · exact List.mem_of_getElem? (i := 80) rfl
  · exact List.mem_of_getElem? (i := 91) rfl
  · exact List.mem_of_getElem? (i := 104) rfl
  · exact List.mem_of_getElem? (i := 114) rfl
  · exact List.mem_of_getElem? (i := 126) rfl
  · exact List.mem_of_getElem? (i := 139) rfl
  · exact List.mem_of_getElem? (i := 154) rfl
  · exact List.mem_of_getElem? (i := 172) rfl
  · exact List.mem_of_getElem? (i := 188) rfl
  · exact List.mem_of_getElem? (i := 206) rfl
  · exact List.mem_of_getElem? (i := 227) rfl
  · exact List.mem_of_getElem? (i := 24) rfl
theorem n_el0 : ∀ j : Nat, j < 4 → Cond.eq (.elem (.field (sTm 0) "java/lang/String" "value" "[B") (.int (Int32.ofNat j))) (.int ((sByt.getD 0 []).getD j 0)) ∈ nFl := by
  intro j hj
  rcases (show j = 0 ∨ j = 1 ∨ j = 2 ∨ j = 3 by omega) with rfl | rfl | rfl | rfl
  · exact List.mem_of_getElem? (i := 72) rfl
  · exact List.mem_of_getElem? (i := 73) rfl
  · exact List.mem_of_getElem? (i := 74) rfl
  · exact List.mem_of_getElem? (i := 75) rfl
theorem n_el1 : ∀ j : Nat, j < 5 → Cond.eq (.elem (.field (sTm 1) "java/lang/String" "value" "[B") (.int (Int32.ofNat j))) (.int ((sByt.getD 1 []).getD j 0)) ∈ nFl := by
  intro j hj
  rcases (show j = 0 ∨ j = 1 ∨ j = 2 ∨ j = 3 ∨ j = 4 by omega) with rfl | rfl | rfl | rfl | rfl
  · exact List.mem_of_getElem? (i := 81) rfl
  · exact List.mem_of_getElem? (i := 82) rfl
  · exact List.mem_of_getElem? (i := 83) rfl
  · exact List.mem_of_getElem? (i := 84) rfl
  · exact List.mem_of_getElem? (i := 85) rfl
theorem n_el2 : ∀ j : Nat, j < 6 → Cond.eq (.elem (.field (sTm 2) "java/lang/String" "value" "[B") (.int (Int32.ofNat j))) (.int ((sByt.getD 2 []).getD j 0)) ∈ nFl := by
  intro j hj
  rcases (show j = 0 ∨ j = 1 ∨ j = 2 ∨ j = 3 ∨ j = 4 ∨ j = 5 by omega) with rfl | rfl | rfl | rfl | rfl | rfl
  · exact List.mem_of_getElem? (i := 92) rfl
  · exact List.mem_of_getElem? (i := 93) rfl
  · exact List.mem_of_getElem? (i := 94) rfl
  · exact List.mem_of_getElem? (i := 95) rfl
  · exact List.mem_of_getElem? (i := 96) rfl
  · exact List.mem_of_getElem? (i := 97) rfl
theorem n_el3 : ∀ j : Nat, j < 2 → Cond.eq (.elem (.field (sTm 3) "java/lang/String" "value" "[B") (.int (Int32.ofNat j))) (.int ((sByt.getD 3 []).getD j 0)) ∈ nFl := by
  intro j hj
  rcases (show j = 0 ∨ j = 1 by omega) with rfl | rfl
  · exact List.mem_of_getElem? (i := 105) rfl
  · exact List.mem_of_getElem? (i := 106) rfl
theorem n_el4 : ∀ j : Nat, j < 3 → Cond.eq (.elem (.field (sTm 4) "java/lang/String" "value" "[B") (.int (Int32.ofNat j))) (.int ((sByt.getD 4 []).getD j 0)) ∈ nFl := by
  intro j hj
  rcases (show j = 0 ∨ j = 1 ∨ j = 2 by omega) with rfl | rfl | rfl
  · exact List.mem_of_getElem? (i := 115) rfl
  · exact List.mem_of_getElem? (i := 116) rfl
  · exact List.mem_of_getElem? (i := 117) rfl
theorem n_el5 : ∀ j : Nat, j < 3 → Cond.eq (.elem (.field (sTm 5) "java/lang/String" "value" "[B") (.int (Int32.ofNat j))) (.int ((sByt.getD 5 []).getD j 0)) ∈ nFl := by
  intro j hj
  rcases (show j = 0 ∨ j = 1 ∨ j = 2 by omega) with rfl | rfl | rfl
  · exact List.mem_of_getElem? (i := 127) rfl
  · exact List.mem_of_getElem? (i := 128) rfl
  · exact List.mem_of_getElem? (i := 129) rfl
theorem n_el6 : ∀ j : Nat, j < 4 → Cond.eq (.elem (.field (sTm 6) "java/lang/String" "value" "[B") (.int (Int32.ofNat j))) (.int ((sByt.getD 6 []).getD j 0)) ∈ nFl := by
  intro j hj
  rcases (show j = 0 ∨ j = 1 ∨ j = 2 ∨ j = 3 by omega) with rfl | rfl | rfl | rfl
  · exact List.mem_of_getElem? (i := 140) rfl
  · exact List.mem_of_getElem? (i := 141) rfl
  · exact List.mem_of_getElem? (i := 142) rfl
  · exact List.mem_of_getElem? (i := 143) rfl
theorem n_el7 : ∀ j : Nat, j < 6 → Cond.eq (.elem (.field (sTm 7) "java/lang/String" "value" "[B") (.int (Int32.ofNat j))) (.int ((sByt.getD 7 []).getD j 0)) ∈ nFl := by
  intro j hj
  rcases (show j = 0 ∨ j = 1 ∨ j = 2 ∨ j = 3 ∨ j = 4 ∨ j = 5 by omega) with rfl | rfl | rfl | rfl | rfl | rfl
  · exact List.mem_of_getElem? (i := 155) rfl
  · exact List.mem_of_getElem? (i := 156) rfl
  · exact List.mem_of_getElem? (i := 157) rfl
  · exact List.mem_of_getElem? (i := 158) rfl
  · exact List.mem_of_getElem? (i := 159) rfl
  · exact List.mem_of_getElem? (i := 160) rfl
theorem n_el8 : ∀ j : Nat, j < 3 → Cond.eq (.elem (.field (sTm 8) "java/lang/String" "value" "[B") (.int (Int32.ofNat j))) (.int ((sByt.getD 8 []).getD j 0)) ∈ nFl := by
  intro j hj
  rcases (show j = 0 ∨ j = 1 ∨ j = 2 by omega) with rfl | rfl | rfl
  · exact List.mem_of_getElem? (i := 173) rfl
  · exact List.mem_of_getElem? (i := 174) rfl
  · exact List.mem_of_getElem? (i := 175) rfl
theorem n_el9 : ∀ j : Nat, j < 4 → Cond.eq (.elem (.field (sTm 9) "java/lang/String" "value" "[B") (.int (Int32.ofNat j))) (.int ((sByt.getD 9 []).getD j 0)) ∈ nFl := by
  intro j hj
  rcases (show j = 0 ∨ j = 1 ∨ j = 2 ∨ j = 3 by omega) with rfl | rfl | rfl | rfl
  · exact List.mem_of_getElem? (i := 189) rfl
  · exact List.mem_of_getElem? (i := 190) rfl
  · exact List.mem_of_getElem? (i := 191) rfl
  · exact List.mem_of_getElem? (i := 192) rfl
theorem n_el10 : ∀ j : Nat, j < 6 → Cond.eq (.elem (.field (sTm 10) "java/lang/String" "value" "[B") (.int (Int32.ofNat j))) (.int ((sByt.getD 10 []).getD j 0)) ∈ nFl := by
  intro j hj
  rcases (show j = 0 ∨ j = 1 ∨ j = 2 ∨ j = 3 ∨ j = 4 ∨ j = 5 by omega) with rfl | rfl | rfl | rfl | rfl | rfl
  · exact List.mem_of_getElem? (i := 207) rfl
  · exact List.mem_of_getElem? (i := 208) rfl
  · exact List.mem_of_getElem? (i := 209) rfl
  · exact List.mem_of_getElem? (i := 210) rfl
  · exact List.mem_of_getElem? (i := 211) rfl
  · exact List.mem_of_getElem? (i := 212) rfl
theorem n_el11 : ∀ j : Nat, j < 4 → Cond.eq (.elem (.field (sTm 11) "java/lang/String" "value" "[B") (.int (Int32.ofNat j))) (.int ((sByt.getD 11 []).getD j 0)) ∈ nFl := by
  intro j hj
  rcases (show j = 0 ∨ j = 1 ∨ j = 2 ∨ j = 3 by omega) with rfl | rfl | rfl | rfl
  · exact List.mem_of_getElem? (i := 228) rfl
  · exact List.mem_of_getElem? (i := 229) rfl
  · exact List.mem_of_getElem? (i := 230) rfl
  · exact List.mem_of_getElem? (i := 231) rfl
theorem n_el12 : ∀ j : Nat, j < 43 → Cond.eq (.elem (.field (sTm 12) "java/lang/String" "value" "[B") (.int (Int32.ofNat j))) (.int ((sByt.getD 12 []).getD j 0)) ∈ nFl := by
  intro j hj
  rcases (show j = 0 ∨ j = 1 ∨ j = 2 ∨ j = 3 ∨ j = 4 ∨ j = 5 ∨ j = 6 ∨ j = 7 ∨ j = 8 ∨ j = 9 ∨ j = 10 ∨ j = 11 ∨ j = 12 ∨ j = 13 ∨ j = 14 ∨ j = 15 ∨ j = 16 ∨ j = 17 ∨ j = 18 ∨ j = 19 ∨ j = 20 ∨ j = 21 ∨ j = 22 ∨ j = 23 ∨ j = 24 ∨ j = 25 ∨ j = 26 ∨ j = 27 ∨ j = 28 ∨ j = 29 ∨ j = 30 ∨ j = 31 ∨ j = 32 ∨ j = 33 ∨ j = 34 ∨ j = 35 ∨ j = 36 ∨ j = 37 ∨ j = 38 ∨ j = 39 ∨ j = 40 ∨ j = 41 ∨ j = 42 by omega) with rfl | rfl | rfl | rfl | rfl | rfl | rfl | rfl | rfl | rfl | rfl | rfl | rfl | rfl | rfl | rfl | rfl | rfl | rfl | rfl | rfl | rfl | rfl | rfl | rfl | rfl | rfl | rfl | rfl | rfl | rfl | rfl | rfl | rfl | rfl | rfl | rfl | rfl | rfl | rfl | rfl | rfl | rfl
  · exact List.mem_of_getElem? (i := 25) rfl
  · exact List.mem_of_getElem? (i := 26) rfl
  · exact List.mem_of_getElem? (i := 27) rfl
  · exact List.mem_of_getElem? (i := 28) rfl
  · exact List.mem_of_getElem? (i := 29) rfl
  · exact List.mem_of_getElem? (i := 30) rfl
  · exact List.mem_of_getElem? (i := 31) rfl
  · exact List.mem_of_getElem? (i := 32) rfl
  · exact List.mem_of_getElem? (i := 33) rfl
  · exact List.mem_of_getElem? (i := 34) rfl
  · exact List.mem_of_getElem? (i := 35) rfl
  · exact List.mem_of_getElem? (i := 36) rfl
  · exact List.mem_of_getElem? (i := 37) rfl
  · exact List.mem_of_getElem? (i := 38) rfl
  · exact List.mem_of_getElem? (i := 39) rfl
  · exact List.mem_of_getElem? (i := 40) rfl
  · exact List.mem_of_getElem? (i := 41) rfl
  · exact List.mem_of_getElem? (i := 42) rfl
  · exact List.mem_of_getElem? (i := 43) rfl
  · exact List.mem_of_getElem? (i := 44) rfl
  · exact List.mem_of_getElem? (i := 45) rfl
  · exact List.mem_of_getElem? (i := 46) rfl
  · exact List.mem_of_getElem? (i := 47) rfl
  · exact List.mem_of_getElem? (i := 48) rfl
  · exact List.mem_of_getElem? (i := 49) rfl
  · exact List.mem_of_getElem? (i := 50) rfl
  · exact List.mem_of_getElem? (i := 51) rfl
  · exact List.mem_of_getElem? (i := 52) rfl
  · exact List.mem_of_getElem? (i := 53) rfl
  · exact List.mem_of_getElem? (i := 54) rfl
  · exact List.mem_of_getElem? (i := 55) rfl
  · exact List.mem_of_getElem? (i := 56) rfl
  · exact List.mem_of_getElem? (i := 57) rfl
  · exact List.mem_of_getElem? (i := 58) rfl
  · exact List.mem_of_getElem? (i := 59) rfl
  · exact List.mem_of_getElem? (i := 60) rfl
  · exact List.mem_of_getElem? (i := 61) rfl
  · exact List.mem_of_getElem? (i := 62) rfl
  · exact List.mem_of_getElem? (i := 63) rfl
  · exact List.mem_of_getElem? (i := 64) rfl
  · exact List.mem_of_getElem? (i := 65) rfl
  · exact List.mem_of_getElem? (i := 66) rfl
  · exact List.mem_of_getElem? (i := 67) rfl
theorem n_el : ∀ i : Nat, i < 13 → ∀ j : Nat, j < sLen.getD i 0 → Cond.eq (.elem (.field (sTm i) "java/lang/String" "value" "[B") (.int (Int32.ofNat j))) (.int ((sByt.getD i []).getD j 0)) ∈ nFl := by
  intro i hi
  rcases (show i = 0 ∨ i = 1 ∨ i = 2 ∨ i = 3 ∨ i = 4 ∨ i = 5 ∨ i = 6 ∨ i = 7 ∨ i = 8 ∨ i = 9 ∨ i = 10 ∨ i = 11 ∨ i = 12 by omega) with rfl | rfl | rfl | rfl | rfl | rfl | rfl | rfl | rfl | rfl | rfl | rfl | rfl
  · exact n_el0
  · exact n_el1
  · exact n_el2
  · exact n_el3
  · exact n_el4
  · exact n_el5
  · exact n_el6
  · exact n_el7
  · exact n_el8
  · exact n_el9
  · exact n_el10
  · exact n_el11
  · exact n_el12
theorem n_ne0 : ∀ j : Nat, j < 13 → 0 ≠ j → Cond.not (Cond.eq (sTm 0) (sTm j)) ∈ nFl ∨ Cond.not (Cond.eq (sTm j) (sTm 0)) ∈ nFl := by
  intro j hj hn
  rcases (show j = 0 ∨ j = 1 ∨ j = 2 ∨ j = 3 ∨ j = 4 ∨ j = 5 ∨ j = 6 ∨ j = 7 ∨ j = 8 ∨ j = 9 ∨ j = 10 ∨ j = 11 ∨ j = 12 by omega) with rfl | rfl | rfl | rfl | rfl | rfl | rfl | rfl | rfl | rfl | rfl | rfl | rfl
  · exact absurd rfl hn
  · exact Or.inl (List.mem_of_getElem? (i := 87) rfl)
  · exact Or.inl (List.mem_of_getElem? (i := 99) rfl)
  · exact Or.inl (List.mem_of_getElem? (i := 108) rfl)
  · exact Or.inl (List.mem_of_getElem? (i := 119) rfl)
  · exact Or.inl (List.mem_of_getElem? (i := 131) rfl)
  · exact Or.inl (List.mem_of_getElem? (i := 145) rfl)
  · exact Or.inl (List.mem_of_getElem? (i := 162) rfl)
  · exact Or.inl (List.mem_of_getElem? (i := 177) rfl)
  · exact Or.inl (List.mem_of_getElem? (i := 194) rfl)
  · exact Or.inl (List.mem_of_getElem? (i := 214) rfl)
  · exact Or.inl (List.mem_of_getElem? (i := 233) rfl)
  · exact Or.inr (List.mem_of_getElem? (i := 76) rfl)
theorem n_ne1 : ∀ j : Nat, j < 13 → 1 ≠ j → Cond.not (Cond.eq (sTm 1) (sTm j)) ∈ nFl ∨ Cond.not (Cond.eq (sTm j) (sTm 1)) ∈ nFl := by
  intro j hj hn
  rcases (show j = 0 ∨ j = 1 ∨ j = 2 ∨ j = 3 ∨ j = 4 ∨ j = 5 ∨ j = 6 ∨ j = 7 ∨ j = 8 ∨ j = 9 ∨ j = 10 ∨ j = 11 ∨ j = 12 by omega) with rfl | rfl | rfl | rfl | rfl | rfl | rfl | rfl | rfl | rfl | rfl | rfl | rfl
  · exact Or.inr (List.mem_of_getElem? (i := 87) rfl)
  · exact absurd rfl hn
  · exact Or.inl (List.mem_of_getElem? (i := 100) rfl)
  · exact Or.inl (List.mem_of_getElem? (i := 109) rfl)
  · exact Or.inl (List.mem_of_getElem? (i := 120) rfl)
  · exact Or.inl (List.mem_of_getElem? (i := 132) rfl)
  · exact Or.inl (List.mem_of_getElem? (i := 146) rfl)
  · exact Or.inl (List.mem_of_getElem? (i := 163) rfl)
  · exact Or.inl (List.mem_of_getElem? (i := 178) rfl)
  · exact Or.inl (List.mem_of_getElem? (i := 195) rfl)
  · exact Or.inl (List.mem_of_getElem? (i := 215) rfl)
  · exact Or.inl (List.mem_of_getElem? (i := 234) rfl)
  · exact Or.inr (List.mem_of_getElem? (i := 86) rfl)
theorem n_ne2 : ∀ j : Nat, j < 13 → 2 ≠ j → Cond.not (Cond.eq (sTm 2) (sTm j)) ∈ nFl ∨ Cond.not (Cond.eq (sTm j) (sTm 2)) ∈ nFl := by
  intro j hj hn
  rcases (show j = 0 ∨ j = 1 ∨ j = 2 ∨ j = 3 ∨ j = 4 ∨ j = 5 ∨ j = 6 ∨ j = 7 ∨ j = 8 ∨ j = 9 ∨ j = 10 ∨ j = 11 ∨ j = 12 by omega) with rfl | rfl | rfl | rfl | rfl | rfl | rfl | rfl | rfl | rfl | rfl | rfl | rfl
  · exact Or.inr (List.mem_of_getElem? (i := 99) rfl)
  · exact Or.inr (List.mem_of_getElem? (i := 100) rfl)
  · exact absurd rfl hn
  · exact Or.inl (List.mem_of_getElem? (i := 110) rfl)
  · exact Or.inl (List.mem_of_getElem? (i := 121) rfl)
  · exact Or.inl (List.mem_of_getElem? (i := 133) rfl)
  · exact Or.inl (List.mem_of_getElem? (i := 147) rfl)
  · exact Or.inl (List.mem_of_getElem? (i := 164) rfl)
  · exact Or.inl (List.mem_of_getElem? (i := 179) rfl)
  · exact Or.inl (List.mem_of_getElem? (i := 196) rfl)
  · exact Or.inl (List.mem_of_getElem? (i := 216) rfl)
  · exact Or.inl (List.mem_of_getElem? (i := 235) rfl)
  · exact Or.inr (List.mem_of_getElem? (i := 98) rfl)
theorem n_ne3 : ∀ j : Nat, j < 13 → 3 ≠ j → Cond.not (Cond.eq (sTm 3) (sTm j)) ∈ nFl ∨ Cond.not (Cond.eq (sTm j) (sTm 3)) ∈ nFl := by
  intro j hj hn
  rcases (show j = 0 ∨ j = 1 ∨ j = 2 ∨ j = 3 ∨ j = 4 ∨ j = 5 ∨ j = 6 ∨ j = 7 ∨ j = 8 ∨ j = 9 ∨ j = 10 ∨ j = 11 ∨ j = 12 by omega) with rfl | rfl | rfl | rfl | rfl | rfl | rfl | rfl | rfl | rfl | rfl | rfl | rfl
  · exact Or.inr (List.mem_of_getElem? (i := 108) rfl)
  · exact Or.inr (List.mem_of_getElem? (i := 109) rfl)
  · exact Or.inr (List.mem_of_getElem? (i := 110) rfl)
  · exact absurd rfl hn
  · exact Or.inl (List.mem_of_getElem? (i := 122) rfl)
  · exact Or.inl (List.mem_of_getElem? (i := 134) rfl)
  · exact Or.inl (List.mem_of_getElem? (i := 148) rfl)
  · exact Or.inl (List.mem_of_getElem? (i := 165) rfl)
  · exact Or.inl (List.mem_of_getElem? (i := 180) rfl)
  · exact Or.inl (List.mem_of_getElem? (i := 197) rfl)
  · exact Or.inl (List.mem_of_getElem? (i := 217) rfl)
  · exact Or.inl (List.mem_of_getElem? (i := 236) rfl)
  · exact Or.inr (List.mem_of_getElem? (i := 107) rfl)
theorem n_ne4 : ∀ j : Nat, j < 13 → 4 ≠ j → Cond.not (Cond.eq (sTm 4) (sTm j)) ∈ nFl ∨ Cond.not (Cond.eq (sTm j) (sTm 4)) ∈ nFl := by
  intro j hj hn
  rcases (show j = 0 ∨ j = 1 ∨ j = 2 ∨ j = 3 ∨ j = 4 ∨ j = 5 ∨ j = 6 ∨ j = 7 ∨ j = 8 ∨ j = 9 ∨ j = 10 ∨ j = 11 ∨ j = 12 by omega) with rfl | rfl | rfl | rfl | rfl | rfl | rfl | rfl | rfl | rfl | rfl | rfl | rfl
  · exact Or.inr (List.mem_of_getElem? (i := 119) rfl)
  · exact Or.inr (List.mem_of_getElem? (i := 120) rfl)
  · exact Or.inr (List.mem_of_getElem? (i := 121) rfl)
  · exact Or.inr (List.mem_of_getElem? (i := 122) rfl)
  · exact absurd rfl hn
  · exact Or.inl (List.mem_of_getElem? (i := 135) rfl)
  · exact Or.inl (List.mem_of_getElem? (i := 149) rfl)
  · exact Or.inl (List.mem_of_getElem? (i := 166) rfl)
  · exact Or.inl (List.mem_of_getElem? (i := 181) rfl)
  · exact Or.inl (List.mem_of_getElem? (i := 198) rfl)
  · exact Or.inl (List.mem_of_getElem? (i := 218) rfl)
  · exact Or.inl (List.mem_of_getElem? (i := 237) rfl)
  · exact Or.inr (List.mem_of_getElem? (i := 118) rfl)
theorem n_ne5 : ∀ j : Nat, j < 13 → 5 ≠ j → Cond.not (Cond.eq (sTm 5) (sTm j)) ∈ nFl ∨ Cond.not (Cond.eq (sTm j) (sTm 5)) ∈ nFl := by
  intro j hj hn
  rcases (show j = 0 ∨ j = 1 ∨ j = 2 ∨ j = 3 ∨ j = 4 ∨ j = 5 ∨ j = 6 ∨ j = 7 ∨ j = 8 ∨ j = 9 ∨ j = 10 ∨ j = 11 ∨ j = 12 by omega) with rfl | rfl | rfl | rfl | rfl | rfl | rfl | rfl | rfl | rfl | rfl | rfl | rfl
  · exact Or.inr (List.mem_of_getElem? (i := 131) rfl)
  · exact Or.inr (List.mem_of_getElem? (i := 132) rfl)
  · exact Or.inr (List.mem_of_getElem? (i := 133) rfl)
  · exact Or.inr (List.mem_of_getElem? (i := 134) rfl)
  · exact Or.inr (List.mem_of_getElem? (i := 135) rfl)
  · exact absurd rfl hn
  · exact Or.inl (List.mem_of_getElem? (i := 150) rfl)
  · exact Or.inl (List.mem_of_getElem? (i := 167) rfl)
  · exact Or.inl (List.mem_of_getElem? (i := 182) rfl)
  · exact Or.inl (List.mem_of_getElem? (i := 199) rfl)
  · exact Or.inl (List.mem_of_getElem? (i := 219) rfl)
  · exact Or.inl (List.mem_of_getElem? (i := 238) rfl)
  · exact Or.inr (List.mem_of_getElem? (i := 130) rfl)
theorem n_ne6 : ∀ j : Nat, j < 13 → 6 ≠ j → Cond.not (Cond.eq (sTm 6) (sTm j)) ∈ nFl ∨ Cond.not (Cond.eq (sTm j) (sTm 6)) ∈ nFl := by
  intro j hj hn
  rcases (show j = 0 ∨ j = 1 ∨ j = 2 ∨ j = 3 ∨ j = 4 ∨ j = 5 ∨ j = 6 ∨ j = 7 ∨ j = 8 ∨ j = 9 ∨ j = 10 ∨ j = 11 ∨ j = 12 by omega) with rfl | rfl | rfl | rfl | rfl | rfl | rfl | rfl | rfl | rfl | rfl | rfl | rfl
  · exact Or.inr (List.mem_of_getElem? (i := 145) rfl)
  · exact Or.inr (List.mem_of_getElem? (i := 146) rfl)
  · exact Or.inr (List.mem_of_getElem? (i := 147) rfl)
  · exact Or.inr (List.mem_of_getElem? (i := 148) rfl)
  · exact Or.inr (List.mem_of_getElem? (i := 149) rfl)
  · exact Or.inr (List.mem_of_getElem? (i := 150) rfl)
  · exact absurd rfl hn
  · exact Or.inl (List.mem_of_getElem? (i := 168) rfl)
  · exact Or.inl (List.mem_of_getElem? (i := 183) rfl)
  · exact Or.inl (List.mem_of_getElem? (i := 200) rfl)
  · exact Or.inl (List.mem_of_getElem? (i := 220) rfl)
  · exact Or.inl (List.mem_of_getElem? (i := 239) rfl)
  · exact Or.inr (List.mem_of_getElem? (i := 144) rfl)
theorem n_ne7 : ∀ j : Nat, j < 13 → 7 ≠ j → Cond.not (Cond.eq (sTm 7) (sTm j)) ∈ nFl ∨ Cond.not (Cond.eq (sTm j) (sTm 7)) ∈ nFl := by
  intro j hj hn
  rcases (show j = 0 ∨ j = 1 ∨ j = 2 ∨ j = 3 ∨ j = 4 ∨ j = 5 ∨ j = 6 ∨ j = 7 ∨ j = 8 ∨ j = 9 ∨ j = 10 ∨ j = 11 ∨ j = 12 by omega) with rfl | rfl | rfl | rfl | rfl | rfl | rfl | rfl | rfl | rfl | rfl | rfl | rfl
  · exact Or.inr (List.mem_of_getElem? (i := 162) rfl)
  · exact Or.inr (List.mem_of_getElem? (i := 163) rfl)
  · exact Or.inr (List.mem_of_getElem? (i := 164) rfl)
  · exact Or.inr (List.mem_of_getElem? (i := 165) rfl)
  · exact Or.inr (List.mem_of_getElem? (i := 166) rfl)
  · exact Or.inr (List.mem_of_getElem? (i := 167) rfl)
  · exact Or.inr (List.mem_of_getElem? (i := 168) rfl)
  · exact absurd rfl hn
  · exact Or.inl (List.mem_of_getElem? (i := 184) rfl)
  · exact Or.inl (List.mem_of_getElem? (i := 201) rfl)
  · exact Or.inl (List.mem_of_getElem? (i := 221) rfl)
  · exact Or.inl (List.mem_of_getElem? (i := 240) rfl)
  · exact Or.inr (List.mem_of_getElem? (i := 161) rfl)
theorem n_ne8 : ∀ j : Nat, j < 13 → 8 ≠ j → Cond.not (Cond.eq (sTm 8) (sTm j)) ∈ nFl ∨ Cond.not (Cond.eq (sTm j) (sTm 8)) ∈ nFl := by
  intro j hj hn
  rcases (show j = 0 ∨ j = 1 ∨ j = 2 ∨ j = 3 ∨ j = 4 ∨ j = 5 ∨ j = 6 ∨ j = 7 ∨ j = 8 ∨ j = 9 ∨ j = 10 ∨ j = 11 ∨ j = 12 by omega) with rfl | rfl | rfl | rfl | rfl | rfl | rfl | rfl | rfl | rfl | rfl | rfl | rfl
  · exact Or.inr (List.mem_of_getElem? (i := 177) rfl)
  · exact Or.inr (List.mem_of_getElem? (i := 178) rfl)
  · exact Or.inr (List.mem_of_getElem? (i := 179) rfl)
  · exact Or.inr (List.mem_of_getElem? (i := 180) rfl)
  · exact Or.inr (List.mem_of_getElem? (i := 181) rfl)
  · exact Or.inr (List.mem_of_getElem? (i := 182) rfl)
  · exact Or.inr (List.mem_of_getElem? (i := 183) rfl)
  · exact Or.inr (List.mem_of_getElem? (i := 184) rfl)
  · exact absurd rfl hn
  · exact Or.inl (List.mem_of_getElem? (i := 202) rfl)
  · exact Or.inl (List.mem_of_getElem? (i := 222) rfl)
  · exact Or.inl (List.mem_of_getElem? (i := 241) rfl)
  · exact Or.inr (List.mem_of_getElem? (i := 176) rfl)
theorem n_ne9 : ∀ j : Nat, j < 13 → 9 ≠ j → Cond.not (Cond.eq (sTm 9) (sTm j)) ∈ nFl ∨ Cond.not (Cond.eq (sTm j) (sTm 9)) ∈ nFl := by
  intro j hj hn
  rcases (show j = 0 ∨ j = 1 ∨ j = 2 ∨ j = 3 ∨ j = 4 ∨ j = 5 ∨ j = 6 ∨ j = 7 ∨ j = 8 ∨ j = 9 ∨ j = 10 ∨ j = 11 ∨ j = 12 by omega) with rfl | rfl | rfl | rfl | rfl | rfl | rfl | rfl | rfl | rfl | rfl | rfl | rfl
  · exact Or.inr (List.mem_of_getElem? (i := 194) rfl)
  · exact Or.inr (List.mem_of_getElem? (i := 195) rfl)
  · exact Or.inr (List.mem_of_getElem? (i := 196) rfl)
  · exact Or.inr (List.mem_of_getElem? (i := 197) rfl)
  · exact Or.inr (List.mem_of_getElem? (i := 198) rfl)
  · exact Or.inr (List.mem_of_getElem? (i := 199) rfl)
  · exact Or.inr (List.mem_of_getElem? (i := 200) rfl)
  · exact Or.inr (List.mem_of_getElem? (i := 201) rfl)
  · exact Or.inr (List.mem_of_getElem? (i := 202) rfl)
  · exact absurd rfl hn
  · exact Or.inl (List.mem_of_getElem? (i := 223) rfl)
  · exact Or.inl (List.mem_of_getElem? (i := 242) rfl)
  · exact Or.inr (List.mem_of_getElem? (i := 193) rfl)
theorem n_ne10 : ∀ j : Nat, j < 13 → 10 ≠ j → Cond.not (Cond.eq (sTm 10) (sTm j)) ∈ nFl ∨ Cond.not (Cond.eq (sTm j) (sTm 10)) ∈ nFl := by
  intro j hj hn
  rcases (show j = 0 ∨ j = 1 ∨ j = 2 ∨ j = 3 ∨ j = 4 ∨ j = 5 ∨ j = 6 ∨ j = 7 ∨ j = 8 ∨ j = 9 ∨ j = 10 ∨ j = 11 ∨ j = 12 by omega) with rfl | rfl | rfl | rfl | rfl | rfl | rfl | rfl | rfl | rfl | rfl | rfl | rfl
  · exact Or.inr (List.mem_of_getElem? (i := 214) rfl)
  · exact Or.inr (List.mem_of_getElem? (i := 215) rfl)
  · exact Or.inr (List.mem_of_getElem? (i := 216) rfl)
  · exact Or.inr (List.mem_of_getElem? (i := 217) rfl)
  · exact Or.inr (List.mem_of_getElem? (i := 218) rfl)
  · exact Or.inr (List.mem_of_getElem? (i := 219) rfl)
  · exact Or.inr (List.mem_of_getElem? (i := 220) rfl)
  · exact Or.inr (List.mem_of_getElem? (i := 221) rfl)
  · exact Or.inr (List.mem_of_getElem? (i := 222) rfl)
  · exact Or.inr (List.mem_of_getElem? (i := 223) rfl)
  · exact absurd rfl hn
  · exact Or.inl (List.mem_of_getElem? (i := 243) rfl)
  · exact Or.inr (List.mem_of_getElem? (i := 213) rfl)
theorem n_ne11 : ∀ j : Nat, j < 13 → 11 ≠ j → Cond.not (Cond.eq (sTm 11) (sTm j)) ∈ nFl ∨ Cond.not (Cond.eq (sTm j) (sTm 11)) ∈ nFl := by
  intro j hj hn
  rcases (show j = 0 ∨ j = 1 ∨ j = 2 ∨ j = 3 ∨ j = 4 ∨ j = 5 ∨ j = 6 ∨ j = 7 ∨ j = 8 ∨ j = 9 ∨ j = 10 ∨ j = 11 ∨ j = 12 by omega) with rfl | rfl | rfl | rfl | rfl | rfl | rfl | rfl | rfl | rfl | rfl | rfl | rfl
  · exact Or.inr (List.mem_of_getElem? (i := 233) rfl)
  · exact Or.inr (List.mem_of_getElem? (i := 234) rfl)
  · exact Or.inr (List.mem_of_getElem? (i := 235) rfl)
  · exact Or.inr (List.mem_of_getElem? (i := 236) rfl)
  · exact Or.inr (List.mem_of_getElem? (i := 237) rfl)
  · exact Or.inr (List.mem_of_getElem? (i := 238) rfl)
  · exact Or.inr (List.mem_of_getElem? (i := 239) rfl)
  · exact Or.inr (List.mem_of_getElem? (i := 240) rfl)
  · exact Or.inr (List.mem_of_getElem? (i := 241) rfl)
  · exact Or.inr (List.mem_of_getElem? (i := 242) rfl)
  · exact Or.inr (List.mem_of_getElem? (i := 243) rfl)
  · exact absurd rfl hn
  · exact Or.inr (List.mem_of_getElem? (i := 232) rfl)
theorem n_ne12 : ∀ j : Nat, j < 13 → 12 ≠ j → Cond.not (Cond.eq (sTm 12) (sTm j)) ∈ nFl ∨ Cond.not (Cond.eq (sTm j) (sTm 12)) ∈ nFl := by
  intro j hj hn
  rcases (show j = 0 ∨ j = 1 ∨ j = 2 ∨ j = 3 ∨ j = 4 ∨ j = 5 ∨ j = 6 ∨ j = 7 ∨ j = 8 ∨ j = 9 ∨ j = 10 ∨ j = 11 ∨ j = 12 by omega) with rfl | rfl | rfl | rfl | rfl | rfl | rfl | rfl | rfl | rfl | rfl | rfl | rfl
  · exact Or.inl (List.mem_of_getElem? (i := 76) rfl)
  · exact Or.inl (List.mem_of_getElem? (i := 86) rfl)
  · exact Or.inl (List.mem_of_getElem? (i := 98) rfl)
  · exact Or.inl (List.mem_of_getElem? (i := 107) rfl)
  · exact Or.inl (List.mem_of_getElem? (i := 118) rfl)
  · exact Or.inl (List.mem_of_getElem? (i := 130) rfl)
  · exact Or.inl (List.mem_of_getElem? (i := 144) rfl)
  · exact Or.inl (List.mem_of_getElem? (i := 161) rfl)
  · exact Or.inl (List.mem_of_getElem? (i := 176) rfl)
  · exact Or.inl (List.mem_of_getElem? (i := 193) rfl)
  · exact Or.inl (List.mem_of_getElem? (i := 213) rfl)
  · exact Or.inl (List.mem_of_getElem? (i := 232) rfl)
  · exact absurd rfl hn
theorem n_ne : ∀ i : Nat, i < 13 → ∀ j : Nat, j < 13 → i ≠ j → Cond.not (Cond.eq (sTm i) (sTm j)) ∈ nFl ∨ Cond.not (Cond.eq (sTm j) (sTm i)) ∈ nFl := by
  intro i hi
  rcases (show i = 0 ∨ i = 1 ∨ i = 2 ∨ i = 3 ∨ i = 4 ∨ i = 5 ∨ i = 6 ∨ i = 7 ∨ i = 8 ∨ i = 9 ∨ i = 10 ∨ i = 11 ∨ i = 12 by omega) with rfl | rfl | rfl | rfl | rfl | rfl | rfl | rfl | rfl | rfl | rfl | rfl | rfl
  · exact n_ne0
  · exact n_ne1
  · exact n_ne2
  · exact n_ne3
  · exact n_ne4
  · exact n_ne5
  · exact n_ne6
  · exact n_ne7
  · exact n_ne8
  · exact n_ne9
  · exact n_ne10
  · exact n_ne11
  · exact n_ne12
theorem n_cs : Cond.eq (.static RJ0 "COMPACT_STRINGS" "Z") (.int 1) ∈ nFl := List.mem_of_getElem? (i := 4) rfl
theorem n_sf : Cond.isRef (.static RJ3 "SIOOBE_FORMATTER" "Ljava/util/function/BiFunction;") ∈ nFl := List.mem_of_getElem? (i := 5) rfl
set_option maxRecDepth 100000 in
theorem whole_start_of {Rel : TX → ST → ST → Prop} (hS : PSall Rel) (hI : PSinit Rel) {p : Program} {e : Env} {s : State} {m : MethodId} {below : List Frame} {meth : Method} {c : Code} (l : Launch) {b L : Nat} {xs : Nat → Int32} (hL : L ≤ 3584) (C0 : lw_At p s m meth c b L xs) : W p l e room_1 s m #[Value.ref b] below meth c s.heap [] 0 0 (lw_Z below #[Value.ref b] s) (entryFrame m ([Value.ref b] : List Value).toArray 4) := by
  obtain ⟨hx, hb, hr, hml, hown, hts, hX, hbl, hlocks, hgv⟩ := id C0
  have hok := lw_ok_hts hts
  have hs : ∀ c ∈ nFl, c.before #[Value.ref b] s = true := flat_of_before _ hgv
  have hA : ∀ a : Nat, a < s.heap.size → ¬ (fun q : Nat => s.heap.size ≤ q) a := fun a h => Nat.not_le.mpr h
  obtain ⟨c0, i0, K0⟩ := u_known (C := RX0) (T := TX0) (N := 12) (n := 12) hok uw_X0 (hok _ winst_RX0)
  obtain ⟨c1, i1, K1⟩ := u_known (C := RX1) (T := TX1) (N := 3) (n := 3) hok uw_X1 (hok _ winst_RX1)
  obtain ⟨c2, i2, K2⟩ := u_known (C := RX2) (T := TX2) (N := 9) (n := 9) hok uw_X2 (hok _ winst_RX2)
  obtain ⟨c3, i3, K3⟩ := u_known (C := RX3) (T := TX3) (N := 2) (n := 2) hok uw_X3 (hok _ winst_RX3)
  obtain ⟨c4, i4, K4⟩ := u_known (C := RX4) (T := TX4) (N := 9) (n := 9) hok uw_X4 (hok _ winst_RX4)
  obtain ⟨c5, i5, K5⟩ := u_known (C := RX5) (T := TX5) (N := 33) (n := 33) hok uw_X5 (hok _ winst_RX5)
  obtain ⟨dC, dI, hKc⟩ : ∃ (dC : Nat → ClassId) (dI : Nat → Nat → Nat), ∀ (k : Nat) (q : vw_C), vwCl[k]? = some q → u_Kn s q.1 q.2.1 q.2.2 (dC k) (dI k) := by
    refine ⟨fun k => if k = 0 then c0 else if k = 1 then c1 else if k = 2 then c2 else if k = 3 then c3 else if k = 4 then c4 else c5, fun k => if k = 0 then i0 else if k = 1 then i1 else if k = 2 then i2 else if k = 3 then i3 else if k = 4 then i4 else i5, ?_⟩
    intro k q hq
    have hk : k < 6 := (List.getElem?_eq_some_iff.mp hq).1
    rcases (show k = 0 ∨ k = 1 ∨ k = 2 ∨ k = 3 ∨ k = 4 ∨ k = 5 by omega) with rfl | rfl | rfl | rfl | rfl | rfl
    · cases hq; exact K0
    · cases hq; exact K1
    · cases hq; exact K2
    · cases hq; exact K3
    · cases hq; exact K4
    · cases hq; exact K5
  obtain ⟨cI, kI, pI, a1, a2, a3⟩ := Cond.arrayClass_spec (args := #[Value.ref b]) (first := s) (o := none) (idx := []) (hok _ warr_int)
  obtain ⟨pX, cX, kX, b1, -, b2, b3, b4⟩ := Cond.arrayOver_spec (args := #[Value.ref b]) (first := s) (o := none) (idx := []) (hts _ nw_aoX)
  obtain ⟨pH, cH, kH, d1, -, d2, d3, d4⟩ := Cond.arrayOver_spec (args := #[Value.ref b]) (first := s) (o := none) (idx := []) (hts _ nw_aoH)
  have hK : va_K (dC, dI) vwCl [(cI, .int), (cX, .object RX3), (cH, .object RX1)] s := by
    refine ⟨hKc, fun k q hq => ?_⟩
    have hk : k < 3 := (List.getElem?_eq_some_iff.mp hq).1
    rcases (show k = 0 ∨ k = 1 ∨ k = 2 by omega) with rfl | rfl | rfl
    · cases hq; exact ⟨fun n z => ⟨fun k h => (by cases h), kI, a2, pI, a3⟩, a1⟩
    · cases hq; exact ⟨fun n z => ⟨fun k h => (by cases h), kX, b2, pX, b3⟩, kX, pX, b2, b3, b1, b4⟩
    · cases hq; exact ⟨fun n z => ⟨fun k h => (by cases h), kH, d2, pH, d3⟩, kH, pH, d2, d3, d1, d4⟩
  obtain ⟨adK, adV, hvS, hvK⟩ := vk_Sof (args := #[Value.ref b]) (s := s) (N := 13) (tm := sTm) (len := sLen) (byt := sByt) (A := fun q : Nat => s.heap.size ≤ q) (by decide) (fun i hi => hs _ (n_ex i hi)) (fun i hi => hs _ (n_co i hi)) (fun i hi => hs _ (n_ar i hi)) (fun i hi => hs _ (n_le i hi)) (fun i hi j hj => hs _ (n_el i hi j hj)) (fun i j hi hj hij => (n_ne i hi j hj hij).imp (hs _) (hs _)) hA
  have hR : ∀ (o : String) (k : Nat) (t : String) (i : Nat), i < 13 → Cond.stringRef o k t ∈ lw_tbl → sTm i = .string o k → vk_R o k t (adK i) s := fun o k t i hi hw ht => vk_R.of (hts _ hw) (by rw [← ht]; exact hvK i hi)
  let G0 : JG := (l, (dC, dI), (cI, cX, cH), fun _ => 0, fun _ _ => 0, T0, adK, adV)
  let W0 : ST → va_W := fun _ => []
  have hZ : ZI G0 (fun q : Nat => s.heap.size ≤ q) s := by
    refine ⟨⟨⟨va_Nw.of rfl (hts _ nw_n1), va_Nw.of rfl (hts _ nw_n2)⟩, ?_, hvS, va_Zof (hts _ nw_ls0) (hok _ wini_RJ0) (va_eqi (hs _ n_cs)) hA, va_Zqof (hts _ nw_ls3) (hok _ wini_RJ3) (hs _ n_sf) hA⟩, va_AO.of (hts _ nw_aoX), va_AO.of (hts _ nw_aoH), va_Nw.of rfl (hts _ nw_n3), va_Nw.of rfl (hts _ nw_n4)⟩
    exact ⟨hR RX2 106 _ 0 (by decide) nw_s0 rfl, hR RX2 108 _ 1 (by decide) nw_s1 rfl, hR RX2 110 _ 2 (by decide) nw_s2 rfl, hR RX2 112 _ 3 (by decide) nw_s3 rfl, hR RX2 114 _ 4 (by decide) nw_s4 rfl, hR RX2 116 _ 5 (by decide) nw_s5 rfl, hR RX2 118 _ 6 (by decide) nw_s6 rfl, hR RX2 120 _ 7 (by decide) nw_s7 rfl, hR RX2 122 _ 8 (by decide) nw_s8 rfl, hR RX2 124 _ 9 (by decide) nw_s9 rfl, hR RX2 126 _ 10 (by decide) nw_s10 rfl, hR RX2 128 _ 11 (by decide) nw_s11 rfl, hR RX4 18 _ 12 (by decide) nw_s12 rfl⟩
  have X : XR (lE p l e s m b below meth c (VI G0 W0)) 4 cL_law RL (some .boolean) 2048 84000 600000 7302250 (gI G0) := ⟨⟨⟨hx, hb, hml, hown, hok⟩, hK, fun q h => h, hr, hlocks, rfl, ⟨Nat.zero_le _, Nat.zero_le _⟩, VI_ok G0 W0, hZ⟩, rfl, rfl⟩
  obtain ⟨σe, σm, hre, hrm, hrel⟩ := hI
  have key : JR (lE p l e s m b below meth c (VI G0 W0)) 4 (lw_Z below #[Value.ref b] s) [(0, .ref b)] 0 [] [] 0 0 := by
    refine R_new (ci := 4) dX4 X uw_X4 tyX4 tyX4_ok wcll_RL_7 winst_RX4 wini_RX4 rfl (fun j hj => by rcases (show j = 0 ∨ j = 1 ∨ j = 2 ∨ j = 3 ∨ j = 4 ∨ j = 5 ∨ j = 6 ∨ j = 7 ∨ j = 8 by omega) with rfl | rfl | rfl | rfl | rfl | rfl | rfl | rfl | rfl <;> rfl) (Nat.le_of_ble_eq_true rfl) (Nat.le_of_ble_eq_true rfl) dL_law_0 (fun h0 => ?_)
    refine R_dup X dL_law_3 rfl ?_
    refine L_cI (As := []) (wr := []) (wc := [(h0, .inr (4, dX4))]) (st := [.ref h0]) X (i_X4_init G0 W0 h0 σe hre) rfl wi_X4_init rfl win_X4_init wml_RL_9 ⟨Nat.le_of_ble_eq_true rfl, Nat.le_of_ble_eq_true rfl⟩ ⟨Nat.le_of_ble_eq_true rfl, Nat.le_of_ble_eq_true rfl⟩ rfl (Nat.le_of_ble_eq_true rfl) dL_law_4 (fun x hx0 => ?_)
    refine R_astore_n [(1, .ref h0), (0, .ref b)] X dL_law_7 rfl (by decide) rfl ?_
    refine R_new (ci := 5) dX5 X uw_X5 tyX5 tyX5_ok wcll_RL_10 winst_RX5 wini_RX5 rfl (fun j hj => ?_) (Nat.le_of_ble_eq_true rfl) (Nat.le_of_ble_eq_true rfl) dL_law_8 (fun h5 => ?_)
    · rcases (show j = 0 ∨ j = 1 ∨ j = 2 ∨ j = 3 ∨ j = 4 ∨ j = 5 ∨ j = 6 ∨ j = 7 ∨ j = 8 ∨ j = 9 ∨ j = 10 ∨ j = 11 ∨ j = 12 ∨ j = 13 ∨ j = 14 ∨ j = 15 ∨ j = 16 ∨ j = 17 ∨ j = 18 ∨ j = 19 ∨ j = 20 ∨ j = 21 ∨ j = 22 ∨ j = 23 ∨ j = 24 ∨ j = 25 ∨ j = 26 ∨ j = 27 ∨ j = 28 ∨ j = 29 ∨ j = 30 ∨ j = 31 ∨ j = 32 by omega) with rfl | rfl | rfl | rfl | rfl | rfl | rfl | rfl | rfl | rfl | rfl | rfl | rfl | rfl | rfl | rfl | rfl | rfl | rfl | rfl | rfl | rfl | rfl | rfl | rfl | rfl | rfl | rfl | rfl | rfl | rfl | rfl | rfl <;> rfl
    refine R_dup X dL_law_11 rfl ?_
    refine L_cI (As := []) (wr := wC (gC1 G0 x.1 x.2.1 (tC1 x.2.2 σe)) (sC1 σe)) (wc := [(h5, .inr (5, dX5))]) (st := [.ref h5]) X (i_X5_init (V := VI G0 W0) G0 (VI_ok G0 W0) rfl rfl h5 σm hrm) rfl wi_X5_init rfl win_X5_init wml_RL_12 ⟨Nat.le_of_ble_eq_true rfl, Nat.le_of_ble_eq_true rfl⟩ ⟨Nat.le_of_ble_eq_true rfl, Nat.le_of_ble_eq_true rfl⟩ rfl (Nat.le_of_ble_eq_true rfl) dL_law_12 (fun y hy0 => ?_)
    refine R_astore_n [(2, .ref h5), (1, .ref h0), (0, .ref b)] X dL_law_15 rfl (by decide) rfl ?_
    refine R_iconst (v := (0 : Int32)) X dL_law_16 (by decide) ?_
    refine R_istore_n [(3, .int 0), (2, .ref h5), (1, .ref h0), (0, .ref b)] X dL_law_17 rfl (by decide) rfl ?_
    refine R_sub [3, 2, 1, 0] rfl ?_
    obtain ⟨y1, y2⟩ := y
    cases hy0
    have hg0 : gO (gC1 G0 x.1 x.2.1 (tC1 x.2.2 σe)) 0 = h0 := hx0
    have fin := law_loop (G0 := G0) (W0 := W0) (GM := gM0 G0 h5 y1) hS X rfl rfl ⟨rfl, rfl, rfl, rfl⟩ hX hbl hL (L + 1) 0 (Nat.zero_le _) (by omega) (gC1 G0 x.1 x.2.1 (tC1 x.2.2 σe)) (sC1 σe) y2 ⟨rfl, rfl, rfl, rfl⟩ (hrel x.2.2)
    rw [hg0] at fin
    exact R_wid (Nat.le_of_ble_eq_true rfl) (Nat.le_of_ble_eq_true rfl) fin
  have hl := lv_entry ([.ref b]) (n := 4) (Nat.le_of_ble_eq_true rfl)
  rw [lg_entry_eq]
  generalize (lg_sl ([.ref b]) ++ List.replicate (4 - (lg_sl ([.ref b])).length) Slot.unset).toArray = ls at hl ⊢
  exact key s.heap [] ls (fun k q h => by simp at h) ⟨fun i j p q h => by simp at h, fun k q h => by simp at h⟩ va_S.rf hl
