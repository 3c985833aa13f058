section RKeeps
variable {E : JE} {nL F L MC MS : Nat} {cI : ClassId} {cc : ByteArray} {own : String} {ret : Option FieldType} {Q : State → Prop} {lv : List (Nat × Value)} {pc : Nat} {st : List Value} {ws : va_W} {kc ks : Nat}
/-- behind a call that leaves its world as it was, and makes new cells -/
theorem R_callK {S : Type} {val : S → Option Value} {post : S → Prop} {nw : S → va_W} {wc : va_W} {mk : Array Value} {st0 : List Value} {MC1 MS1 : Nat} (isC : List Nat) (X : XR E nL cc own ret F L MC MS cI) (hC : isC.map (fun i => ws[i]?) = wc.map some) (hcn : va_nd isC = true)
    (hrun : ∀ (H : Heap) (locs : List Loc) (ls : Array Slot), va_P (jV E).1 vwCl ws H → va_D (jA E) ws → va_S (jA E) (jS E).heap H locs → lv_has ls nL lv → va_P (jV E).1 vwCl wc H → va_D (jA E) wc → va_Run E.1.1 E.1.2.1 E.1.2.2.1 (jR E) (jS E) (jM E) (jG E) (jB E) (jT E) (jC E) H locs kc ks MC1 MS1 (F0 (jM E) pc ls st0) st (RPost (jV E) (va_A wc H.size) val post (fun x => wc ++ nw x) mk) (va_A wc H.size))
    (kk : ∀ x : S, post x → JR E nL Q lv (pc + 3) ((val x).toList ++ st) (ws ++ nw x) (kc + MC1) (ks + MS1)) : JR E nL Q lv pc st0 ws kc ks := by
  intro H locs ls hP hD hS hl
  have inC : ∀ (k : Nat) (q : Nat × va_E), wc[k]? = some q → ∃ i, isC[k]? = some i ∧ ws[i]? = some q := by
    intro k q hk
    have h1 : (isC.map (fun i => ws[i]?))[k]? = some (some q) := by rw [hC, List.getElem?_map, hk]; rfl
    rw [List.getElem?_map] at h1
    cases hi : isC[k]? with
    | none => rw [hi] at h1; cases h1
    | some i => rw [hi] at h1; exact ⟨i, rfl, Option.some.inj h1⟩
  have hPc : va_P (jV E).1 vwCl wc H := by
    intro k q hk
    obtain ⟨i, -, hi⟩ := inC k q hk
    exact hP i q hi
  have hF := va_free hD hS X.1.2.2.1 isC hC
  have hDw : va_D (jA E) wc := hD.sub isC hcn hC
  intro T hT XX
  obtain ⟨v, st₀, t, T', Lc, h0, X', hL, e1, e2, ⟨⟨x, hv, hp, hP1, hK1, hD1⟩, hz, hk⟩, stp⟩ := hrun H locs ls hP hD hS hl hPc hDw T hT XX
  rw [h0] at hz hk
  have hv : v = val x := by injection hv
  subst hv
  have newA : ∀ (j : Nat) (q : Nat × va_E), (nw x)[j]? = some q → (wc ++ nw x)[wc.length + j]? = some q := by
    intro j q hj
    rw [List.getElem?_append_right (Nat.le_add_right _ _), Nat.add_sub_cancel_left]
    exact hj
  have oldA : ∀ (j : Nat) (q : Nat × va_E), wc[j]? = some q → (wc ++ nw x)[j]? = some q := by
    intro j q hj
    rw [List.getElem?_append_left (List.getElem?_eq_some_iff.mp hj).1]
    exact hj
  have apart : ∀ (i j : Nat) (p q : Nat × va_E), ws[i]? = some p → (nw x)[j]? = some q → p.1 ≠ q.1 := by
    intro i j p q hi hj hpq
    have hlt := (hP i p hi).lt
    rcases hD1.2 _ _ (newA j q hj) with ⟨k', e, hk'⟩ | h
    · have := hD1.1 k' (wc.length + j) _ _ (oldA k' _ hk') (newA j q hj) rfl
      have hl2 := (List.getElem?_eq_some_iff.mp hk').1
      omega
    · omega
  have hPj : va_P (jV E).1 vwCl (ws ++ nw x) t.heap := by
    refine va_P.app (fun k q hq => ?_) (fun j q hj => hP1 _ _ (newA j q hj))
    by_cases hw : ∃ k' : Nat, wc[k']? = some q
    · obtain ⟨k', hk'⟩ := hw
      exact hP1 _ _ (oldA k' q hk')
    · refine (hP k q hq).kept (hk q.1 (hP k q hq).lt ?_)
      rintro (⟨k', e, hk'⟩ | h)
      · obtain ⟨i, -, hi⟩ := inC k' _ hk'
        have hki := hD.1 k i q _ hq hi rfl
        subst hki
        have : q = (q.1, e) := Option.some.inj (hq.symm.trans hi)
        exact hw ⟨k', by rw [this]; exact hk'⟩
      · have := (hP k q hq).lt
        omega
  have hDn : va_D (jA E) (nw x) := ⟨fun i j p q hi hj hpq => by
      have := hD1.1 _ _ _ _ (newA i p hi) (newA j q hj) hpq
      omega, fun k q hk2 => hF _ (hD1.2 _ _ (newA k q hk2))⟩
  have hDj : va_D (jA E) (ws ++ nw x) := va_D.app hD hDn apart
  have hS1 : va_S (jA E) (jS E).heap T'.heap (locs ++ Lc) := ⟨Nat.le_trans hS.1 (by rw [e1]; exact hz), fun q h1 h2 => by rw [e1, hk q (Nat.lt_of_lt_of_le h1 hS.1) (fun z => h2 (hF q z))]; exact hS.2.1 q h1 h2, fun q hq => by
      rcases List.mem_append.mp hq with h | h
      · exact hS.2.2 q h
      · exact hF _ (hL q h)⟩
  obtain ⟨t2, a1, b1⟩ := kk x hp T'.heap (locs ++ Lc) ls (by rw [e1]; exact hPj) hDj hS1 hl T' rfl X'
  exact ⟨t2, stp t2 a1, b1⟩
theorem R_cVK {S : Type} {val : S → Option Value} {post : S → Prop} {nw : S → va_W} {As : List Value} {b n index maxL F1 L1 MC1 MS1 q ci : Nat} {y : MethodName} {bytes : ByteArray} {ret1 : Option FieldType} {fs : List Value} {rc : vw_C} {wc : va_W} {st0 : List Value} (isC : List Nat) (X : XR E nL cc own ret F L MC MS cI) (hM : RMet (jV E) (jL E) y bytes maxL ret1 F1 L1 MC1 MS1 (.ref b :: As) wc val post (fun x => wc ++ nw x)) (hC : isC.map (fun i => ws[i]?) = wc.map some) (hcn : va_nd isC = true) (hst0 : st0 = As.reverse ++ .ref b :: st) (hrec : ws[q]? = some (b, .inr (ci, fs))) (hc : vwCl[ci]? = some rc) (hrc : rc.1 = y.cls) (hw : WI y bytes maxL ret1 n) (hi : Cond.instanceMethod y ∈ lw_ok) (hs : Cond.selects y.cls y y ∈ lw_ok) (hlink : Cond.methodLink own index y ∈ lw_ok) (hRm : F1 + 1 ≤ F ∧ 8 + (maxL + 11) + L1 ≤ L) (hfit : kc + MC1 ≤ MC ∧ ks + MS1 ≤ MS) (hn : As.length = n) (hsum : (st.map fun v => v.category).sum ≤ 8) (hdg : decode cc pc = .ok (.invokevirtual index, 3))
    (kk : ∀ x : S, post x → JR E nL Q lv (pc + 3) ((val x).toList ++ st) (ws ++ nw x) (kc + MC1) (ks + MS1)) : JR E nL Q lv pc st0 ws kc ks := by
  have hR' := XR_R X
  refine R_callK (mk := (Value.ref b :: As).toArray) isC X hC hcn (fun H locs ls hP hD hS hl hPc hDc => ?_) kk
  have hpre := R_pre X hPc hDc hS (.ref b :: As)
  exact va_runV (C := y.cls) (As := As) (rest := st) X.1.1 (hM H.size) ⟨R_cb X hw hlink hRm, rxt X _ hi, rxt X _ hs⟩ ⟨hpre.1, by rw [← hrc]; exact va_recv X.1.2.1 hP hc hrec, hpre.2⟩ rfl hn hl.1 hst0 (lv_room (pc := pc) (ls := ls) (rest := st0) (m := jM E) hsum) hdg (by rw [hR']; exact hfit)
end RKeeps
section RIret
variable {E : JE} {nL F L MC MS : Nat} {cI : ClassId} {cc : ByteArray} {own : String} {lv : List (Nat × Value)} {pc : Nat} {ws : va_W} {S : Type} {val : S → Option Value} {post : S → Prop} {w1 : S → va_W} {V : JV}
theorem R_iret {a : Int32} (x : S) (hval : val x = some (.int a)) (hp : post x) (hw : ws = w1 x) (hV : jV E = V) (X : XR E nL cc own (some .int) F L MC MS cI) (hdg : decode cc pc = .ok (.ireturn, 1)) : JR E nL (MQ (jB E) (RPost V (jA E) val post w1) (jG E) (jS E) MC MS (jA E)) lv pc [.int a] ws MC MS := by
  subst hV
  intro H locs ls hP hD hS hl
  subst hw
  exact W.iret (rxx X) (rxb X) X.1.2.2.2.1 (fun t ht hW => ⟨⟨x, by rw [hval], hp, by rw [ht]; exact hP, va_K.moved hW.alike X.1.2.1, hD⟩, hS.F ht⟩) hS.2.2 hdg X.1.2.2.2.2.1
end RIret
/-! a new text -/
def tAdd (T : TX) (q : Nat × Nat × Nat) (σ : ST) : TX := (tN T + 1, fun t => if t = tN T then ((q.1, q.2.1, q.2.2, (txZ (gs 1 7 σ)).toNatClampNeg), txC (ga 1 6 σ) (gs 1 7 σ), txE (ga 1 8 σ) (gs 1 7 σ)) else T.2 t)
def gAdd (G : JG) (q : Nat × Nat × Nat) (σ : ST) : JG := (G.1, G.2.1, G.2.2.1, G.2.2.2.1, G.2.2.2.2.1, tAdd (gT G) q σ, G.2.2.2.2.2.2)
theorem wT_congr (I : ClassId) (T T' : TX) : ∀ n, (∀ t, t < n → T.2 t = T'.2 t) → wT I T n = wT I T' n := by
  intro n
  induction n with
  | zero => intro _; rfl
  | succ n ih =>
    intro h
    rw [wT, wT, ih (fun t ht => h t (Nat.lt_succ_of_lt ht))]
    unfold tO tC tE tL tCode tEnds txF tC tE
    rw [h n (Nat.lt_succ_self n)]
theorem wC_add (G : JG) (q : Nat × Nat × Nat) (σ : ST) (v : Int32) : ((wC G σ ++ wTx (gI G) (ga 1 6 σ) (ga 1 8 σ) (gs 1 7 σ) q).set 1 (gA G 0 0, .inl (gX G, 6, .inr (.inr (.inr (.inr (va_up (fun t => if t < tN (gT G) then some (tO (gT G) t) else none) (tN (gT G)) (some q.1)))))))).set 0 (gO G 0, .inr (4, (mnF G σ).set 1 (.int v))) = wC (gAdd G q (ps 0 1 v σ)) (ps 0 1 v σ) := by
  have e0 : wT (gI G) (gT (gAdd G q (ps 0 1 v σ))) (tN (gT G)) = wT (gI G) (gT G) (tN (gT G)) := wT_congr _ _ _ _ (fun t ht => by
    show (if t = tN (gT G) then _ else _) = _
    rw [if_neg (by omega)])
  have e1 : wT (gI G) (gT (gAdd G q (ps 0 1 v σ))) (tN (gT (gAdd G q (ps 0 1 v σ)))) = wT (gI G) (gT G) (tN (gT G)) ++ wTx (gI G) (ga 1 6 σ) (ga 1 8 σ) (gs 1 7 σ) q := by
    show wT (gI G) (gT (gAdd G q (ps 0 1 v σ))) (tN (gT G) + 1) = _
    rw [wT, e0]
    congr 1
    have e2 : (gT (gAdd G q (ps 0 1 v σ))).2 (tN (gT G)) = ((q.1, q.2.1, q.2.2, (txZ (gs 1 7 σ)).toNatClampNeg), txC (ga 1 6 σ) (gs 1 7 σ), txE (ga 1 8 σ) (gs 1 7 σ)) := by
      show (if tN (gT G) = tN (gT G) then _ else _) = _
      rw [if_pos rfl]; rfl
    unfold txF tO tC tE tL tCode tEnds wTx
    rw [e2]
  show ((wC0 G σ ++ wT (gI G) (gT G) (tN (gT G)) ++ _).set 1 _).set 0 _ = wC0 (gAdd G q (ps 0 1 v σ)) (ps 0 1 v σ) ++ wT (gI G) (gT (gAdd G q (ps 0 1 v σ))) (tN (gT (gAdd G q (ps 0 1 v σ))))
  rw [e1, List.append_assoc]
  rw [List.set_append_left _ _ (by show 1 < 41; decide), List.set_append_left _ _ (by rw [List.length_set]; show 0 < 41; decide)]
  congr 1
  have e3 : va_up (fun t => if t < tN (gT G) then some (tO (gT G) t) else none) (tN (gT G)) (some q.1) = fun t => if t < tN (gT (gAdd G q (ps 0 1 v σ))) then some (tO (gT (gAdd G q (ps 0 1 v σ))) t) else none := by
    funext t
    show (if t = tN (gT G) then _ else _) = if t < tN (gT G) + 1 then some (if t = tN (gT G) then _ else (gT G).2 t).1.1 else none
    by_cases h : t = tN (gT G)
    · rw [if_pos h, if_pos (by omega), if_pos h]
    · rw [if_neg h, if_neg h]
      show (if t < tN (gT G) then some (tO (gT G) t) else none) = _
      by_cases h2 : t < tN (gT G)
      · rw [if_pos h2, if_pos (by omega)]; rfl
      · rw [if_neg h2, if_neg (by omega)]
  rw [e3]
  rfl
noncomputable section
def f_X4_textA (T : TX) (σ : ST) : Option ((Int32 × Bool) × ST) := if gs 0 1 σ < (6 : Int32) then bnd (f_X2_isText T σ) (fun y t => put 1 1 (0 : Int32) t (fun t2 => if y = 0 then some (((-100 : Int32) - gs 1 2 t2, false), t2) else some ((0, true), t2))) else some (((-4 : Int32), false), σ)
end
def qTx (E : JE) (G : JG) (r : Int32) (b : Bool) (σ1 : ST) : State → Prop := MQ (jB E) (RPost (VC G) (jA E) (fun _ : Nat × Nat × Nat => some (.int r)) (fun _ => True) (fun q => if b then wC (gAdd G q σ1) σ1 else wC G σ1)) (jG E) (jS E) 3 165 (jA E)
set_option maxRecDepth 100000 in
set_option maxHeartbeats 4000000 in
/-- a new text: pc 43 on -/
theorem r_X4_text {E : JE} {G : JG} {F L : Nat} (e1 : jL E = G.1) (e2 : jV E = VC G) (X : XR E 2 cX4_text RX4 (some .int) F L 3 165 (gI G)) (hF : 3 ≤ F) (hL : 200 ≤ L) (σ : ST) (hn : (gs 0 1 σ).toNatClampNeg = tN (gT G)) (hi : vp_in (gs 0 1 σ) 6) : JR E 2 (qTx E G (gs 0 1 σ) true (ps 0 1 (gs 0 1 σ + 1) σ)) [(0, .ref (gO G 0))] 43 [] (wC G σ) 0 0 := by
  refine R_aload_n X 0 dX4_text_43 rfl rfl ?_
  refine R_get 0 0 X uw_X4 (cO_0 G σ) rfl (by decide) rfl wfl_RX4_46 rfl dX4_text_44 ?_
  refine R_aload_n X 0 dX4_text_47 rfl rfl ?_
  refine R_get 1 0 X uw_X4 (cO_0 G σ) rfl (by decide) rfl wfl_RX4_50 rfl dX4_text_48 ?_
  refine R_aload_n X 0 dX4_text_51 rfl rfl ?_
  refine R_get 2 0 X uw_X4 (cO_0 G σ) rfl (by decide) rfl wfl_RX4_14 rfl dX4_text_52 ?_
  have hM := i_X2_asText (V := VC G) (cI := gI G) (VC_ok G) rfl G.1 (gO G 1) (gA G 1 0) (gA G 1 6) (gA G 1 8) (gs 1 1 σ) (gs 1 2 σ) (gs 1 3 σ) (gs 1 4 σ) (gs 1 5 σ) (gs 1 7 σ) (ga 1 6 σ) (ga 1 8 σ)
  rw [← e1, ← e2] at hM
  refine R_cVK (As := []) (st := [.int (gs 0 1 σ), .ref (gA G 0 0)]) [5, 7, 8] X hM (by show [(wC G σ)[5]?, (wC G σ)[7]?, (wC G σ)[8]?] = _; rw [cO_1, cA_1_6, cA_1_8]; rfl) rfl rfl (cO_1 G σ) rfl rfl wi_X2_asText win_X2_asText wse_X2_asText wml_RX4_38 ⟨hF, Nat.le_trans (Nat.le_of_ble_eq_true rfl) hL⟩ ⟨Nat.le_refl _, Nat.le_refl _⟩ rfl (Nat.le_of_ble_eq_true rfl) dX4_text_55 (fun q _ => ?_)
  have hln : (wC G σ).length = 41 + 3 * tN (gT G) := by
    unfold wC
    rw [List.length_append, wT_len]
    rfl
  have hat : ∀ k : Nat, k < 41 → (wC G σ ++ wTx (gI G) (ga 1 6 σ) (ga 1 8 σ) (gs 1 7 σ) q)[k]? = (wC G σ)[k]? := fun k hk => List.getElem?_append_left (by omega)
  refine R_aast 1 (41 + 3 * tN (gT G)) 3 (j := 1) (rr := (RX3, TX3, 2)) (vs := [.ref q.2.1, .ref q.2.2]) X ((hat 1 (by decide)).trans (cR_tx G σ)) (by rw [e2]; rfl) (by rw [List.getElem?_append_right (by omega), hln, Nat.sub_self]; rfl) rfl hi dX4_text_58 ?_
  refine R_aload_n X 0 dX4_text_59 rfl rfl ?_
  refine R_dup X dX4_text_60 rfl ?_
  have h0 : ∀ x : Nat × va_E, ((wC G σ ++ wTx (gI G) (ga 1 6 σ) (ga 1 8 σ) (gs 1 7 σ) q).set 1 x)[0]? = some (gO G 0, .inr (4, mnF G σ)) := fun x => by
    rw [List.getElem?_set_ne (by decide), hat 0 (by decide)]
    exact cO_0 G σ
  refine R_get 1 0 X uw_X4 (h0 _) rfl (by decide) rfl wfl_RX4_50 rfl dX4_text_61 ?_
  refine R_dup_x1 X dX4_text_64 rfl rfl ?_
  refine R_iconst (v := (1 : Int32)) X dX4_text_65 (by decide) ?_
  refine R_iadd X dX4_text_66 ?_
  refine R_put 1 0 (ty := .int) (v := .int (gs 0 1 σ + 1)) X uw_X4 tyX4 tyX4_ok nmX4 (h0 _) rfl (by decide) rfl wfl_RX4_50 rfl rfl (by decide +kernel) rfl (Nat.le_of_ble_eq_true rfl) dX4_text_67 ?_
  refine R_ws (wC (gAdd G q (ps 0 1 (gs 0 1 σ + 1) σ)) (ps 0 1 (gs 0 1 σ + 1) σ)) (by rw [← wC_add, hn]) ?_
  exact R_iret (V := VC G) q rfl trivial rfl e2 X dX4_text_70
set_option maxRecDepth 100000 in
set_option maxHeartbeats 4000000 in
theorem a_X4_text {E : JE} {G : JG} {F L : Nat} (X : JC E 2 cX4_text RX4 (some .int) F L G) (hF : 73 ≤ F) (hL : 4500 ≤ L) {Fi : Int32 × Bool → ST → State → Prop} (hx : ∀ (r : Int32) (σ : ST) (pc : Nat) (lv : List (Nat × Value)), (pc = 11 ∨ pc = 42) → ∀ (H : Heap) (locs : List Loc) (ls : Array Slot), va_P (jV E).1 vwCl ((jV E).2.2.1 σ) H → va_D (jA E) ((jV E).2.2.1 σ) → va_S (jA E) (jS E).heap H locs → lv_has ls 2 lv → JW E H locs (Fi (r, false) σ) pc ls [.int r])
    (hy : ∀ (σ : ST) (H : Heap) (locs : List Loc) (ls : Array Slot), va_P (jV E).1 vwCl ((jV E).2.2.1 σ) H → va_D (jA E) ((jV E).2.2.1 σ) → va_S (jA E) (jS E).heap H locs → lv_has ls 2 [(0, .ref (gO G 0))] → JW E H locs (Fi (0, true) σ) 43 ls []) (σ : ST) : Jg E 2 Fi [(0, .ref (gO G 0))] 0 [] σ (f_X4_textA (gT G) σ) := by
  have Y := X.1
  unfold f_X4_textA
  refine J_aload_n Y 0 dX4_text_0 rfl rfl ?_
  refine C_get 1 X uw_X4 (cO_0 G _) rfl (by decide) rfl wfl_RX4_50 rfl dX4_text_1 ?_
  refine J_bipush (v := (6 : Int32)) Y dX4_text_4 (by decide) ?_
  refine J_icmp_lt (tgt := 12) Y dX4_text_6 (by decide) ?_ ?_
  · refine J_aload_n Y 0 dX4_text_12 rfl rfl ?_
    refine C_get 2 X uw_X4 (cO_0 G _) rfl (by decide) rfl wfl_RX4_14 rfl dX4_text_13 ?_
    refine C_cVi (As := []) (st := []) rfl X (c_X2_isText G (TP_VC G) _) (cO_1 G _) rfl rfl wi_X2_isText win_X2_isText wse_X2_isText wml_RX4_34 ⟨hF, Nat.le_trans (Nat.le_of_ble_eq_true rfl) hL⟩ rfl (Nat.le_of_ble_eq_true rfl) dX4_text_16 (fun y16 t16 => ?_)
    refine J_istore_n [(1, .int y16), (0, .ref (gO G 0))] Y dX4_text_19 rfl (by decide) rfl ?_
    refine J_aload_n Y 1 dX4_text_20 rfl rfl ?_
    refine C_get 2 X uw_X4 (cO_0 G _) rfl (by decide) rfl wfl_RX4_14 rfl dX4_text_21 ?_
    refine J_iconst (v := (0 : Int32)) Y dX4_text_24 (by decide) ?_
    refine C_put 1 1 (ty := .int) X uw_X2 tyX2 tyX2_ok nmX2 (cO_1 G _) rfl (by decide) rfl wfl_RX4_42 rfl rfl (by decide +kernel) rfl (Nat.le_of_ble_eq_true rfl) (cF_1_1 G _ _) dX4_text_25 (fun t25 => ?_)
    refine J_iload_n Y 0 dX4_text_28 rfl rfl ?_
    refine J_if_ne (tgt := 43) Y dX4_text_29 (by decide) ?_ ?_
    · refine J_sub [1] rfl ?_
      exact J_exit (fun H locs ls hP hD hS hl => hy t25 H locs ls hP hD hS hl)
    · refine J_bipush (v := (-100 : Int32)) Y dX4_text_32 (by decide) ?_
      refine J_aload_n Y 1 dX4_text_34 rfl rfl ?_
      refine C_get 2 X uw_X4 (cO_0 G _) rfl (by decide) rfl wfl_RX4_14 rfl dX4_text_35 ?_
      refine C_get 2 X uw_X2 (cO_1 G _) rfl (by decide) rfl wfl_RX4_97 rfl dX4_text_38 ?_
      refine J_isub Y dX4_text_41 ?_
      exact J_exit (fun H locs ls hP hD hS hl => hx _ t25 42 _ (Or.inr rfl) H locs ls hP hD hS hl)
  · refine J_bipush (v := (-4 : Int32)) Y dX4_text_9 (by decide) ?_
    exact J_exit (fun H locs ls hP hD hS hl => hx _ σ 11 _ (Or.inl rfl) H locs ls hP hD hS hl)
noncomputable section
/-- text(), whole: the answer, whether there is a new text, the state then -/
def f_X4_text (T : TX) (σ : ST) : Option ((Int32 × Bool) × ST) := bnd (f_X4_textA T σ) (fun x s => if x.2 = true then (if (gs 0 1 s).toNatClampNeg = tN T then (if gs 0 1 s < 0 ∨ 6 ≤ (gs 0 1 s).toNatClampNeg then none else some ((gs 0 1 s, true), ps 0 1 (gs 0 1 s + 1) s)) else none) else some ((x.1, false), s))
end
set_option maxRecDepth 100000 in
set_option maxHeartbeats 4000000 in
theorem i_X4_text (G : JG) (σ σe : ST) (r : Int32) (b : Bool) (hr : f_X4_text (gT G) σ = some ((r, b), σe)) : RMet (VC G) G.1 yX4_text cX4_text 2 (some .int) 73 4500 3 165 [.ref (gO G 0)] (wC G σ) (fun _ : Nat × Nat × Nat => some (.int r)) (fun _ => True) (fun q => if b then wC (gAdd G q σe) σe else wC G σe) := by
  refine R_of (cI := gI G) (VC_ok G) rfl (by decide +kernel) (Nat.le_of_ble_eq_true rfl) (fun E e1 e2 X hin => ?_)
  obtain ⟨⟨x, s1⟩, h1, h2⟩ : ∃ q : (Int32 × Bool) × ST, f_X4_textA (gT G) σ = some q ∧ (if q.1.2 = true then (if (gs 0 1 q.2).toNatClampNeg = tN (gT G) then (if gs 0 1 q.2 < 0 ∨ 6 ≤ (gs 0 1 q.2).toNatClampNeg then none else some ((gs 0 1 q.2, true), ps 0 1 (gs 0 1 q.2 + 1) q.2)) else none) else some ((q.1.1, false), q.2)) = some ((r, b), σe) := by
    unfold f_X4_text at hr
    cases h : f_X4_textA (gT G) σ with
    | none => rw [h] at hr; cases hr
    | some q => rw [h] at hr; exact ⟨q, rfl, hr⟩
  have XC : JC E 2 cX4_text RX4 (some .int) 73 4500 G := ⟨X.1, e1, e2⟩
  intro H locs ls hP hD hS hl
  have key := a_X4_text XC (Nat.le_refl _) (Nat.le_refl _) (Fi := fun x s1 => if x.2 = true then (if (gs 0 1 s1).toNatClampNeg = tN (gT G) ∧ ¬ (gs 0 1 s1 < 0 ∨ 6 ≤ (gs 0 1 s1).toNatClampNeg) then qTx E G (gs 0 1 s1) true (ps 0 1 (gs 0 1 s1 + 1) s1) else fun _ => True) else qTx E G x.1 false s1)
    (fun r σ pc lv hpc H locs ls hP hD hS hl => by
      rw [if_neg (show ¬ ((r, false) : Int32 × Bool).2 = true from Bool.false_ne_true)]
      have Z : JR E 2 (qTx E G r false σ) lv pc [.int r] (wC G σ) 0 0 := by
        refine R_wid (kc' := 3) (ks' := 165) (Nat.zero_le _) (Nat.zero_le _) ?_
        rcases hpc with rfl | rfl
        · exact R_iret (V := VC G) (0, 0, 0) rfl trivial rfl e2 X dX4_text_11
        · exact R_iret (V := VC G) (0, 0, 0) rfl trivial rfl e2 X dX4_text_42
      have := Z H locs ls (by rw [e2] at hP ⊢; exact hP) (by rw [e2] at hD; exact hD) hS hl
      have hK : jK E = (0, 0, 3, 165) := X.2.1
      unfold JW
      rw [hK]
      exact this)
    (fun σ H locs ls hP hD hS hl => by
      rw [if_pos (show ((0, true) : Int32 × Bool).2 = true by decide)]
      have hK : jK E = (0, 0, 3, 165) := X.2.1
      unfold JW
      rw [hK]
      by_cases hc : (gs 0 1 σ).toNatClampNeg = tN (gT G) ∧ ¬ (gs 0 1 σ < 0 ∨ 6 ≤ (gs 0 1 σ).toNatClampNeg)
      · rw [if_pos hc]
        exact r_X4_text e1 e2 X (by decide) (by decide) σ hc.1 hc.2 H locs ls (by rw [e2] at hP ⊢; exact hP) (by rw [e2] at hD; exact hD) hS hl
      · rw [if_neg hc]
        intro T hT XX
        exact ⟨_, Steps.refl _, trivial⟩) σ
  have hJ := key x s1 h1 H locs ls (by rw [e2] at hP ⊢; exact hP) (by rw [e2]; exact hD) hS hl
  have hK : jK E = (0, 0, 3, 165) := X.2.1
  unfold JW at hJ
  rw [hK] at hJ
  dsimp only at h2 hJ
  by_cases hb : x.2 = true
  · rw [if_pos hb] at h2 hJ
    by_cases hc : (gs 0 1 s1).toNatClampNeg = tN (gT G)
    · rw [if_pos hc] at h2
      by_cases hd : gs 0 1 s1 < 0 ∨ 6 ≤ (gs 0 1 s1).toNatClampNeg
      · rw [if_pos hd] at h2; cases h2
      · rw [if_neg hd] at h2
        rw [if_pos ⟨hc, hd⟩] at hJ
        cases h2
        exact hJ
    · rw [if_neg hc] at h2; cases h2
  · rw [if_neg hb] at h2 hJ
    cases h2
    exact hJ
