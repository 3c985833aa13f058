section LRows
variable {E : JE} {nL F L MC MS : Nat} {cI : ClassId} {cc : ByteArray} {own : String} {ret : Option FieldType} {Q : State → Prop} {lv : List (Nat × Value)} {pc : Nat} {st : List Value} {ws : va_W} {kc ks : Nat}
theorem R_comm (w1 w2 : va_W) (kk : JR E nL Q lv pc st (w2 ++ w1) kc ks) : JR E nL Q lv pc st (w1 ++ w2) kc ks := by
  intro H locs ls hP hD hS hl
  have g1 : ∀ (k : Nat) (q : Nat × va_E), w1[k]? = some q → (w1 ++ w2)[k]? = some q := fun k q h => by
    rw [List.getElem?_append_left (List.getElem?_eq_some_iff.mp h).1]; exact h
  have g2 : ∀ (k : Nat) (q : Nat × va_E), w2[k]? = some q → (w1 ++ w2)[w1.length + k]? = some q := fun k q h => by
    rw [List.getElem?_append_right (Nat.le_add_right _ _), Nat.add_sub_cancel_left]; exact h
  refine kk H locs ls (va_P.app (fun k q h => hP _ q (g2 k q h)) (fun k q h => hP _ q (g1 k q h))) (va_D.app ⟨fun i j p q hi hj hpq => ?_, fun k q h => hD.2 _ q (g2 k q h)⟩ ⟨fun i j p q hi hj hpq => hD.1 i j p q (g1 i p hi) (g1 j q hj) hpq, fun k q h => hD.2 _ q (g1 k q h)⟩ (fun i j p q hi hj hpq => ?_)) hS hl
  · have := hD.1 _ _ p q (g2 i p hi) (g2 j q hj) hpq
    omega
  · have := hD.1 _ _ p q (g2 i p hi) (g1 j q hj) hpq
    have hl2 := (List.getElem?_eq_some_iff.mp hj).1
    omega
/-- behind a call over the world's last part -/
theorem R_callA {S : Type} {val : S → Option Value} {post : S → Prop} {w1 : S → va_W} {wc wr : va_W} {V1 : JV} {mk : Array Value} {st0 : List Value} {MC1 MS1 : Nat} (X : XR E nL cc own ret F L MC MS cI) (hD1 : V1.1 = (jV E).1)
    (hrun : ∀ (H : Heap) (locs : List Loc) (ls : Array Slot), va_S (jA E) (jS E).heap H locs → lv_has ls nL lv → va_P (jV E).1 vwCl wc H → va_D (jA E) wc → va_Run E.1.1 E.1.2.1 E.1.2.2.1 (jR E) (jS E) (jM E) (jG E) (jB E) (jT E) (jC E) H locs kc ks MC1 MS1 (F0 (jM E) pc ls st0) st (RPost V1 (va_A wc H.size) val post w1 mk) (va_A wc H.size))
    (kk : ∀ x : S, post x → JR E nL Q lv (pc + 3) ((val x).toList ++ st) (wr ++ w1 x) (kc + MC1) (ks + MS1)) : JR E nL Q lv pc st0 (wr ++ wc) kc ks := by
  intro H locs ls hP hD hS hl
  have g1 : ∀ (k : Nat) (q : Nat × va_E), wr[k]? = some q → (wr ++ wc)[k]? = some q := fun k q h => by
    rw [List.getElem?_append_left (List.getElem?_eq_some_iff.mp h).1]; exact h
  have g2 : ∀ (k : Nat) (q : Nat × va_E), wc[k]? = some q → (wr ++ wc)[wr.length + k]? = some q := fun k q h => by
    rw [List.getElem?_append_right (Nat.le_add_right _ _), Nat.add_sub_cancel_left]; exact h
  have hPc : va_P (jV E).1 vwCl wc H := fun k q h => hP _ q (g2 k q h)
  have hDw : va_D (jA E) wc := ⟨fun i j p q hi hj hpq => by
      have := hD.1 _ _ p q (g2 i p hi) (g2 j q hj) hpq
      omega, fun k q h => hD.2 _ q (g2 k q h)⟩
  have hDr : va_D (jA E) wr := ⟨fun i j p q hi hj hpq => hD.1 i j p q (g1 i p hi) (g1 j q hj) hpq, fun k q h => hD.2 _ q (g1 k q h)⟩
  have hF := jA_in hDw hS X.1.2.2.1
  intro T hT XX
  obtain ⟨v, st₀, t, T', Lc, h0, X', hL, e1, e2, ⟨⟨x, hv, hp, hP1, hK1, hDx⟩, hz, hk⟩, stp⟩ := hrun H locs ls hS hl hPc hDw T hT XX
  rw [h0] at hz hk
  have hv : v = val x := by injection hv
  subst hv
  have apart : ∀ (k : Nat) (q : Nat × va_E), wr[k]? = some q → q.1 < H.size ∧ ¬ va_A wc H.size q.1 := by
    intro k q hq
    have hlt := (hP _ q (g1 k q hq)).lt
    refine ⟨hlt, ?_⟩
    rintro (⟨k', e, hk'⟩ | h)
    · have := hD.1 _ _ q (q.1, e) (g1 k q hq) (g2 k' _ hk') rfl
      have hl2 := (List.getElem?_eq_some_iff.mp hq).1
      omega
    · omega
  have hPj : va_P (jV E).1 vwCl (wr ++ w1 x) t.heap := va_P.app (fun k q hq => (hP _ q (g1 k q hq)).kept (hk q.1 (apart k q hq).1 (apart k q hq).2)) (by rw [← hD1]; exact hP1)
  have hDj : va_D (jA E) (wr ++ w1 x) := va_D.app hDr (hDx.weaken (fun k q _ h => hF q.1 h)) (fun i j p q hi hj hpq => (apart i p hi).2 (by rw [hpq]; exact hDx.2 j q hj))
  have hS1 : va_S (jA E) (jS E).heap T'.heap (locs ++ Lc) := ⟨Nat.le_trans hS.1 (by rw [e1]; exact hz), fun q h1 h2 => by rw [e1, hk q (Nat.lt_of_lt_of_le h1 hS.1) (fun z => h2 (hF q z))]; exact hS.2.1 q h1 h2, fun q hq => by
      rcases List.mem_append.mp hq with h | h
      · exact hS.2.2 q h
      · exact hF _ (hL q h)⟩
  obtain ⟨t2, a1, b1⟩ := kk x hp T'.heap (locs ++ Lc) ls (by rw [e1]; exact hPj) hDj hS1 hl T' rfl X'
  exact ⟨t2, stp t2 a1, b1⟩
/-- what a callee of other words asks at its start -/
theorem L_pre {V1 : JV} (X : XR E nL cc own ret F L MC MS cI) (hD1 : V1.1 = (jV E).1) (hK1 : va_K V1.1 vwCl V1.2.1 (jS E)) (hV1 : VOK V1) (hZ1 : V1.2.2.2 (jA E) (jS E)) {wc : va_W} {H : Heap} {locs : List Loc} (hP : va_P (jV E).1 vwCl wc H) (hD : va_D (jA E) wc) (hS : va_S (jA E) (jS E).heap H locs) (As : List Value) : PreS (jS E) H (RPre V1 wc As H.size) As :=
  ⟨fun a U g mk q => ⟨q.1, q.2.1, q.2.2.1, va_K.moved (u := U) (U := U.calling g mk a) (Vm.Alike.refl U.vm) q.2.2.2.1, q.2.2.2.2.1, hV1.2 _ U g mk a q.2.2.2.2.2⟩,
   fun U hU hW => ⟨rfl, by rw [hU], by rw [hU, hD1]; exact hP, va_K.moved hW.alike hK1, hD.weaken (fun _ _ _ _ => trivial), hV1.1 _ _ _ U locs hZ1 (jA_in hD hS X.1.2.2.1) (by rw [hU]; exact hS) hW⟩⟩
theorem L_cV {S : Type} {val : S → Option Value} {post : S → Prop} {w1 : S → va_W} {As : List Value} {b n index maxL F1 L1 MC1 MS1 q ci : Nat} {y : MethodName} {bytes : ByteArray} {ret1 : Option FieldType} {fs : List Value} {rc : vw_C} {wc wr : va_W} {V1 : JV} {st0 : List Value} {Qc : Nat → Array Value → State → Outcome → State → Prop} (X : XR E nL cc own ret F L MC MS cI) (hD1 : V1.1 = (jV E).1) (hK1 : va_K V1.1 vwCl V1.2.1 (jS E)) (hV1 : VOK V1) (hZ1 : V1.2.2.2 (jA E) (jS E)) (hM : ∀ sz, Met (jL E) y (Cond.code y bytes maxL ret1 :: lw_ok) { frames := F1, cells := MC1, slots := MS1, locals := L1 } (RPre V1 wc (.ref b :: As) sz) (Qc sz) MC1 MS1 (va_A wc sz)) (hQ : ∀ sz a st o t, Qc sz a st o t → RPost V1 (va_A wc sz) val post w1 a st o t) (hst0 : st0 = As.reverse ++ .ref b :: st) (hrec : wc[q]? = some (b, .inr (ci, fs))) (hc : vwCl[ci]? = some rc) (hrc : rc.1 = y.cls) (hw : WI y bytes maxL ret1 n) (hi : Cond.instanceMethod y ∈ lw_ok) (hs : Cond.selects y.cls y y ∈ lw_ok) (hlink : Cond.methodLink own index y ∈ lw_ok) (hRm : F1 + 1 ≤ F ∧ 8 + (maxL + 11) + L1 ≤ L) (hfit : kc + MC1 ≤ MC ∧ ks + MS1 ≤ MS) (hn : As.length = n) (hsum : (st.map fun v => v.category).sum ≤ 8) (hdg : decode cc pc = .ok (.invokevirtual index, 3))
    (kk : ∀ x : S, post x → JR E nL Q lv (pc + 3) ((val x).toList ++ st) (wr ++ w1 x) (kc + MC1) (ks + MS1)) : JR E nL Q lv pc st0 (wr ++ wc) kc ks := by
  have hR' := XR_R X
  refine R_callA (mk := (Value.ref b :: As).toArray) X hD1 (fun H locs ls hS hl hPc hDc => ?_) kk
  have hpre := L_pre X hD1 hK1 hV1 hZ1 hPc hDc hS (.ref b :: As)
  have hrun : va_Run E.1.1 E.1.2.1 E.1.2.2.1 (jR E) (jS E) (jM E) (jG E) (jB E) (jT E) (jC E) H locs kc ks MC1 MS1 (F0 (jM E) pc ls st0) st (Qc H.size (Value.ref b :: As).toArray) (va_A wc H.size) := va_runV (C := y.cls) (As := As) (rest := st) X.1.1 (hM H.size) (H := H) (locs := locs) (g := F0 (jM E) pc ls st0) ⟨R_cb X hw hlink hRm, rxt X _ hi, rxt X _ hs⟩ ⟨hpre.1, by rw [← hrc]; exact va_recv X.1.2.1 hPc hc hrec, hpre.2⟩ rfl hn hl.1 hst0 (lv_room (pc := pc) (ls := ls) (rest := st0) (m := jM E) hsum) hdg (by rw [hR']; exact hfit)
  intro T hT XX
  obtain ⟨v, st₀, t, T', Lc, h0, X', hL, e1, e2, hq, stp⟩ := hrun T hT XX
  exact ⟨v, st₀, t, T', Lc, h0, X', hL, e1, e2, hQ _ _ _ _ _ hq, stp⟩
theorem R_sld {b L0 : Nat} {xs : Nat → Int32} {i : Int32} (X : XR E nL cc own ret F L MC MS cI) (hX : va_X b L0 xs (jS E) (jS E).heap) (hbl : b < (jS E).heap.size) (hbA : ¬ jA E b) (hin : vp_in i L0) (hdg : decode cc pc = .ok (.iaload, 1)) (kk : JR E nL Q lv (pc + 1) (.int (xs i.toNatClampNeg) :: st) ws kc ks) : JR E nL Q lv pc (.int i :: .ref b :: st) ws kc ks :=
  fun H locs ls hP hD hS hl => va_sld (rxx X) (rxb X) hX hbl hbA hS hin hdg (kk H locs ls hP hD hS hl)
theorem R_slen {b L0 : Nat} {xs : Nat → Int32} (X : XR E nL cc own ret F L MC MS cI) (hX : va_X b L0 xs (jS E) (jS E).heap) (hbl : b < (jS E).heap.size) (hbA : ¬ jA E b) (hdg : decode cc pc = .ok (.arraylength, 1)) (kk : JR E nL Q lv (pc + 1) (.int (Int32.ofNat L0) :: st) ws kc ks) : JR E nL Q lv pc (.ref b :: st) ws kc ks :=
  fun H locs ls hP hD hS hl => va_slen (rxx X) (rxb X) hX hbl hbA hS hdg (kk H locs ls hP hD hS hl)
theorem R_icmp_gt {x y : Int32} {off : Int} {tgt : Nat} (X : XR E nL cc own ret F L MC MS cI) (hdg : decode cc pc = .ok (.if_icmp .gt off, 3)) (ht : (pc : Int) + off = (tgt : Int)) (kt : y < x → JR E nL Q lv tgt st ws kc ks) (kf : ¬ y < x → JR E nL Q lv (pc + 3) st ws kc ks) : JR E nL Q lv pc (.int y :: .int x :: st) ws kc ks :=
  fun H locs ls hP hD hS hl => lv_icmp_gt (rxx X) (rxb X) hdg ht (fun q => kt q H locs ls hP hD hS hl) (fun q => kf q H locs ls hP hD hS hl)
theorem R_icmp_eqs {x : Int32} {off : Int} {tgt : Nat} (X : XR E nL cc own ret F L MC MS cI) (hdg : decode cc pc = .ok (.if_icmp .eq off, 3)) (ht : (pc : Int) + off = (tgt : Int)) (kt : JR E nL Q lv tgt st ws kc ks) : JR E nL Q lv pc (.int x :: .int x :: st) ws kc ks :=
  fun H locs ls hP hD hS hl => lv_icmp_eq (rxx X) (rxb X) hdg ht (fun q => kt H locs ls hP hD hS hl) (fun q => absurd rfl q)
theorem R_lcmps {x : Int64} {off : Int} {tgt : Nat} (X : XR E nL cc own ret F L MC MS cI) (hdg : decode cc pc = .ok (.lcmp, 1)) (hdg2 : decode cc (pc + 1) = .ok (.ifCond .eq off, 3)) (ht : ((pc + 1 : Nat) : Int) + off = (tgt : Int)) (kt : JR E nL Q lv tgt st ws kc ks) : JR E nL Q lv pc (.long x :: .long x :: st) ws kc ks := by
  intro H locs ls hP hD hS hl
  refine W.lcmp (rxx X) (rxb X) hdg ?_
  have e : lg_cmp x x = 0 := by
    unfold lg_cmp
    have h : ¬ x > x := fun h => by
      have := Int64.lt_iff_toInt_lt.mp h
      omega
    rw [if_neg h, if_pos rfl]
  exact lv_if_eq (rxx X) (rxb X) hdg2 ht (fun q => kt H locs ls hP hD hS hl) (fun q => absurd e q)
theorem R_tin {dflt lo hi : Int} {offs : Array Int} {len : Nat} {x : Int32} {off : Int} {tgt : Nat} (v : Int32) (hx : x = v) (X : XR E nL cc own ret F L MC MS cI) (hdg : decode cc pc = .ok (.tableswitch dflt lo hi offs, len)) (h1 : ¬ v.toInt < lo) (h2 : ¬ hi < v.toInt) (ho : offs[(v.toInt - lo).toNat]? = some off) (ht : (pc : Int) + off = (tgt : Int)) (kk : JR E nL Q lv tgt st ws kc ks) : JR E nL Q lv pc (.int x :: st) ws kc ks := by
  subst hx
  exact Rstep (fun H locs ls hl k => lv_tableIn (rxx X) (rxb X) hdg h1 h2 ho ht (k ls hl)) kk
theorem R_tout {dflt lo hi : Int} {offs : Array Int} {len : Nat} {x : Int32} {tgt : Nat} (X : XR E nL cc own ret F L MC MS cI) (hdg : decode cc pc = .ok (.tableswitch dflt lo hi offs, len)) (h : x.toInt < lo ∨ hi < x.toInt) (ht : (pc : Int) + dflt = (tgt : Int)) (kk : JR E nL Q lv tgt st ws kc ks) : JR E nL Q lv pc (.int x :: st) ws kc ks := Rstep (fun H locs ls hl k => lv_tableOut (rxx X) (rxb X) hdg h ht (k ls hl)) kk
end LRows
/-- the worlds' common part -/
def LGp (G0 G : JG) : Prop := G.1 = G0.1 ∧ G.2.1 = G0.2.1 ∧ G.2.2.1 = G0.2.2.1 ∧ G.2.2.2.2.2.2 = G0.2.2.2.2.2.2
section LCalls
variable {E : JE} {nL F L MC MS : Nat} {cI : ClassId} {cc : ByteArray} {own : String} {ret : Option FieldType} {Q : State → Prop} {lv : List (Nat × Value)} {pc : Nat} {st : List Value} {kc ks : Nat} {G0 G GM : JG} {W0 : ST → va_W} {σc σm : ST}
theorem L_KC (X : XR E nL cc own ret F L MC MS cI) (e2 : jV E = VI G0 W0) (g : LGp G0 G) : va_K (VC G).1 vwCl (VC G).2.1 (jS E) ∧ (VC G).1 = (jV E).1 ∧ (VC G).2.2.2 (jA E) (jS E) := by
  have hK : va_K (jV E).1 vwCl (jV E).2.1 (jS E) := X.1.2.1
  have hZ := X.1.2.2.2.2.2.2.2.2
  rw [e2] at hK hZ
  have hK' : va_K G0.2.1 vwCl [(gI G0, .int), (gX G0, .object RX3), (gH G0, .object RX1)] (jS E) := hK
  have hZ' : ZC G0 (jA E) (jS E) := hZ.1
  refine ⟨?_, ?_, ?_⟩
  · show va_K G.2.1 vwCl [(gI G, .int), (gX G, .object RX3), (gH G, .object RX1)] (jS E)
    unfold gI gX gH at hK' ⊢
    rw [g.2.1, g.2.2.1]; exact hK'
  · rw [e2]; exact g.2.1
  · show ZC G (jA E) (jS E)
    unfold ZC ZR ZH gK gV at hZ' ⊢
    rw [g.2.2.2]; exact hZ'
theorem L_KM (X : XR E nL cc own ret F L MC MS cI) (e2 : jV E = VI G0 W0) (g : LGp G0 GM) : va_K (VM GM).1 vwCl (VM GM).2.1 (jS E) ∧ (VM GM).1 = (jV E).1 := by
  have hK : va_K (jV E).1 vwCl (jV E).2.1 (jS E) := X.1.2.1
  rw [e2] at hK
  have hK' : va_K G0.2.1 vwCl [(gI G0, .int), (gX G0, .object RX3), (gH G0, .object RX1)] (jS E) := hK
  refine ⟨?_, ?_⟩
  · show va_K GM.2.1 vwCl [(gI GM, .int)] (jS E)
    unfold gI at hK' ⊢
    rw [g.2.1, g.2.2.1]; exact hK'.sub [0] rfl
  · rw [e2]; exact g.2.1
theorem L_c {ρ1 : Type} {val : ρ1 → Option Value} {x : ρ1} {σ1 : ST} {r1 : Option (ρ1 × ST)} {As : List Value} {n index maxL F1 L1 : Nat} {y : MethodName} {bytes : ByteArray} {ret1 : Option FieldType} {st0 : List Value} (X : XR E nL cc own ret F L MC MS cI) (e1 : jL E = G0.1) (e2 : jV E = VI G0 W0) (g : LGp G0 G) (C : Con (VC G) val G.1 y bytes maxL ret1 F1 L1 (.ref (gO G 0) :: As) σc r1) (h1 : r1 = some (x, σ1)) (hst0 : st0 = As.reverse ++ .ref (gO G 0) :: st) (hy : RX4 = y.cls) (hw : WI y bytes maxL ret1 n) (hi : Cond.instanceMethod y ∈ lw_ok) (hs : Cond.selects y.cls y y ∈ lw_ok) (hlink : Cond.methodLink own index y ∈ lw_ok) (hRm : F1 + 1 ≤ F ∧ 8 + (maxL + 11) + L1 ≤ L) (hfit : kc ≤ MC ∧ ks ≤ MS) (hn : As.length = n) (hsum : (st.map fun v => v.category).sum ≤ 8) (hdg : decode cc pc = .ok (.invokevirtual index, 3))
    (kk : JR E nL Q lv (pc + 3) ((val x).toList ++ st) (wC G σ1 ++ wM GM σm) kc ks) : JR E nL Q lv pc st0 (wC G σc ++ wM GM σm) kc ks := by
  obtain ⟨hK, hD, hZ⟩ := L_KC X e2 g
  have hC : ∀ sz, Met (jL E) y (Cond.code y bytes maxL ret1 :: lw_ok) { frames := F1, cells := 0, slots := 0, locals := L1 } (RPre (VC G) (wC G σc) (.ref (gO G 0) :: As) sz) (QJ val (VC G) (va_A (wC G σc) sz) x σ1) 0 0 (va_A (wC G σc) sz) := by
    rw [e1, ← g.1]; exact C x σ1 h1
  refine R_comm _ _ ?_
  refine L_cV (S := Unit) (val := fun _ => val x) (post := fun _ => True) (w1 := fun _ => wC G σ1) (q := 0) (ci := 4) (fs := mnF G σc) (rc := (RX4, TX4, 9)) (V1 := VC G) X hD hK (VC_ok G) hZ hC (fun sz a s o t h => ⟨⟨(), h.1.1, trivial, h.1.2⟩, h.2⟩) hst0 (cO_0 G σc) rfl hy hw hi hs hlink hRm hfit hn hsum hdg (fun _ _ => ?_)
  exact R_comm _ _ kk
theorem L_m {ρ1 : Type} {val : ρ1 → Option Value} {x : ρ1} {σ1 : ST} {r1 : Option (ρ1 × ST)} {As : List Value} {n index maxL F1 L1 : Nat} {y : MethodName} {bytes : ByteArray} {ret1 : Option FieldType} {st0 : List Value} (X : XR E nL cc own ret F L MC MS cI) (e1 : jL E = G0.1) (e2 : jV E = VI G0 W0) (g : LGp G0 GM) (C : Con (VM GM) val GM.1 y bytes maxL ret1 F1 L1 (.ref (gO GM 50) :: As) σm r1) (h1 : r1 = some (x, σ1)) (hst0 : st0 = As.reverse ++ .ref (gO GM 50) :: st) (hy : RX5 = y.cls) (hw : WI y bytes maxL ret1 n) (hi : Cond.instanceMethod y ∈ lw_ok) (hs : Cond.selects y.cls y y ∈ lw_ok) (hlink : Cond.methodLink own index y ∈ lw_ok) (hRm : F1 + 1 ≤ F ∧ 8 + (maxL + 11) + L1 ≤ L) (hfit : kc ≤ MC ∧ ks ≤ MS) (hn : As.length = n) (hsum : (st.map fun v => v.category).sum ≤ 8) (hdg : decode cc pc = .ok (.invokevirtual index, 3))
    (kk : JR E nL Q lv (pc + 3) ((val x).toList ++ st) (wC G σc ++ wM GM σ1) kc ks) : JR E nL Q lv pc st0 (wC G σc ++ wM GM σm) kc ks := by
  obtain ⟨hK, hD⟩ := L_KM X e2 g
  have hC : ∀ sz, Met (jL E) y (Cond.code y bytes maxL ret1 :: lw_ok) { frames := F1, cells := 0, slots := 0, locals := L1 } (RPre (VM GM) (wM GM σm) (.ref (gO GM 50) :: As) sz) (QJ val (VM GM) (va_A (wM GM σm) sz) x σ1) 0 0 (va_A (wM GM σm) sz) := by
    rw [e1, ← g.1]; exact C x σ1 h1
  exact L_cV (S := Unit) (val := fun _ => val x) (post := fun _ => True) (w1 := fun _ => wM GM σ1) (q := 0) (ci := 5) (fs := mF GM σm) (rc := (RX5, TX5, 33)) (V1 := VM GM) X hD hK (VM_ok GM) trivial hC (fun sz a s o t h => ⟨⟨(), h.1.1, trivial, h.1.2⟩, h.2⟩) hst0 rfl rfl hy hw hi hs hlink hRm hfit hn hsum hdg (fun _ _ => kk)
theorem L_t {r : Int32} {b : Bool} {σ1 : ST} {index : Nat} (X : XR E nL cc own ret F L MC MS cI) (e1 : jL E = G0.1) (e2 : jV E = VI G0 W0) (g : LGp G0 G) (h1 : f_X4_text (gT G) σc = some ((r, b), σ1)) (hlink : Cond.methodLink own index yX4_text ∈ lw_ok) (hRm : 74 ≤ F ∧ 8 + (2 + 11) + 4500 ≤ L) (hfit : kc + 3 ≤ MC ∧ ks + 165 ≤ MS) (hsum : (st.map fun v => v.category).sum ≤ 8) (hdg : decode cc pc = .ok (.invokevirtual index, 3))
    (kk : ∀ q : Nat × Nat × Nat, JR E nL Q lv (pc + 3) (.int r :: st) (wC (if b then gAdd G q σ1 else G) σ1 ++ wM GM σm) (kc + 3) (ks + 165)) : JR E nL Q lv pc (.ref (gO G 0) :: st) (wC G σc ++ wM GM σm) kc ks := by
  obtain ⟨hK, hD, hZ⟩ := L_KC X e2 g
  have hC := i_X4_text G σc σ1 r b h1
  rw [g.1, ← e1] at hC
  refine R_comm _ _ ?_
  refine L_cV (As := []) (q := 0) (ci := 4) (fs := mnF G σc) (rc := (RX4, TX4, 9)) (V1 := VC G) X hD hK (VC_ok G) hZ hC (fun sz a s o t h => h) rfl (cO_0 G σc) rfl rfl wi_X4_text win_X4_text wse_X4_text hlink hRm hfit rfl hsum hdg (fun q _ => ?_)
  have e : (if b then wC (gAdd G q σ1) σ1 else wC G σ1) = wC (if b then gAdd G q σ1 else G) σ1 := by cases b <;> rfl
  show JR E nL Q lv (pc + 3) (.int r :: st) (wM GM σm ++ (if b then wC (gAdd G q σ1) σ1 else wC G σ1)) (kc + 3) (ks + 165)
  rw [e]
  exact R_comm _ _ (kk q)
end LCalls
/-- what the pure part owes: every call answers alike, and keeps the relation -/
def PS_0 (Rel : TX → ST → ST → Prop) : Prop := (∀ (T : TX) (c m : ST) (v1 : Int32), Rel T c m → ∃ (a : Int32) (c1 m1 : ST), f_X4_count T v1 c = some (a, c1) ∧ f_X5_count v1 m = some (a, m1) ∧ Rel T c1 m1)
def PS_1 (Rel : TX → ST → ST → Prop) : Prop := (∀ (T : TX) (c m : ST) (v1 : Int32), Rel T c m → ∃ (a : Int32) (c1 m1 : ST), f_X4_clock T v1 c = some (a, c1) ∧ f_X5_clock v1 m = some (a, m1) ∧ Rel T c1 m1)
def PS_2 (Rel : TX → ST → ST → Prop) : Prop := (∀ (T : TX) (c m : ST) (v1 v2 v3 v4 v5 v6 : Int32), Rel T c m → ∃ (a : Int32) (c1 m1 : ST), f_X4_feed T v1 v2 v3 v4 v5 v6 c = some (a, c1) ∧ f_X5_feed v1 v2 v3 v4 v5 v6 m = some (a, m1) ∧ Rel T c1 m1)
def PS_3 (Rel : TX → ST → ST → Prop) : Prop := (∀ (T : TX) (c m : ST), Rel T c m → ∃ (r : Int32) (b : Bool) (c1 m1 : ST), f_X4_text T c = some ((r, b), c1) ∧ f_X5_text m = some (r, m1) ∧ ∀ q : Nat × Nat × Nat, Rel (if b then tAdd T q c1 else T) c1 m1)
def PS_4 (Rel : TX → ST → ST → Prop) : Prop := (∀ (T : TX) (c m : ST) (v1 : Int32), Rel T c m → ∃ (a : Int32) (c1 m1 : ST), f_X4_force T v1 c = some (a, c1) ∧ f_X5_force v1 m = some (a, m1) ∧ Rel T c1 m1)
def PS_5 (Rel : TX → ST → ST → Prop) : Prop := (∀ (T : TX) (c m : ST) (v1 v2 v3 : Int32), Rel T c m → ∃ (a : Int32) (c1 m1 : ST), f_X4_asks T v1 v2 v3 c = some (a, c1) ∧ f_X5_asks v1 v2 v3 m = some (a, m1) ∧ Rel T c1 m1)
def PS_6 (Rel : TX → ST → ST → Prop) : Prop := (∀ (T : TX) (c m : ST) (v1 v2 : Int32), Rel T c m → ∃ (a : Int32) (c1 m1 : ST), f_X4_gentleman T v1 v2 c = some (a, c1) ∧ f_X5_gentleman v1 v2 m = some (a, m1) ∧ Rel T c1 m1)
def PS_7 (Rel : TX → ST → ST → Prop) : Prop := (∀ (T : TX) (c m : ST) (v1 v2 v3 : Int32), Rel T c m → ∃ (a : Int32) (c1 m1 : ST), f_X4_put T v1 v2 v3 c = some (a, c1) ∧ f_X5_put v1 v2 v3 m = some (a, m1) ∧ Rel T c1 m1)
def PS_8 (Rel : TX → ST → ST → Prop) : Prop := (∀ (T : TX) (c m : ST) (v1 v2 : Int32), Rel T c m → ∃ (a : Int32) (c1 m1 : ST), f_X4_told T v1 v2 c = some (a, c1) ∧ f_X5_told v1 v2 m = some (a, m1) ∧ Rel T c1 m1)
def PS_9 (Rel : TX → ST → ST → Prop) : Prop := (∀ (T : TX) (c m : ST) (v1 v2 v3 : Int32), Rel T c m → ∃ (a : Int32) (c1 m1 : ST), f_X4_pinches T v1 v2 v3 c = some (a, c1) ∧ f_X5_pinches v1 v2 v3 m = some (a, m1) ∧ Rel T c1 m1)
def PS_10 (Rel : TX → ST → ST → Prop) : Prop := (∀ (T : TX) (c m : ST) (v1 v2 : Int32), Rel T c m → ∃ (a : Int32) (c1 m1 : ST), f_X4_pinch T v1 v2 c = some (a, c1) ∧ f_X5_pinch v1 v2 m = some (a, m1) ∧ Rel T c1 m1)
def PS_11 (Rel : TX → ST → ST → Prop) : Prop := (∀ (T : TX) (c m : ST) (v1 v2 v3 : Int32), Rel T c m → ∃ (a : Int32) (c1 m1 : ST), f_X4_give T v1 v2 v3 c = some (a, c1) ∧ f_X5_give v1 v2 v3 m = some (a, m1) ∧ Rel T c1 m1)
def PS_12 (Rel : TX → ST → ST → Prop) : Prop := (∀ (T : TX) (c m : ST), Rel T c m → ∃ (a : Int32) (c1 m1 : ST), f_X4_minute T c = some (a, c1) ∧ f_X5_minute m = some (a, m1) ∧ Rel T c1 m1)
def PS_13 (Rel : TX → ST → ST → Prop) : Prop := (∀ (T : TX) (c m : ST) (v1 : Int32), Rel T c m → ∃ (a : Int32) (c1 m1 : ST), f_X4_room T v1 c = some (a, c1) ∧ f_X5_room v1 m = some (a, m1) ∧ Rel T c1 m1)
def PS_14 (Rel : TX → ST → ST → Prop) : Prop := (∀ (T : TX) (c m : ST) (v1 v2 : Int32), Rel T c m → ∃ (a : Int32) (c1 m1 : ST), f_X4_evening T v1 v2 c = some (a, c1) ∧ f_X5_evening v1 v2 m = some (a, m1) ∧ Rel T c1 m1)
def PS_15 (Rel : TX → ST → ST → Prop) : Prop := (∀ (T : TX) (c m : ST) (v1 : Int32), Rel T c m → ∃ (a : Int32) (c1 m1 : ST), f_X4_spend T v1 c = some (a, c1) ∧ f_X5_spend v1 m = some (a, m1) ∧ Rel T c1 m1)
def PS_16 (Rel : TX → ST → ST → Prop) : Prop := (∀ (T : TX) (c m : ST) (v1 v2 v3 : Int32), Rel T c m → ∃ (a : Int32) (c1 m1 : ST), f_X4_plan T v1 v2 v3 c = some (a, c1) ∧ f_X5_plan v1 v2 v3 m = some (a, m1) ∧ Rel T c1 m1)
def PS_17 (Rel : TX → ST → ST → Prop) : Prop := (∀ (T : TX) (c m : ST) (v1 v2 : Int32), Rel T c m → ∃ (a : Int32) (c1 m1 : ST), f_X4_which T v1 v2 c = some (a, c1) ∧ f_X5_which v1 v2 m = some (a, m1) ∧ Rel T c1 m1)
def PS_18 (Rel : TX → ST → ST → Prop) : Prop := (∀ (T : TX) (c m : ST) (v1 v2 : Int32), Rel T c m → ∃ (a : Int32) (c1 m1 : ST), f_X4_tour T v1 v2 c = some (a, c1) ∧ f_X5_tour v1 v2 m = some (a, m1) ∧ Rel T c1 m1)
def PS_19 (Rel : TX → ST → ST → Prop) : Prop := (∀ (T : TX) (c m : ST) (v1 v2 : Int32), Rel T c m → ∃ (a : Int32) (c1 m1 : ST), f_X4_share T v1 v2 c = some (a, c1) ∧ f_X5_share v1 v2 m = some (a, m1) ∧ Rel T c1 m1)
def PS_20 (Rel : TX → ST → ST → Prop) : Prop := (∀ (T : TX) (c m : ST) (v1 v2 : Int32), Rel T c m → ∃ (a : Int64) (c1 m1 : ST), f_X4_box T v1 v2 c = some (a, c1) ∧ f_X5_box v1 v2 m = some (a, m1) ∧ Rel T c1 m1)
def PS_21 (Rel : TX → ST → ST → Prop) : Prop := (∀ (T : TX) (c m : ST) (v1 v2 v3 : Int32), Rel T c m → ∃ (a : Int32) (c1 m1 : ST), f_X4_judge T v1 v2 v3 c = some (a, c1) ∧ f_X5_judge v1 v2 v3 m = some (a, m1) ∧ Rel T c1 m1)
def PS_22 (Rel : TX → ST → ST → Prop) : Prop := (∀ (T : TX) (c m : ST) (v1 v2 v3 v4 : Int32), Rel T c m → ∃ (a : Int32) (c1 m1 : ST), f_X4_kinds T v1 v2 v3 v4 c = some (a, c1) ∧ f_X5_kinds v1 v2 v3 v4 m = some (a, m1) ∧ Rel T c1 m1)
def PS_23 (Rel : TX → ST → ST → Prop) : Prop := (∀ (T : TX) (c m : ST) (v1 v2 v3 v4 v5 : Int32), Rel T c m → ∃ (a : Int32) (c1 m1 : ST), f_X4_states T v1 v2 v3 v4 v5 c = some (a, c1) ∧ f_X5_states v1 v2 v3 v4 v5 m = some (a, m1) ∧ Rel T c1 m1)
def PS_24 (Rel : TX → ST → ST → Prop) : Prop := (∀ (T : TX) (c m : ST) (v1 v2 : Int32), Rel T c m → ∃ (a : Int32) (c1 m1 : ST), f_X4_whose T v1 v2 c = some (a, c1) ∧ f_X5_whose v1 v2 m = some (a, m1) ∧ Rel T c1 m1)
def PS_25 (Rel : TX → ST → ST → Prop) : Prop := (∀ (T : TX) (c m : ST) (v1 v2 v3 : Int32), Rel T c m → ∃ (a : Int32) (c1 m1 : ST), f_X4_laws T v1 v2 v3 c = some (a, c1) ∧ f_X5_laws v1 v2 v3 m = some (a, m1) ∧ Rel T c1 m1)
def PS_26 (Rel : TX → ST → ST → Prop) : Prop := (∀ (T : TX) (c m : ST) (v1 v2 v3 : Int32), Rel T c m → ∃ (a : Int32) (c1 m1 : ST), f_X4_film T v1 v2 v3 c = some (a, c1) ∧ f_X5_film v1 v2 v3 m = some (a, m1) ∧ Rel T c1 m1)
def PS_27 (Rel : TX → ST → ST → Prop) : Prop := (∀ (T : TX) (c m : ST) (v1 v2 v3 : Int32), Rel T c m → ∃ (a : Int32) (c1 m1 : ST), f_X4_drawn T v1 v2 v3 c = some (a, c1) ∧ f_X5_drawn v1 v2 v3 m = some (a, m1) ∧ Rel T c1 m1)
def PS_28 (Rel : TX → ST → ST → Prop) : Prop := (∀ (T : TX) (c m : ST) (v1 v2 v3 v4 : Int32), Rel T c m → ∃ (a : Int64) (c1 m1 : ST), f_X4_odds T v1 v2 v3 v4 c = some (a, c1) ∧ f_X5_odds v1 v2 v3 v4 m = some (a, m1) ∧ Rel T c1 m1)
def PS_29 (Rel : TX → ST → ST → Prop) : Prop := (∀ (T : TX) (c m : ST), Rel T c m → ∃ (a : Int32) (c1 m1 : ST), f_X4_image T c = some (a, c1) ∧ f_X5_image m = some (a, m1) ∧ Rel T c1 m1)
def PS_30 (Rel : TX → ST → ST → Prop) : Prop := (∀ (T : TX) (c m : ST), Rel T c m → ∃ (a : Int32) (c1 m1 : ST), f_X4_back T c = some (a, c1) ∧ f_X5_back m = some (a, m1) ∧ Rel T c1 m1)
def PS_31 (Rel : TX → ST → ST → Prop) : Prop := (∀ (T : TX) (c m : ST) (v1 v2 v3 : Int32), Rel T c m → ∃ (a : Int32) (c1 m1 : ST), f_X4_sheet T v1 v2 v3 c = some (a, c1) ∧ f_X5_sheet v1 v2 v3 m = some (a, m1) ∧ Rel T c1 m1)
def PS_32 (Rel : TX → ST → ST → Prop) : Prop := (∀ (T : TX) (c m : ST) (v1 v2 v3 : Int32), Rel T c m → ∃ (a : Int32) (c1 m1 : ST), f_X4_cell T v1 v2 v3 c = some (a, c1) ∧ f_X5_cell v1 v2 v3 m = some (a, m1) ∧ Rel T c1 m1)
def PS_33 (Rel : TX → ST → ST → Prop) : Prop := (∀ (T : TX) (c m : ST) (v1 v2 v3 v4 v5 : Int32), Rel T c m → ∃ (a : Int32) (c1 m1 : ST), f_X4_copy T v1 v2 v3 v4 v5 c = some (a, c1) ∧ f_X5_copy v1 v2 v3 v4 v5 m = some (a, m1) ∧ Rel T c1 m1)
def PS_34 (Rel : TX → ST → ST → Prop) : Prop := (∀ (T : TX) (c m : ST) (v1 v2 v3 v4 : Int32), Rel T c m → ∃ (a : Int32) (c1 m1 : ST), f_X4_setBy T v1 v2 v3 v4 c = some (a, c1) ∧ f_X5_setBy v1 v2 v3 v4 m = some (a, m1) ∧ Rel T c1 m1)
def PS_35 (Rel : TX → ST → ST → Prop) : Prop := (∀ (T : TX) (c m : ST) (v1 v2 : Int32), Rel T c m → ∃ (a : Int32) (c1 m1 : ST), f_X4_taken T v1 v2 c = some (a, c1) ∧ f_X5_taken v1 v2 m = some (a, m1) ∧ Rel T c1 m1)
set_option maxRecDepth 100000 in
set_option maxHeartbeats 4000000 in
theorem lc_0 {Rel : TX → ST → ST → Prop} (hP : PS_0 Rel) {E : JE} {Q : State → Prop} {G0 G GM : JG} {W0 : ST → va_W} {b L : Nat} {xs : Nat → Int32} {kc ks i0 : Nat} {x3 : Int32} (X : XR E 4 cL_law RL (some .boolean) 2048 84000 600000 7302250 (gI G0)) (e1 : jL E = G0.1) (e2 : jV E = VI G0 W0) (g : LGp G0 G) (gm : LGp G0 GM) (hX : va_X b L xs (jS E) (jS E).heap) (hbl : b < (jS E).heap.size) (hbA : ¬ jA E b) (hx3 : x3 = nI i0) (hi0 : i0 + 7 ≤ L) (hL : L ≤ 3584) (σc σm : ST) (hr : Rel (gT G) σc σm) (hfit : kc ≤ 600000 ∧ ks ≤ 7302250) (kk : ∀ c1 m1 : ST, Rel (gT G) c1 m1 → JR E 4 Q [(0, .ref b), (1, .ref (gO G 0)), (2, .ref (gO GM 50)), (3, .int x3)] 1524 [] (wC G c1 ++ wM GM m1) kc ks) : JR E 4 Q [(0, .ref b), (1, .ref (gO G 0)), (2, .ref (gO GM 50)), (3, .int x3)] 192 [] (wC G σc ++ wM GM σm) kc ks := by
  have hin : ∀ k : Nat, k < 7 → vp_in (x3 + Int32.ofNat k) L := fun k hk => by
    rw [hx3]
    show vp_in (nI i0 + nI k) L
    rw [nI_add]
    exact vp_in_nI (by omega) (by omega)
  obtain ⟨a, c1, m1, h1, h2, h3⟩ := hP (gT G) σc σm (xs (x3 + (1 : Int32)).toNatClampNeg) hr
  refine R_aload_n X 1 dL_law_192 rfl rfl ?_
  refine R_aload_n X 0 dL_law_193 rfl rfl ?_
  refine R_iload_n X 3 dL_law_194 rfl rfl ?_
  refine R_iconst (v := (1 : Int32)) X dL_law_195 (by decide) ?_
  refine R_iadd X dL_law_196 ?_
  refine R_sld X hX hbl hbA (hin 1 (by decide)) dL_law_197 ?_
  refine L_c (As := [.int (xs (x3 + (1 : Int32)).toNatClampNeg)]) (st := []) X e1 e2 g (c_X4_count G (xs (x3 + (1 : Int32)).toNatClampNeg) σc) h1 rfl rfl wi_X4_count win_X4_count wse_X4_count wml_RL_13 ⟨(Nat.le_of_ble_eq_true rfl), (Nat.le_of_ble_eq_true rfl)⟩ hfit rfl (Nat.le_of_ble_eq_true rfl) dL_law_198 ?_
  refine R_aload_n X 2 dL_law_201 rfl rfl ?_
  refine R_aload_n X 0 dL_law_202 rfl rfl ?_
  refine R_iload_n X 3 dL_law_203 rfl rfl ?_
  refine R_iconst (v := (1 : Int32)) X dL_law_204 (by decide) ?_
  refine R_iadd X dL_law_205 ?_
  refine R_sld X hX hbl hbA (hin 1 (by decide)) dL_law_206 ?_
  refine L_m (As := [.int (xs (x3 + (1 : Int32)).toNatClampNeg)]) (st := [.int a]) X e1 e2 gm (c_X5_count GM (xs (x3 + (1 : Int32)).toNatClampNeg) σm) h2 rfl rfl wi_X5_count win_X5_count wse_X5_count wml_RL_17 ⟨(Nat.le_of_ble_eq_true rfl), (Nat.le_of_ble_eq_true rfl)⟩ hfit rfl (Nat.le_of_ble_eq_true rfl) dL_law_207 ?_
  refine R_icmp_eqs (tgt := 1524) X dL_law_210 (by decide) ?_
  exact kk c1 m1 h3
set_option maxRecDepth 100000 in
set_option maxHeartbeats 4000000 in
theorem lc_1 {Rel : TX → ST → ST → Prop} (hP : PS_1 Rel) {E : JE} {Q : State → Prop} {G0 G GM : JG} {W0 : ST → va_W} {b L : Nat} {xs : Nat → Int32} {kc ks i0 : Nat} {x3 : Int32} (X : XR E 4 cL_law RL (some .boolean) 2048 84000 600000 7302250 (gI G0)) (e1 : jL E = G0.1) (e2 : jV E = VI G0 W0) (g : LGp G0 G) (gm : LGp G0 GM) (hX : va_X b L xs (jS E) (jS E).heap) (hbl : b < (jS E).heap.size) (hbA : ¬ jA E b) (hx3 : x3 = nI i0) (hi0 : i0 + 7 ≤ L) (hL : L ≤ 3584) (σc σm : ST) (hr : Rel (gT G) σc σm) (hfit : kc ≤ 600000 ∧ ks ≤ 7302250) (kk : ∀ c1 m1 : ST, Rel (gT G) c1 m1 → JR E 4 Q [(0, .ref b), (1, .ref (gO G 0)), (2, .ref (gO GM 50)), (3, .int x3)] 1524 [] (wC G c1 ++ wM GM m1) kc ks) : JR E 4 Q [(0, .ref b), (1, .ref (gO G 0)), (2, .ref (gO GM 50)), (3, .int x3)] 215 [] (wC G σc ++ wM GM σm) kc ks := by
  have hin : ∀ k : Nat, k < 7 → vp_in (x3 + Int32.ofNat k) L := fun k hk => by
    rw [hx3]
    show vp_in (nI i0 + nI k) L
    rw [nI_add]
    exact vp_in_nI (by omega) (by omega)
  obtain ⟨a, c1, m1, h1, h2, h3⟩ := hP (gT G) σc σm (xs (x3 + (1 : Int32)).toNatClampNeg) hr
  refine R_aload_n X 1 dL_law_215 rfl rfl ?_
  refine R_aload_n X 0 dL_law_216 rfl rfl ?_
  refine R_iload_n X 3 dL_law_217 rfl rfl ?_
  refine R_iconst (v := (1 : Int32)) X dL_law_218 (by decide) ?_
  refine R_iadd X dL_law_219 ?_
  refine R_sld X hX hbl hbA (hin 1 (by decide)) dL_law_220 ?_
  refine L_c (As := [.int (xs (x3 + (1 : Int32)).toNatClampNeg)]) (st := []) X e1 e2 g (c_X4_clock G (xs (x3 + (1 : Int32)).toNatClampNeg) σc) h1 rfl rfl wi_X4_clock win_X4_clock wse_X4_clock wml_RL_18 ⟨(Nat.le_of_ble_eq_true rfl), (Nat.le_of_ble_eq_true rfl)⟩ hfit rfl (Nat.le_of_ble_eq_true rfl) dL_law_221 ?_
  refine R_aload_n X 2 dL_law_224 rfl rfl ?_
  refine R_aload_n X 0 dL_law_225 rfl rfl ?_
  refine R_iload_n X 3 dL_law_226 rfl rfl ?_
  refine R_iconst (v := (1 : Int32)) X dL_law_227 (by decide) ?_
  refine R_iadd X dL_law_228 ?_
  refine R_sld X hX hbl hbA (hin 1 (by decide)) dL_law_229 ?_
  refine L_m (As := [.int (xs (x3 + (1 : Int32)).toNatClampNeg)]) (st := [.int a]) X e1 e2 gm (c_X5_clock GM (xs (x3 + (1 : Int32)).toNatClampNeg) σm) h2 rfl rfl wi_X5_clock win_X5_clock wse_X5_clock wml_RL_21 ⟨(Nat.le_of_ble_eq_true rfl), (Nat.le_of_ble_eq_true rfl)⟩ hfit rfl (Nat.le_of_ble_eq_true rfl) dL_law_230 ?_
  refine R_icmp_eqs (tgt := 1524) X dL_law_233 (by decide) ?_
  exact kk c1 m1 h3
set_option maxRecDepth 100000 in
set_option maxHeartbeats 4000000 in
theorem lc_2 {Rel : TX → ST → ST → Prop} (hP : PS_2 Rel) {E : JE} {Q : State → Prop} {G0 G GM : JG} {W0 : ST → va_W} {b L : Nat} {xs : Nat → Int32} {kc ks i0 : Nat} {x3 : Int32} (X : XR E 4 cL_law RL (some .boolean) 2048 84000 600000 7302250 (gI G0)) (e1 : jL E = G0.1) (e2 : jV E = VI G0 W0) (g : LGp G0 G) (gm : LGp G0 GM) (hX : va_X b L xs (jS E) (jS E).heap) (hbl : b < (jS E).heap.size) (hbA : ¬ jA E b) (hx3 : x3 = nI i0) (hi0 : i0 + 7 ≤ L) (hL : L ≤ 3584) (σc σm : ST) (hr : Rel (gT G) σc σm) (hfit : kc ≤ 600000 ∧ ks ≤ 7302250) (kk : ∀ c1 m1 : ST, Rel (gT G) c1 m1 → JR E 4 Q [(0, .ref b), (1, .ref (gO G 0)), (2, .ref (gO GM 50)), (3, .int x3)] 1524 [] (wC G c1 ++ wM GM m1) kc ks) : JR E 4 Q [(0, .ref b), (1, .ref (gO G 0)), (2, .ref (gO GM 50)), (3, .int x3)] 238 [] (wC G σc ++ wM GM σm) kc ks := by
  have hin : ∀ k : Nat, k < 7 → vp_in (x3 + Int32.ofNat k) L := fun k hk => by
    rw [hx3]
    show vp_in (nI i0 + nI k) L
    rw [nI_add]
    exact vp_in_nI (by omega) (by omega)
  obtain ⟨a, c1, m1, h1, h2, h3⟩ := hP (gT G) σc σm (xs (x3 + (1 : Int32)).toNatClampNeg) (xs (x3 + (2 : Int32)).toNatClampNeg) (xs (x3 + (3 : Int32)).toNatClampNeg) (xs (x3 + (4 : Int32)).toNatClampNeg) (xs (x3 + (5 : Int32)).toNatClampNeg) (xs (x3 + (6 : Int32)).toNatClampNeg) hr
  refine R_aload_n X 1 dL_law_238 rfl rfl ?_
  refine R_aload_n X 0 dL_law_239 rfl rfl ?_
  refine R_iload_n X 3 dL_law_240 rfl rfl ?_
  refine R_iconst (v := (1 : Int32)) X dL_law_241 (by decide) ?_
  refine R_iadd X dL_law_242 ?_
  refine R_sld X hX hbl hbA (hin 1 (by decide)) dL_law_243 ?_
  refine R_aload_n X 0 dL_law_244 rfl rfl ?_
  refine R_iload_n X 3 dL_law_245 rfl rfl ?_
  refine R_iconst (v := (2 : Int32)) X dL_law_246 (by decide) ?_
  refine R_iadd X dL_law_247 ?_
  refine R_sld X hX hbl hbA (hin 2 (by decide)) dL_law_248 ?_
  refine R_aload_n X 0 dL_law_249 rfl rfl ?_
  refine R_iload_n X 3 dL_law_250 rfl rfl ?_
  refine R_iconst (v := (3 : Int32)) X dL_law_251 (by decide) ?_
  refine R_iadd X dL_law_252 ?_
  refine R_sld X hX hbl hbA (hin 3 (by decide)) dL_law_253 ?_
  refine R_aload_n X 0 dL_law_254 rfl rfl ?_
  refine R_iload_n X 3 dL_law_255 rfl rfl ?_
  refine R_iconst (v := (4 : Int32)) X dL_law_256 (by decide) ?_
  refine R_iadd X dL_law_257 ?_
  refine R_sld X hX hbl hbA (hin 4 (by decide)) dL_law_258 ?_
  refine R_aload_n X 0 dL_law_259 rfl rfl ?_
  refine R_iload_n X 3 dL_law_260 rfl rfl ?_
  refine R_iconst (v := (5 : Int32)) X dL_law_261 (by decide) ?_
  refine R_iadd X dL_law_262 ?_
  refine R_sld X hX hbl hbA (hin 5 (by decide)) dL_law_263 ?_
  refine R_aload_n X 0 dL_law_264 rfl rfl ?_
  refine R_iload_n X 3 dL_law_265 rfl rfl ?_
  refine R_bipush (v := (6 : Int32)) X dL_law_266 (by decide) ?_
  refine R_iadd X dL_law_268 ?_
  refine R_sld X hX hbl hbA (hin 6 (by decide)) dL_law_269 ?_
  refine L_c (As := [.int (xs (x3 + (1 : Int32)).toNatClampNeg), .int (xs (x3 + (2 : Int32)).toNatClampNeg), .int (xs (x3 + (3 : Int32)).toNatClampNeg), .int (xs (x3 + (4 : Int32)).toNatClampNeg), .int (xs (x3 + (5 : Int32)).toNatClampNeg), .int (xs (x3 + (6 : Int32)).toNatClampNeg)]) (st := []) X e1 e2 g (c_X4_feed G (xs (x3 + (1 : Int32)).toNatClampNeg) (xs (x3 + (2 : Int32)).toNatClampNeg) (xs (x3 + (3 : Int32)).toNatClampNeg) (xs (x3 + (4 : Int32)).toNatClampNeg) (xs (x3 + (5 : Int32)).toNatClampNeg) (xs (x3 + (6 : Int32)).toNatClampNeg) σc) h1 rfl rfl wi_X4_feed win_X4_feed wse_X4_feed wml_RL_22 ⟨(Nat.le_of_ble_eq_true rfl), (Nat.le_of_ble_eq_true rfl)⟩ hfit rfl (Nat.le_of_ble_eq_true rfl) dL_law_270 ?_
  refine R_aload_n X 2 dL_law_273 rfl rfl ?_
  refine R_aload_n X 0 dL_law_274 rfl rfl ?_
  refine R_iload_n X 3 dL_law_275 rfl rfl ?_
  refine R_iconst (v := (1 : Int32)) X dL_law_276 (by decide) ?_
  refine R_iadd X dL_law_277 ?_
  refine R_sld X hX hbl hbA (hin 1 (by decide)) dL_law_278 ?_
  refine R_aload_n X 0 dL_law_279 rfl rfl ?_
  refine R_iload_n X 3 dL_law_280 rfl rfl ?_
  refine R_iconst (v := (2 : Int32)) X dL_law_281 (by decide) ?_
  refine R_iadd X dL_law_282 ?_
  refine R_sld X hX hbl hbA (hin 2 (by decide)) dL_law_283 ?_
  refine R_aload_n X 0 dL_law_284 rfl rfl ?_
  refine R_iload_n X 3 dL_law_285 rfl rfl ?_
  refine R_iconst (v := (3 : Int32)) X dL_law_286 (by decide) ?_
  refine R_iadd X dL_law_287 ?_
  refine R_sld X hX hbl hbA (hin 3 (by decide)) dL_law_288 ?_
  refine R_aload_n X 0 dL_law_289 rfl rfl ?_
  refine R_iload_n X 3 dL_law_290 rfl rfl ?_
  refine R_iconst (v := (4 : Int32)) X dL_law_291 (by decide) ?_
  refine R_iadd X dL_law_292 ?_
  refine R_sld X hX hbl hbA (hin 4 (by decide)) dL_law_293 ?_
  refine R_aload_n X 0 dL_law_294 rfl rfl ?_
  refine R_iload_n X 3 dL_law_295 rfl rfl ?_
  refine R_iconst (v := (5 : Int32)) X dL_law_296 (by decide) ?_
  refine R_iadd X dL_law_297 ?_
  refine R_sld X hX hbl hbA (hin 5 (by decide)) dL_law_298 ?_
  refine R_aload_n X 0 dL_law_299 rfl rfl ?_
  refine R_iload_n X 3 dL_law_300 rfl rfl ?_
  refine R_bipush (v := (6 : Int32)) X dL_law_301 (by decide) ?_
  refine R_iadd X dL_law_303 ?_
  refine R_sld X hX hbl hbA (hin 6 (by decide)) dL_law_304 ?_
  refine L_m (As := [.int (xs (x3 + (1 : Int32)).toNatClampNeg), .int (xs (x3 + (2 : Int32)).toNatClampNeg), .int (xs (x3 + (3 : Int32)).toNatClampNeg), .int (xs (x3 + (4 : Int32)).toNatClampNeg), .int (xs (x3 + (5 : Int32)).toNatClampNeg), .int (xs (x3 + (6 : Int32)).toNatClampNeg)]) (st := [.int a]) X e1 e2 gm (c_X5_feed GM (xs (x3 + (1 : Int32)).toNatClampNeg) (xs (x3 + (2 : Int32)).toNatClampNeg) (xs (x3 + (3 : Int32)).toNatClampNeg) (xs (x3 + (4 : Int32)).toNatClampNeg) (xs (x3 + (5 : Int32)).toNatClampNeg) (xs (x3 + (6 : Int32)).toNatClampNeg) σm) h2 rfl rfl wi_X5_feed win_X5_feed wse_X5_feed wml_RL_26 ⟨(Nat.le_of_ble_eq_true rfl), (Nat.le_of_ble_eq_true rfl)⟩ hfit rfl (Nat.le_of_ble_eq_true rfl) dL_law_305 ?_
  refine R_icmp_eqs (tgt := 1524) X dL_law_308 (by decide) ?_
  exact kk c1 m1 h3
set_option maxRecDepth 100000 in
set_option maxHeartbeats 4000000 in
theorem lc_3 {Rel : TX → ST → ST → Prop} (hP : PS_3 Rel) {E : JE} {Q : State → Prop} {G0 G GM : JG} {W0 : ST → va_W} {b L : Nat} {xs : Nat → Int32} {kc ks i0 : Nat} {x3 : Int32} (X : XR E 4 cL_law RL (some .boolean) 2048 84000 600000 7302250 (gI G0)) (e1 : jL E = G0.1) (e2 : jV E = VI G0 W0) (g : LGp G0 G) (gm : LGp G0 GM) (hX : va_X b L xs (jS E) (jS E).heap) (hbl : b < (jS E).heap.size) (hbA : ¬ jA E b) (hx3 : x3 = nI i0) (hi0 : i0 + 7 ≤ L) (hL : L ≤ 3584) (σc σm : ST) (hr : Rel (gT G) σc σm) (hfit : kc + 3 ≤ 600000 ∧ ks + 165 ≤ 7302250) (kk : ∀ (G1 : JG) (c1 m1 : ST), LGp G0 G1 → gO G1 0 = gO G 0 → Rel (gT G1) c1 m1 → JR E 4 Q [(0, .ref b), (1, .ref (gO G 0)), (2, .ref (gO GM 50)), (3, .int x3)] 1524 [] (wC G1 c1 ++ wM GM m1) (kc + 3) (ks + 165)) : JR E 4 Q [(0, .ref b), (1, .ref (gO G 0)), (2, .ref (gO GM 50)), (3, .int x3)] 313 [] (wC G σc ++ wM GM σm) kc ks := by
  obtain ⟨r, bb, c1, m1, h1, h2, h3⟩ := hP _ _ _ hr
  refine R_aload_n X 1 dL_law_313 rfl rfl ?_
  refine L_t X e1 e2 g h1 wml_RL_27 ⟨(Nat.le_of_ble_eq_true rfl), (Nat.le_of_ble_eq_true rfl)⟩ hfit (Nat.le_of_ble_eq_true rfl) dL_law_314 (fun q => ?_)
  have g1 : LGp G0 (if bb then gAdd G q c1 else G) := by cases bb <;> exact g
  have g0 : gO (if bb then gAdd G q c1 else G) 0 = gO G 0 := by cases bb <;> rfl
  have g3 : Rel (gT (if bb then gAdd G q c1 else G)) c1 m1 := by have := h3 q; cases bb <;> exact this
  refine R_aload_n X 2 dL_law_317 rfl rfl ?_
  refine L_m (As := []) (st := [.int r]) X e1 e2 gm (c_X5_text GM σm) h2 rfl rfl wi_X5_text win_X5_text wse_X5_text wml_RL_31 ⟨(Nat.le_of_ble_eq_true rfl), (Nat.le_of_ble_eq_true rfl)⟩ hfit rfl (Nat.le_of_ble_eq_true rfl) dL_law_318 ?_
  refine R_icmp_eqs (tgt := 1524) X dL_law_321 (by decide) ?_
  exact kk _ c1 m1 g1 g0 g3
set_option maxRecDepth 100000 in
set_option maxHeartbeats 4000000 in
theorem lc_4 {Rel : TX → ST → ST → Prop} (hP : PS_4 Rel) {E : JE} {Q : State → Prop} {G0 G GM : JG} {W0 : ST → va_W} {b L : Nat} {xs : Nat → Int32} {kc ks i0 : Nat} {x3 : Int32} (X : XR E 4 cL_law RL (some .boolean) 2048 84000 600000 7302250 (gI G0)) (e1 : jL E = G0.1) (e2 : jV E = VI G0 W0) (g : LGp G0 G) (gm : LGp G0 GM) (hX : va_X b L xs (jS E) (jS E).heap) (hbl : b < (jS E).heap.size) (hbA : ¬ jA E b) (hx3 : x3 = nI i0) (hi0 : i0 + 7 ≤ L) (hL : L ≤ 3584) (σc σm : ST) (hr : Rel (gT G) σc σm) (hfit : kc ≤ 600000 ∧ ks ≤ 7302250) (kk : ∀ c1 m1 : ST, Rel (gT G) c1 m1 → JR E 4 Q [(0, .ref b), (1, .ref (gO G 0)), (2, .ref (gO GM 50)), (3, .int x3)] 1524 [] (wC G c1 ++ wM GM m1) kc ks) : JR E 4 Q [(0, .ref b), (1, .ref (gO G 0)), (2, .ref (gO GM 50)), (3, .int x3)] 326 [] (wC G σc ++ wM GM σm) kc ks := by
  have hin : ∀ k : Nat, k < 7 → vp_in (x3 + Int32.ofNat k) L := fun k hk => by
    rw [hx3]
    show vp_in (nI i0 + nI k) L
    rw [nI_add]
    exact vp_in_nI (by omega) (by omega)
  obtain ⟨a, c1, m1, h1, h2, h3⟩ := hP (gT G) σc σm (xs (x3 + (1 : Int32)).toNatClampNeg) hr
  refine R_aload_n X 1 dL_law_326 rfl rfl ?_
  refine R_aload_n X 0 dL_law_327 rfl rfl ?_
  refine R_iload_n X 3 dL_law_328 rfl rfl ?_
  refine R_iconst (v := (1 : Int32)) X dL_law_329 (by decide) ?_
  refine R_iadd X dL_law_330 ?_
  refine R_sld X hX hbl hbA (hin 1 (by decide)) dL_law_331 ?_
  refine L_c (As := [.int (xs (x3 + (1 : Int32)).toNatClampNeg)]) (st := []) X e1 e2 g (c_X4_force G (xs (x3 + (1 : Int32)).toNatClampNeg) σc) h1 rfl rfl wi_X4_force win_X4_force wse_X4_force wml_RL_32 ⟨(Nat.le_of_ble_eq_true rfl), (Nat.le_of_ble_eq_true rfl)⟩ hfit rfl (Nat.le_of_ble_eq_true rfl) dL_law_332 ?_
  refine R_aload_n X 2 dL_law_335 rfl rfl ?_
  refine R_aload_n X 0 dL_law_336 rfl rfl ?_
  refine R_iload_n X 3 dL_law_337 rfl rfl ?_
  refine R_iconst (v := (1 : Int32)) X dL_law_338 (by decide) ?_
  refine R_iadd X dL_law_339 ?_
  refine R_sld X hX hbl hbA (hin 1 (by decide)) dL_law_340 ?_
  refine L_m (As := [.int (xs (x3 + (1 : Int32)).toNatClampNeg)]) (st := [.int a]) X e1 e2 gm (c_X5_force GM (xs (x3 + (1 : Int32)).toNatClampNeg) σm) h2 rfl rfl wi_X5_force win_X5_force wse_X5_force wml_RL_35 ⟨(Nat.le_of_ble_eq_true rfl), (Nat.le_of_ble_eq_true rfl)⟩ hfit rfl (Nat.le_of_ble_eq_true rfl) dL_law_341 ?_
  refine R_icmp_eqs (tgt := 1524) X dL_law_344 (by decide) ?_
  exact kk c1 m1 h3
set_option maxRecDepth 100000 in
set_option maxHeartbeats 4000000 in
theorem lc_5 {Rel : TX → ST → ST → Prop} (hP : PS_5 Rel) {E : JE} {Q : State → Prop} {G0 G GM : JG} {W0 : ST → va_W} {b L : Nat} {xs : Nat → Int32} {kc ks i0 : Nat} {x3 : Int32} (X : XR E 4 cL_law RL (some .boolean) 2048 84000 600000 7302250 (gI G0)) (e1 : jL E = G0.1) (e2 : jV E = VI G0 W0) (g : LGp G0 G) (gm : LGp G0 GM) (hX : va_X b L xs (jS E) (jS E).heap) (hbl : b < (jS E).heap.size) (hbA : ¬ jA E b) (hx3 : x3 = nI i0) (hi0 : i0 + 7 ≤ L) (hL : L ≤ 3584) (σc σm : ST) (hr : Rel (gT G) σc σm) (hfit : kc ≤ 600000 ∧ ks ≤ 7302250) (kk : ∀ c1 m1 : ST, Rel (gT G) c1 m1 → JR E 4 Q [(0, .ref b), (1, .ref (gO G 0)), (2, .ref (gO GM 50)), (3, .int x3)] 1524 [] (wC G c1 ++ wM GM m1) kc ks) : JR E 4 Q [(0, .ref b), (1, .ref (gO G 0)), (2, .ref (gO GM 50)), (3, .int x3)] 349 [] (wC G σc ++ wM GM σm) kc ks := by
  have hin : ∀ k : Nat, k < 7 → vp_in (x3 + Int32.ofNat k) L := fun k hk => by
    rw [hx3]
    show vp_in (nI i0 + nI k) L
    rw [nI_add]
    exact vp_in_nI (by omega) (by omega)
  obtain ⟨a, c1, m1, h1, h2, h3⟩ := hP (gT G) σc σm (xs (x3 + (1 : Int32)).toNatClampNeg) (xs (x3 + (2 : Int32)).toNatClampNeg) (xs (x3 + (3 : Int32)).toNatClampNeg) hr
  refine R_aload_n X 1 dL_law_349 rfl rfl ?_
  refine R_aload_n X 0 dL_law_350 rfl rfl ?_
  refine R_iload_n X 3 dL_law_351 rfl rfl ?_
  refine R_iconst (v := (1 : Int32)) X dL_law_352 (by decide) ?_
  refine R_iadd X dL_law_353 ?_
  refine R_sld X hX hbl hbA (hin 1 (by decide)) dL_law_354 ?_
  refine R_aload_n X 0 dL_law_355 rfl rfl ?_
  refine R_iload_n X 3 dL_law_356 rfl rfl ?_
  refine R_iconst (v := (2 : Int32)) X dL_law_357 (by decide) ?_
  refine R_iadd X dL_law_358 ?_
  refine R_sld X hX hbl hbA (hin 2 (by decide)) dL_law_359 ?_
  refine R_aload_n X 0 dL_law_360 rfl rfl ?_
  refine R_iload_n X 3 dL_law_361 rfl rfl ?_
  refine R_iconst (v := (3 : Int32)) X dL_law_362 (by decide) ?_
  refine R_iadd X dL_law_363 ?_
  refine R_sld X hX hbl hbA (hin 3 (by decide)) dL_law_364 ?_
  refine L_c (As := [.int (xs (x3 + (1 : Int32)).toNatClampNeg), .int (xs (x3 + (2 : Int32)).toNatClampNeg), .int (xs (x3 + (3 : Int32)).toNatClampNeg)]) (st := []) X e1 e2 g (c_X4_asks G (xs (x3 + (1 : Int32)).toNatClampNeg) (xs (x3 + (2 : Int32)).toNatClampNeg) (xs (x3 + (3 : Int32)).toNatClampNeg) σc) h1 rfl rfl wi_X4_asks win_X4_asks wse_X4_asks wml_RL_36 ⟨(Nat.le_of_ble_eq_true rfl), (Nat.le_of_ble_eq_true rfl)⟩ hfit rfl (Nat.le_of_ble_eq_true rfl) dL_law_365 ?_
  refine R_aload_n X 2 dL_law_368 rfl rfl ?_
  refine R_aload_n X 0 dL_law_369 rfl rfl ?_
  refine R_iload_n X 3 dL_law_370 rfl rfl ?_
  refine R_iconst (v := (1 : Int32)) X dL_law_371 (by decide) ?_
  refine R_iadd X dL_law_372 ?_
  refine R_sld X hX hbl hbA (hin 1 (by decide)) dL_law_373 ?_
  refine R_aload_n X 0 dL_law_374 rfl rfl ?_
  refine R_iload_n X 3 dL_law_375 rfl rfl ?_
  refine R_iconst (v := (2 : Int32)) X dL_law_376 (by decide) ?_
  refine R_iadd X dL_law_377 ?_
  refine R_sld X hX hbl hbA (hin 2 (by decide)) dL_law_378 ?_
  refine R_aload_n X 0 dL_law_379 rfl rfl ?_
  refine R_iload_n X 3 dL_law_380 rfl rfl ?_
  refine R_iconst (v := (3 : Int32)) X dL_law_381 (by decide) ?_
  refine R_iadd X dL_law_382 ?_
  refine R_sld X hX hbl hbA (hin 3 (by decide)) dL_law_383 ?_
  refine L_m (As := [.int (xs (x3 + (1 : Int32)).toNatClampNeg), .int (xs (x3 + (2 : Int32)).toNatClampNeg), .int (xs (x3 + (3 : Int32)).toNatClampNeg)]) (st := [.int a]) X e1 e2 gm (c_X5_asks GM (xs (x3 + (1 : Int32)).toNatClampNeg) (xs (x3 + (2 : Int32)).toNatClampNeg) (xs (x3 + (3 : Int32)).toNatClampNeg) σm) h2 rfl rfl wi_X5_asks win_X5_asks wse_X5_asks wml_RL_40 ⟨(Nat.le_of_ble_eq_true rfl), (Nat.le_of_ble_eq_true rfl)⟩ hfit rfl (Nat.le_of_ble_eq_true rfl) dL_law_384 ?_
  refine R_icmp_eqs (tgt := 1524) X dL_law_387 (by decide) ?_
  exact kk c1 m1 h3
set_option maxRecDepth 100000 in
set_option maxHeartbeats 4000000 in
theorem lc_6 {Rel : TX → ST → ST → Prop} (hP : PS_6 Rel) {E : JE} {Q : State → Prop} {G0 G GM : JG} {W0 : ST → va_W} {b L : Nat} {xs : Nat → Int32} {kc ks i0 : Nat} {x3 : Int32} (X : XR E 4 cL_law RL (some .boolean) 2048 84000 600000 7302250 (gI G0)) (e1 : jL E = G0.1) (e2 : jV E = VI G0 W0) (g : LGp G0 G) (gm : LGp G0 GM) (hX : va_X b L xs (jS E) (jS E).heap) (hbl : b < (jS E).heap.size) (hbA : ¬ jA E b) (hx3 : x3 = nI i0) (hi0 : i0 + 7 ≤ L) (hL : L ≤ 3584) (σc σm : ST) (hr : Rel (gT G) σc σm) (hfit : kc ≤ 600000 ∧ ks ≤ 7302250) (kk : ∀ c1 m1 : ST, Rel (gT G) c1 m1 → JR E 4 Q [(0, .ref b), (1, .ref (gO G 0)), (2, .ref (gO GM 50)), (3, .int x3)] 1524 [] (wC G c1 ++ wM GM m1) kc ks) : JR E 4 Q [(0, .ref b), (1, .ref (gO G 0)), (2, .ref (gO GM 50)), (3, .int x3)] 392 [] (wC G σc ++ wM GM σm) kc ks := by
  have hin : ∀ k : Nat, k < 7 → vp_in (x3 + Int32.ofNat k) L := fun k hk => by
    rw [hx3]
    show vp_in (nI i0 + nI k) L
    rw [nI_add]
    exact vp_in_nI (by omega) (by omega)
  obtain ⟨a, c1, m1, h1, h2, h3⟩ := hP (gT G) σc σm (xs (x3 + (1 : Int32)).toNatClampNeg) (xs (x3 + (2 : Int32)).toNatClampNeg) hr
  refine R_aload_n X 1 dL_law_392 rfl rfl ?_
  refine R_aload_n X 0 dL_law_393 rfl rfl ?_
  refine R_iload_n X 3 dL_law_394 rfl rfl ?_
  refine R_iconst (v := (1 : Int32)) X dL_law_395 (by decide) ?_
  refine R_iadd X dL_law_396 ?_
  refine R_sld X hX hbl hbA (hin 1 (by decide)) dL_law_397 ?_
  refine R_aload_n X 0 dL_law_398 rfl rfl ?_
  refine R_iload_n X 3 dL_law_399 rfl rfl ?_
  refine R_iconst (v := (2 : Int32)) X dL_law_400 (by decide) ?_
  refine R_iadd X dL_law_401 ?_
  refine R_sld X hX hbl hbA (hin 2 (by decide)) dL_law_402 ?_
  refine L_c (As := [.int (xs (x3 + (1 : Int32)).toNatClampNeg), .int (xs (x3 + (2 : Int32)).toNatClampNeg)]) (st := []) X e1 e2 g (c_X4_gentleman G (xs (x3 + (1 : Int32)).toNatClampNeg) (xs (x3 + (2 : Int32)).toNatClampNeg) σc) h1 rfl rfl wi_X4_gentleman win_X4_gentleman wse_X4_gentleman wml_RL_41 ⟨(Nat.le_of_ble_eq_true rfl), (Nat.le_of_ble_eq_true rfl)⟩ hfit rfl (Nat.le_of_ble_eq_true rfl) dL_law_403 ?_
  refine R_aload_n X 2 dL_law_406 rfl rfl ?_
  refine R_aload_n X 0 dL_law_407 rfl rfl ?_
  refine R_iload_n X 3 dL_law_408 rfl rfl ?_
  refine R_iconst (v := (1 : Int32)) X dL_law_409 (by decide) ?_
  refine R_iadd X dL_law_410 ?_
  refine R_sld X hX hbl hbA (hin 1 (by decide)) dL_law_411 ?_
  refine R_aload_n X 0 dL_law_412 rfl rfl ?_
  refine R_iload_n X 3 dL_law_413 rfl rfl ?_
  refine R_iconst (v := (2 : Int32)) X dL_law_414 (by decide) ?_
  refine R_iadd X dL_law_415 ?_
  refine R_sld X hX hbl hbA (hin 2 (by decide)) dL_law_416 ?_
  refine L_m (As := [.int (xs (x3 + (1 : Int32)).toNatClampNeg), .int (xs (x3 + (2 : Int32)).toNatClampNeg)]) (st := [.int a]) X e1 e2 gm (c_X5_gentleman GM (xs (x3 + (1 : Int32)).toNatClampNeg) (xs (x3 + (2 : Int32)).toNatClampNeg) σm) h2 rfl rfl wi_X5_gentleman win_X5_gentleman wse_X5_gentleman wml_RL_45 ⟨(Nat.le_of_ble_eq_true rfl), (Nat.le_of_ble_eq_true rfl)⟩ hfit rfl (Nat.le_of_ble_eq_true rfl) dL_law_417 ?_
  refine R_icmp_eqs (tgt := 1524) X dL_law_420 (by decide) ?_
  exact kk c1 m1 h3
set_option maxRecDepth 100000 in
set_option maxHeartbeats 4000000 in
theorem lc_7 {Rel : TX → ST → ST → Prop} (hP : PS_7 Rel) {E : JE} {Q : State → Prop} {G0 G GM : JG} {W0 : ST → va_W} {b L : Nat} {xs : Nat → Int32} {kc ks i0 : Nat} {x3 : Int32} (X : XR E 4 cL_law RL (some .boolean) 2048 84000 600000 7302250 (gI G0)) (e1 : jL E = G0.1) (e2 : jV E = VI G0 W0) (g : LGp G0 G) (gm : LGp G0 GM) (hX : va_X b L xs (jS E) (jS E).heap) (hbl : b < (jS E).heap.size) (hbA : ¬ jA E b) (hx3 : x3 = nI i0) (hi0 : i0 + 7 ≤ L) (hL : L ≤ 3584) (σc σm : ST) (hr : Rel (gT G) σc σm) (hfit : kc ≤ 600000 ∧ ks ≤ 7302250) (kk : ∀ c1 m1 : ST, Rel (gT G) c1 m1 → JR E 4 Q [(0, .ref b), (1, .ref (gO G 0)), (2, .ref (gO GM 50)), (3, .int x3)] 1524 [] (wC G c1 ++ wM GM m1) kc ks) : JR E 4 Q [(0, .ref b), (1, .ref (gO G 0)), (2, .ref (gO GM 50)), (3, .int x3)] 425 [] (wC G σc ++ wM GM σm) kc ks := by
  have hin : ∀ k : Nat, k < 7 → vp_in (x3 + Int32.ofNat k) L := fun k hk => by
    rw [hx3]
    show vp_in (nI i0 + nI k) L
    rw [nI_add]
    exact vp_in_nI (by omega) (by omega)
  obtain ⟨a, c1, m1, h1, h2, h3⟩ := hP (gT G) σc σm (xs (x3 + (1 : Int32)).toNatClampNeg) (xs (x3 + (2 : Int32)).toNatClampNeg) (xs (x3 + (3 : Int32)).toNatClampNeg) hr
  refine R_aload_n X 1 dL_law_425 rfl rfl ?_
  refine R_aload_n X 0 dL_law_426 rfl rfl ?_
  refine R_iload_n X 3 dL_law_427 rfl rfl ?_
  refine R_iconst (v := (1 : Int32)) X dL_law_428 (by decide) ?_
  refine R_iadd X dL_law_429 ?_
  refine R_sld X hX hbl hbA (hin 1 (by decide)) dL_law_430 ?_
  refine R_aload_n X 0 dL_law_431 rfl rfl ?_
  refine R_iload_n X 3 dL_law_432 rfl rfl ?_
  refine R_iconst (v := (2 : Int32)) X dL_law_433 (by decide) ?_
  refine R_iadd X dL_law_434 ?_
  refine R_sld X hX hbl hbA (hin 2 (by decide)) dL_law_435 ?_
  refine R_aload_n X 0 dL_law_436 rfl rfl ?_
  refine R_iload_n X 3 dL_law_437 rfl rfl ?_
  refine R_iconst (v := (3 : Int32)) X dL_law_438 (by decide) ?_
  refine R_iadd X dL_law_439 ?_
  refine R_sld X hX hbl hbA (hin 3 (by decide)) dL_law_440 ?_
  refine L_c (As := [.int (xs (x3 + (1 : Int32)).toNatClampNeg), .int (xs (x3 + (2 : Int32)).toNatClampNeg), .int (xs (x3 + (3 : Int32)).toNatClampNeg)]) (st := []) X e1 e2 g (c_X4_put G (xs (x3 + (1 : Int32)).toNatClampNeg) (xs (x3 + (2 : Int32)).toNatClampNeg) (xs (x3 + (3 : Int32)).toNatClampNeg) σc) h1 rfl rfl wi_X4_put win_X4_put wse_X4_put wml_RL_46 ⟨(Nat.le_of_ble_eq_true rfl), (Nat.le_of_ble_eq_true rfl)⟩ hfit rfl (Nat.le_of_ble_eq_true rfl) dL_law_441 ?_
  refine R_aload_n X 2 dL_law_444 rfl rfl ?_
  refine R_aload_n X 0 dL_law_445 rfl rfl ?_
  refine R_iload_n X 3 dL_law_446 rfl rfl ?_
  refine R_iconst (v := (1 : Int32)) X dL_law_447 (by decide) ?_
  refine R_iadd X dL_law_448 ?_
  refine R_sld X hX hbl hbA (hin 1 (by decide)) dL_law_449 ?_
  refine R_aload_n X 0 dL_law_450 rfl rfl ?_
  refine R_iload_n X 3 dL_law_451 rfl rfl ?_
  refine R_iconst (v := (2 : Int32)) X dL_law_452 (by decide) ?_
  refine R_iadd X dL_law_453 ?_
  refine R_sld X hX hbl hbA (hin 2 (by decide)) dL_law_454 ?_
  refine R_aload_n X 0 dL_law_455 rfl rfl ?_
  refine R_iload_n X 3 dL_law_456 rfl rfl ?_
  refine R_iconst (v := (3 : Int32)) X dL_law_457 (by decide) ?_
  refine R_iadd X dL_law_458 ?_
  refine R_sld X hX hbl hbA (hin 3 (by decide)) dL_law_459 ?_
  refine L_m (As := [.int (xs (x3 + (1 : Int32)).toNatClampNeg), .int (xs (x3 + (2 : Int32)).toNatClampNeg), .int (xs (x3 + (3 : Int32)).toNatClampNeg)]) (st := [.int a]) X e1 e2 gm (c_X5_put GM (xs (x3 + (1 : Int32)).toNatClampNeg) (xs (x3 + (2 : Int32)).toNatClampNeg) (xs (x3 + (3 : Int32)).toNatClampNeg) σm) h2 rfl rfl wi_X5_put win_X5_put wse_X5_put wml_RL_49 ⟨(Nat.le_of_ble_eq_true rfl), (Nat.le_of_ble_eq_true rfl)⟩ hfit rfl (Nat.le_of_ble_eq_true rfl) dL_law_460 ?_
  refine R_icmp_eqs (tgt := 1524) X dL_law_463 (by decide) ?_
  exact kk c1 m1 h3
set_option maxRecDepth 100000 in
set_option maxHeartbeats 4000000 in
theorem lc_8 {Rel : TX → ST → ST → Prop} (hP : PS_8 Rel) {E : JE} {Q : State → Prop} {G0 G GM : JG} {W0 : ST → va_W} {b L : Nat} {xs : Nat → Int32} {kc ks i0 : Nat} {x3 : Int32} (X : XR E 4 cL_law RL (some .boolean) 2048 84000 600000 7302250 (gI G0)) (e1 : jL E = G0.1) (e2 : jV E = VI G0 W0) (g : LGp G0 G) (gm : LGp G0 GM) (hX : va_X b L xs (jS E) (jS E).heap) (hbl : b < (jS E).heap.size) (hbA : ¬ jA E b) (hx3 : x3 = nI i0) (hi0 : i0 + 7 ≤ L) (hL : L ≤ 3584) (σc σm : ST) (hr : Rel (gT G) σc σm) (hfit : kc ≤ 600000 ∧ ks ≤ 7302250) (kk : ∀ c1 m1 : ST, Rel (gT G) c1 m1 → JR E 4 Q [(0, .ref b), (1, .ref (gO G 0)), (2, .ref (gO GM 50)), (3, .int x3)] 1524 [] (wC G c1 ++ wM GM m1) kc ks) : JR E 4 Q [(0, .ref b), (1, .ref (gO G 0)), (2, .ref (gO GM 50)), (3, .int x3)] 468 [] (wC G σc ++ wM GM σm) kc ks := by
  have hin : ∀ k : Nat, k < 7 → vp_in (x3 + Int32.ofNat k) L := fun k hk => by
    rw [hx3]
    show vp_in (nI i0 + nI k) L
    rw [nI_add]
    exact vp_in_nI (by omega) (by omega)
  obtain ⟨a, c1, m1, h1, h2, h3⟩ := hP (gT G) σc σm (xs (x3 + (1 : Int32)).toNatClampNeg) (xs (x3 + (2 : Int32)).toNatClampNeg) hr
  refine R_aload_n X 1 dL_law_468 rfl rfl ?_
  refine R_aload_n X 0 dL_law_469 rfl rfl ?_
  refine R_iload_n X 3 dL_law_470 rfl rfl ?_
  refine R_iconst (v := (1 : Int32)) X dL_law_471 (by decide) ?_
  refine R_iadd X dL_law_472 ?_
  refine R_sld X hX hbl hbA (hin 1 (by decide)) dL_law_473 ?_
  refine R_aload_n X 0 dL_law_474 rfl rfl ?_
  refine R_iload_n X 3 dL_law_475 rfl rfl ?_
  refine R_iconst (v := (2 : Int32)) X dL_law_476 (by decide) ?_
  refine R_iadd X dL_law_477 ?_
  refine R_sld X hX hbl hbA (hin 2 (by decide)) dL_law_478 ?_
  refine L_c (As := [.int (xs (x3 + (1 : Int32)).toNatClampNeg), .int (xs (x3 + (2 : Int32)).toNatClampNeg)]) (st := []) X e1 e2 g (c_X4_told G (xs (x3 + (1 : Int32)).toNatClampNeg) (xs (x3 + (2 : Int32)).toNatClampNeg) σc) h1 rfl rfl wi_X4_told win_X4_told wse_X4_told wml_RL_50 ⟨(Nat.le_of_ble_eq_true rfl), (Nat.le_of_ble_eq_true rfl)⟩ hfit rfl (Nat.le_of_ble_eq_true rfl) dL_law_479 ?_
  refine R_aload_n X 2 dL_law_482 rfl rfl ?_
  refine R_aload_n X 0 dL_law_483 rfl rfl ?_
  refine R_iload_n X 3 dL_law_484 rfl rfl ?_
  refine R_iconst (v := (1 : Int32)) X dL_law_485 (by decide) ?_
  refine R_iadd X dL_law_486 ?_
  refine R_sld X hX hbl hbA (hin 1 (by decide)) dL_law_487 ?_
  refine R_aload_n X 0 dL_law_488 rfl rfl ?_
  refine R_iload_n X 3 dL_law_489 rfl rfl ?_
  refine R_iconst (v := (2 : Int32)) X dL_law_490 (by decide) ?_
  refine R_iadd X dL_law_491 ?_
  refine R_sld X hX hbl hbA (hin 2 (by decide)) dL_law_492 ?_
  refine L_m (As := [.int (xs (x3 + (1 : Int32)).toNatClampNeg), .int (xs (x3 + (2 : Int32)).toNatClampNeg)]) (st := [.int a]) X e1 e2 gm (c_X5_told GM (xs (x3 + (1 : Int32)).toNatClampNeg) (xs (x3 + (2 : Int32)).toNatClampNeg) σm) h2 rfl rfl wi_X5_told win_X5_told wse_X5_told wml_RL_53 ⟨(Nat.le_of_ble_eq_true rfl), (Nat.le_of_ble_eq_true rfl)⟩ hfit rfl (Nat.le_of_ble_eq_true rfl) dL_law_493 ?_
  refine R_icmp_eqs (tgt := 1524) X dL_law_496 (by decide) ?_
  exact kk c1 m1 h3
set_option maxRecDepth 100000 in
set_option maxHeartbeats 4000000 in
theorem lc_9 {Rel : TX → ST → ST → Prop} (hP : PS_9 Rel) {E : JE} {Q : State → Prop} {G0 G GM : JG} {W0 : ST → va_W} {b L : Nat} {xs : Nat → Int32} {kc ks i0 : Nat} {x3 : Int32} (X : XR E 4 cL_law RL (some .boolean) 2048 84000 600000 7302250 (gI G0)) (e1 : jL E = G0.1) (e2 : jV E = VI G0 W0) (g : LGp G0 G) (gm : LGp G0 GM) (hX : va_X b L xs (jS E) (jS E).heap) (hbl : b < (jS E).heap.size) (hbA : ¬ jA E b) (hx3 : x3 = nI i0) (hi0 : i0 + 7 ≤ L) (hL : L ≤ 3584) (σc σm : ST) (hr : Rel (gT G) σc σm) (hfit : kc ≤ 600000 ∧ ks ≤ 7302250) (kk : ∀ c1 m1 : ST, Rel (gT G) c1 m1 → JR E 4 Q [(0, .ref b), (1, .ref (gO G 0)), (2, .ref (gO GM 50)), (3, .int x3)] 1524 [] (wC G c1 ++ wM GM m1) kc ks) : JR E 4 Q [(0, .ref b), (1, .ref (gO G 0)), (2, .ref (gO GM 50)), (3, .int x3)] 501 [] (wC G σc ++ wM GM σm) kc ks := by
  have hin : ∀ k : Nat, k < 7 → vp_in (x3 + Int32.ofNat k) L := fun k hk => by
    rw [hx3]
    show vp_in (nI i0 + nI k) L
    rw [nI_add]
    exact vp_in_nI (by omega) (by omega)
  obtain ⟨a, c1, m1, h1, h2, h3⟩ := hP (gT G) σc σm (xs (x3 + (1 : Int32)).toNatClampNeg) (xs (x3 + (2 : Int32)).toNatClampNeg) (xs (x3 + (3 : Int32)).toNatClampNeg) hr
  refine R_aload_n X 1 dL_law_501 rfl rfl ?_
  refine R_aload_n X 0 dL_law_502 rfl rfl ?_
  refine R_iload_n X 3 dL_law_503 rfl rfl ?_
  refine R_iconst (v := (1 : Int32)) X dL_law_504 (by decide) ?_
  refine R_iadd X dL_law_505 ?_
  refine R_sld X hX hbl hbA (hin 1 (by decide)) dL_law_506 ?_
  refine R_aload_n X 0 dL_law_507 rfl rfl ?_
  refine R_iload_n X 3 dL_law_508 rfl rfl ?_
  refine R_iconst (v := (2 : Int32)) X dL_law_509 (by decide) ?_
  refine R_iadd X dL_law_510 ?_
  refine R_sld X hX hbl hbA (hin 2 (by decide)) dL_law_511 ?_
  refine R_aload_n X 0 dL_law_512 rfl rfl ?_
  refine R_iload_n X 3 dL_law_513 rfl rfl ?_
  refine R_iconst (v := (3 : Int32)) X dL_law_514 (by decide) ?_
  refine R_iadd X dL_law_515 ?_
  refine R_sld X hX hbl hbA (hin 3 (by decide)) dL_law_516 ?_
  refine L_c (As := [.int (xs (x3 + (1 : Int32)).toNatClampNeg), .int (xs (x3 + (2 : Int32)).toNatClampNeg), .int (xs (x3 + (3 : Int32)).toNatClampNeg)]) (st := []) X e1 e2 g (c_X4_pinches G (xs (x3 + (1 : Int32)).toNatClampNeg) (xs (x3 + (2 : Int32)).toNatClampNeg) (xs (x3 + (3 : Int32)).toNatClampNeg) σc) h1 rfl rfl wi_X4_pinches win_X4_pinches wse_X4_pinches wml_RL_54 ⟨(Nat.le_of_ble_eq_true rfl), (Nat.le_of_ble_eq_true rfl)⟩ hfit rfl (Nat.le_of_ble_eq_true rfl) dL_law_517 ?_
  refine R_aload_n X 2 dL_law_520 rfl rfl ?_
  refine R_aload_n X 0 dL_law_521 rfl rfl ?_
  refine R_iload_n X 3 dL_law_522 rfl rfl ?_
  refine R_iconst (v := (1 : Int32)) X dL_law_523 (by decide) ?_
  refine R_iadd X dL_law_524 ?_
  refine R_sld X hX hbl hbA (hin 1 (by decide)) dL_law_525 ?_
  refine R_aload_n X 0 dL_law_526 rfl rfl ?_
  refine R_iload_n X 3 dL_law_527 rfl rfl ?_
  refine R_iconst (v := (2 : Int32)) X dL_law_528 (by decide) ?_
  refine R_iadd X dL_law_529 ?_
  refine R_sld X hX hbl hbA (hin 2 (by decide)) dL_law_530 ?_
  refine R_aload_n X 0 dL_law_531 rfl rfl ?_
  refine R_iload_n X 3 dL_law_532 rfl rfl ?_
  refine R_iconst (v := (3 : Int32)) X dL_law_533 (by decide) ?_
  refine R_iadd X dL_law_534 ?_
  refine R_sld X hX hbl hbA (hin 3 (by decide)) dL_law_535 ?_
  refine L_m (As := [.int (xs (x3 + (1 : Int32)).toNatClampNeg), .int (xs (x3 + (2 : Int32)).toNatClampNeg), .int (xs (x3 + (3 : Int32)).toNatClampNeg)]) (st := [.int a]) X e1 e2 gm (c_X5_pinches GM (xs (x3 + (1 : Int32)).toNatClampNeg) (xs (x3 + (2 : Int32)).toNatClampNeg) (xs (x3 + (3 : Int32)).toNatClampNeg) σm) h2 rfl rfl wi_X5_pinches win_X5_pinches wse_X5_pinches wml_RL_57 ⟨(Nat.le_of_ble_eq_true rfl), (Nat.le_of_ble_eq_true rfl)⟩ hfit rfl (Nat.le_of_ble_eq_true rfl) dL_law_536 ?_
  refine R_icmp_eqs (tgt := 1524) X dL_law_539 (by decide) ?_
  exact kk c1 m1 h3
set_option maxRecDepth 100000 in
set_option maxHeartbeats 4000000 in
theorem lc_10 {Rel : TX → ST → ST → Prop} (hP : PS_10 Rel) {E : JE} {Q : State → Prop} {G0 G GM : JG} {W0 : ST → va_W} {b L : Nat} {xs : Nat → Int32} {kc ks i0 : Nat} {x3 : Int32} (X : XR E 4 cL_law RL (some .boolean) 2048 84000 600000 7302250 (gI G0)) (e1 : jL E = G0.1) (e2 : jV E = VI G0 W0) (g : LGp G0 G) (gm : LGp G0 GM) (hX : va_X b L xs (jS E) (jS E).heap) (hbl : b < (jS E).heap.size) (hbA : ¬ jA E b) (hx3 : x3 = nI i0) (hi0 : i0 + 7 ≤ L) (hL : L ≤ 3584) (σc σm : ST) (hr : Rel (gT G) σc σm) (hfit : kc ≤ 600000 ∧ ks ≤ 7302250) (kk : ∀ c1 m1 : ST, Rel (gT G) c1 m1 → JR E 4 Q [(0, .ref b), (1, .ref (gO G 0)), (2, .ref (gO GM 50)), (3, .int x3)] 1524 [] (wC G c1 ++ wM GM m1) kc ks) : JR E 4 Q [(0, .ref b), (1, .ref (gO G 0)), (2, .ref (gO GM 50)), (3, .int x3)] 544 [] (wC G σc ++ wM GM σm) kc ks := by
  have hin : ∀ k : Nat, k < 7 → vp_in (x3 + Int32.ofNat k) L := fun k hk => by
    rw [hx3]
    show vp_in (nI i0 + nI k) L
    rw [nI_add]
    exact vp_in_nI (by omega) (by omega)
  obtain ⟨a, c1, m1, h1, h2, h3⟩ := hP (gT G) σc σm (xs (x3 + (1 : Int32)).toNatClampNeg) (xs (x3 + (2 : Int32)).toNatClampNeg) hr
  refine R_aload_n X 1 dL_law_544 rfl rfl ?_
  refine R_aload_n X 0 dL_law_545 rfl rfl ?_
  refine R_iload_n X 3 dL_law_546 rfl rfl ?_
  refine R_iconst (v := (1 : Int32)) X dL_law_547 (by decide) ?_
  refine R_iadd X dL_law_548 ?_
  refine R_sld X hX hbl hbA (hin 1 (by decide)) dL_law_549 ?_
  refine R_aload_n X 0 dL_law_550 rfl rfl ?_
  refine R_iload_n X 3 dL_law_551 rfl rfl ?_
  refine R_iconst (v := (2 : Int32)) X dL_law_552 (by decide) ?_
  refine R_iadd X dL_law_553 ?_
  refine R_sld X hX hbl hbA (hin 2 (by decide)) dL_law_554 ?_
  refine L_c (As := [.int (xs (x3 + (1 : Int32)).toNatClampNeg), .int (xs (x3 + (2 : Int32)).toNatClampNeg)]) (st := []) X e1 e2 g (c_X4_pinch G (xs (x3 + (1 : Int32)).toNatClampNeg) (xs (x3 + (2 : Int32)).toNatClampNeg) σc) h1 rfl rfl wi_X4_pinch win_X4_pinch wse_X4_pinch wml_RL_58 ⟨(Nat.le_of_ble_eq_true rfl), (Nat.le_of_ble_eq_true rfl)⟩ hfit rfl (Nat.le_of_ble_eq_true rfl) dL_law_555 ?_
  refine R_aload_n X 2 dL_law_558 rfl rfl ?_
  refine R_aload_n X 0 dL_law_559 rfl rfl ?_
  refine R_iload_n X 3 dL_law_560 rfl rfl ?_
  refine R_iconst (v := (1 : Int32)) X dL_law_561 (by decide) ?_
  refine R_iadd X dL_law_562 ?_
  refine R_sld X hX hbl hbA (hin 1 (by decide)) dL_law_563 ?_
  refine R_aload_n X 0 dL_law_564 rfl rfl ?_
  refine R_iload_n X 3 dL_law_565 rfl rfl ?_
  refine R_iconst (v := (2 : Int32)) X dL_law_566 (by decide) ?_
  refine R_iadd X dL_law_567 ?_
  refine R_sld X hX hbl hbA (hin 2 (by decide)) dL_law_568 ?_
  refine L_m (As := [.int (xs (x3 + (1 : Int32)).toNatClampNeg), .int (xs (x3 + (2 : Int32)).toNatClampNeg)]) (st := [.int a]) X e1 e2 gm (c_X5_pinch GM (xs (x3 + (1 : Int32)).toNatClampNeg) (xs (x3 + (2 : Int32)).toNatClampNeg) σm) h2 rfl rfl wi_X5_pinch win_X5_pinch wse_X5_pinch wml_RL_61 ⟨(Nat.le_of_ble_eq_true rfl), (Nat.le_of_ble_eq_true rfl)⟩ hfit rfl (Nat.le_of_ble_eq_true rfl) dL_law_569 ?_
  refine R_icmp_eqs (tgt := 1524) X dL_law_572 (by decide) ?_
  exact kk c1 m1 h3
set_option maxRecDepth 100000 in
set_option maxHeartbeats 4000000 in
theorem lc_11 {Rel : TX → ST → ST → Prop} (hP : PS_11 Rel) {E : JE} {Q : State → Prop} {G0 G GM : JG} {W0 : ST → va_W} {b L : Nat} {xs : Nat → Int32} {kc ks i0 : Nat} {x3 : Int32} (X : XR E 4 cL_law RL (some .boolean) 2048 84000 600000 7302250 (gI G0)) (e1 : jL E = G0.1) (e2 : jV E = VI G0 W0) (g : LGp G0 G) (gm : LGp G0 GM) (hX : va_X b L xs (jS E) (jS E).heap) (hbl : b < (jS E).heap.size) (hbA : ¬ jA E b) (hx3 : x3 = nI i0) (hi0 : i0 + 7 ≤ L) (hL : L ≤ 3584) (σc σm : ST) (hr : Rel (gT G) σc σm) (hfit : kc ≤ 600000 ∧ ks ≤ 7302250) (kk : ∀ c1 m1 : ST, Rel (gT G) c1 m1 → JR E 4 Q [(0, .ref b), (1, .ref (gO G 0)), (2, .ref (gO GM 50)), (3, .int x3)] 1524 [] (wC G c1 ++ wM GM m1) kc ks) : JR E 4 Q [(0, .ref b), (1, .ref (gO G 0)), (2, .ref (gO GM 50)), (3, .int x3)] 577 [] (wC G σc ++ wM GM σm) kc ks := by
  have hin : ∀ k : Nat, k < 7 → vp_in (x3 + Int32.ofNat k) L := fun k hk => by
    rw [hx3]
    show vp_in (nI i0 + nI k) L
    rw [nI_add]
    exact vp_in_nI (by omega) (by omega)
  obtain ⟨a, c1, m1, h1, h2, h3⟩ := hP (gT G) σc σm (xs (x3 + (1 : Int32)).toNatClampNeg) (xs (x3 + (2 : Int32)).toNatClampNeg) (xs (x3 + (3 : Int32)).toNatClampNeg) hr
  refine R_aload_n X 1 dL_law_577 rfl rfl ?_
  refine R_aload_n X 0 dL_law_578 rfl rfl ?_
  refine R_iload_n X 3 dL_law_579 rfl rfl ?_
  refine R_iconst (v := (1 : Int32)) X dL_law_580 (by decide) ?_
  refine R_iadd X dL_law_581 ?_
  refine R_sld X hX hbl hbA (hin 1 (by decide)) dL_law_582 ?_
  refine R_aload_n X 0 dL_law_583 rfl rfl ?_
  refine R_iload_n X 3 dL_law_584 rfl rfl ?_
  refine R_iconst (v := (2 : Int32)) X dL_law_585 (by decide) ?_
  refine R_iadd X dL_law_586 ?_
  refine R_sld X hX hbl hbA (hin 2 (by decide)) dL_law_587 ?_
  refine R_aload_n X 0 dL_law_588 rfl rfl ?_
  refine R_iload_n X 3 dL_law_589 rfl rfl ?_
  refine R_iconst (v := (3 : Int32)) X dL_law_590 (by decide) ?_
  refine R_iadd X dL_law_591 ?_
  refine R_sld X hX hbl hbA (hin 3 (by decide)) dL_law_592 ?_
  refine L_c (As := [.int (xs (x3 + (1 : Int32)).toNatClampNeg), .int (xs (x3 + (2 : Int32)).toNatClampNeg), .int (xs (x3 + (3 : Int32)).toNatClampNeg)]) (st := []) X e1 e2 g (c_X4_give G (xs (x3 + (1 : Int32)).toNatClampNeg) (xs (x3 + (2 : Int32)).toNatClampNeg) (xs (x3 + (3 : Int32)).toNatClampNeg) σc) h1 rfl rfl wi_X4_give win_X4_give wse_X4_give wml_RL_62 ⟨(Nat.le_of_ble_eq_true rfl), (Nat.le_of_ble_eq_true rfl)⟩ hfit rfl (Nat.le_of_ble_eq_true rfl) dL_law_593 ?_
  refine R_aload_n X 2 dL_law_596 rfl rfl ?_
  refine R_aload_n X 0 dL_law_597 rfl rfl ?_
  refine R_iload_n X 3 dL_law_598 rfl rfl ?_
  refine R_iconst (v := (1 : Int32)) X dL_law_599 (by decide) ?_
  refine R_iadd X dL_law_600 ?_
  refine R_sld X hX hbl hbA (hin 1 (by decide)) dL_law_601 ?_
  refine R_aload_n X 0 dL_law_602 rfl rfl ?_
  refine R_iload_n X 3 dL_law_603 rfl rfl ?_
  refine R_iconst (v := (2 : Int32)) X dL_law_604 (by decide) ?_
  refine R_iadd X dL_law_605 ?_
  refine R_sld X hX hbl hbA (hin 2 (by decide)) dL_law_606 ?_
  refine R_aload_n X 0 dL_law_607 rfl rfl ?_
  refine R_iload_n X 3 dL_law_608 rfl rfl ?_
  refine R_iconst (v := (3 : Int32)) X dL_law_609 (by decide) ?_
  refine R_iadd X dL_law_610 ?_
  refine R_sld X hX hbl hbA (hin 3 (by decide)) dL_law_611 ?_
  refine L_m (As := [.int (xs (x3 + (1 : Int32)).toNatClampNeg), .int (xs (x3 + (2 : Int32)).toNatClampNeg), .int (xs (x3 + (3 : Int32)).toNatClampNeg)]) (st := [.int a]) X e1 e2 gm (c_X5_give GM (xs (x3 + (1 : Int32)).toNatClampNeg) (xs (x3 + (2 : Int32)).toNatClampNeg) (xs (x3 + (3 : Int32)).toNatClampNeg) σm) h2 rfl rfl wi_X5_give win_X5_give wse_X5_give wml_RL_65 ⟨(Nat.le_of_ble_eq_true rfl), (Nat.le_of_ble_eq_true rfl)⟩ hfit rfl (Nat.le_of_ble_eq_true rfl) dL_law_612 ?_
  refine R_icmp_eqs (tgt := 1524) X dL_law_615 (by decide) ?_
  exact kk c1 m1 h3
set_option maxRecDepth 100000 in
set_option maxHeartbeats 4000000 in
theorem lc_12 {Rel : TX → ST → ST → Prop} (hP : PS_12 Rel) {E : JE} {Q : State → Prop} {G0 G GM : JG} {W0 : ST → va_W} {b L : Nat} {xs : Nat → Int32} {kc ks i0 : Nat} {x3 : Int32} (X : XR E 4 cL_law RL (some .boolean) 2048 84000 600000 7302250 (gI G0)) (e1 : jL E = G0.1) (e2 : jV E = VI G0 W0) (g : LGp G0 G) (gm : LGp G0 GM) (hX : va_X b L xs (jS E) (jS E).heap) (hbl : b < (jS E).heap.size) (hbA : ¬ jA E b) (hx3 : x3 = nI i0) (hi0 : i0 + 7 ≤ L) (hL : L ≤ 3584) (σc σm : ST) (hr : Rel (gT G) σc σm) (hfit : kc ≤ 600000 ∧ ks ≤ 7302250) (kk : ∀ c1 m1 : ST, Rel (gT G) c1 m1 → JR E 4 Q [(0, .ref b), (1, .ref (gO G 0)), (2, .ref (gO GM 50)), (3, .int x3)] 1524 [] (wC G c1 ++ wM GM m1) kc ks) : JR E 4 Q [(0, .ref b), (1, .ref (gO G 0)), (2, .ref (gO GM 50)), (3, .int x3)] 620 [] (wC G σc ++ wM GM σm) kc ks := by
  obtain ⟨a, c1, m1, h1, h2, h3⟩ := hP (gT G) σc σm hr
  refine R_aload_n X 1 dL_law_620 rfl rfl ?_
  refine L_c (As := []) (st := []) X e1 e2 g (c_X4_minute G σc) h1 rfl rfl wi_X4_minute win_X4_minute wse_X4_minute wml_RL_66 ⟨(Nat.le_of_ble_eq_true rfl), (Nat.le_of_ble_eq_true rfl)⟩ hfit rfl (Nat.le_of_ble_eq_true rfl) dL_law_621 ?_
  refine R_aload_n X 2 dL_law_624 rfl rfl ?_
  refine L_m (As := []) (st := [.int a]) X e1 e2 gm (c_X5_minute GM σm) h2 rfl rfl wi_X5_minute win_X5_minute wse_X5_minute wml_RL_69 ⟨(Nat.le_of_ble_eq_true rfl), (Nat.le_of_ble_eq_true rfl)⟩ hfit rfl (Nat.le_of_ble_eq_true rfl) dL_law_625 ?_
  refine R_icmp_eqs (tgt := 1524) X dL_law_628 (by decide) ?_
  exact kk c1 m1 h3
set_option maxRecDepth 100000 in
set_option maxHeartbeats 4000000 in
theorem lc_13 {Rel : TX → ST → ST → Prop} (hP : PS_13 Rel) {E : JE} {Q : State → Prop} {G0 G GM : JG} {W0 : ST → va_W} {b L : Nat} {xs : Nat → Int32} {kc ks i0 : Nat} {x3 : Int32} (X : XR E 4 cL_law RL (some .boolean) 2048 84000 600000 7302250 (gI G0)) (e1 : jL E = G0.1) (e2 : jV E = VI G0 W0) (g : LGp G0 G) (gm : LGp G0 GM) (hX : va_X b L xs (jS E) (jS E).heap) (hbl : b < (jS E).heap.size) (hbA : ¬ jA E b) (hx3 : x3 = nI i0) (hi0 : i0 + 7 ≤ L) (hL : L ≤ 3584) (σc σm : ST) (hr : Rel (gT G) σc σm) (hfit : kc ≤ 600000 ∧ ks ≤ 7302250) (kk : ∀ c1 m1 : ST, Rel (gT G) c1 m1 → JR E 4 Q [(0, .ref b), (1, .ref (gO G 0)), (2, .ref (gO GM 50)), (3, .int x3)] 1524 [] (wC G c1 ++ wM GM m1) kc ks) : JR E 4 Q [(0, .ref b), (1, .ref (gO G 0)), (2, .ref (gO GM 50)), (3, .int x3)] 633 [] (wC G σc ++ wM GM σm) kc ks := by
  have hin : ∀ k : Nat, k < 7 → vp_in (x3 + Int32.ofNat k) L := fun k hk => by
    rw [hx3]
    show vp_in (nI i0 + nI k) L
    rw [nI_add]
    exact vp_in_nI (by omega) (by omega)
  obtain ⟨a, c1, m1, h1, h2, h3⟩ := hP (gT G) σc σm (xs (x3 + (1 : Int32)).toNatClampNeg) hr
  refine R_aload_n X 1 dL_law_633 rfl rfl ?_
  refine R_aload_n X 0 dL_law_634 rfl rfl ?_
  refine R_iload_n X 3 dL_law_635 rfl rfl ?_
  refine R_iconst (v := (1 : Int32)) X dL_law_636 (by decide) ?_
  refine R_iadd X dL_law_637 ?_
  refine R_sld X hX hbl hbA (hin 1 (by decide)) dL_law_638 ?_
  refine L_c (As := [.int (xs (x3 + (1 : Int32)).toNatClampNeg)]) (st := []) X e1 e2 g (c_X4_room G (xs (x3 + (1 : Int32)).toNatClampNeg) σc) h1 rfl rfl wi_X4_room win_X4_room wse_X4_room wml_RL_70 ⟨(Nat.le_of_ble_eq_true rfl), (Nat.le_of_ble_eq_true rfl)⟩ hfit rfl (Nat.le_of_ble_eq_true rfl) dL_law_639 ?_
  refine R_aload_n X 2 dL_law_642 rfl rfl ?_
  refine R_aload_n X 0 dL_law_643 rfl rfl ?_
  refine R_iload_n X 3 dL_law_644 rfl rfl ?_
  refine R_iconst (v := (1 : Int32)) X dL_law_645 (by decide) ?_
  refine R_iadd X dL_law_646 ?_
  refine R_sld X hX hbl hbA (hin 1 (by decide)) dL_law_647 ?_
  refine L_m (As := [.int (xs (x3 + (1 : Int32)).toNatClampNeg)]) (st := [.int a]) X e1 e2 gm (c_X5_room GM (xs (x3 + (1 : Int32)).toNatClampNeg) σm) h2 rfl rfl wi_X5_room win_X5_room wse_X5_room wml_RL_73 ⟨(Nat.le_of_ble_eq_true rfl), (Nat.le_of_ble_eq_true rfl)⟩ hfit rfl (Nat.le_of_ble_eq_true rfl) dL_law_648 ?_
  refine R_icmp_eqs (tgt := 1524) X dL_law_651 (by decide) ?_
  exact kk c1 m1 h3
set_option maxRecDepth 100000 in
set_option maxHeartbeats 4000000 in
theorem lc_14 {Rel : TX → ST → ST → Prop} (hP : PS_14 Rel) {E : JE} {Q : State → Prop} {G0 G GM : JG} {W0 : ST → va_W} {b L : Nat} {xs : Nat → Int32} {kc ks i0 : Nat} {x3 : Int32} (X : XR E 4 cL_law RL (some .boolean) 2048 84000 600000 7302250 (gI G0)) (e1 : jL E = G0.1) (e2 : jV E = VI G0 W0) (g : LGp G0 G) (gm : LGp G0 GM) (hX : va_X b L xs (jS E) (jS E).heap) (hbl : b < (jS E).heap.size) (hbA : ¬ jA E b) (hx3 : x3 = nI i0) (hi0 : i0 + 7 ≤ L) (hL : L ≤ 3584) (σc σm : ST) (hr : Rel (gT G) σc σm) (hfit : kc ≤ 600000 ∧ ks ≤ 7302250) (kk : ∀ c1 m1 : ST, Rel (gT G) c1 m1 → JR E 4 Q [(0, .ref b), (1, .ref (gO G 0)), (2, .ref (gO GM 50)), (3, .int x3)] 1524 [] (wC G c1 ++ wM GM m1) kc ks) : JR E 4 Q [(0, .ref b), (1, .ref (gO G 0)), (2, .ref (gO GM 50)), (3, .int x3)] 656 [] (wC G σc ++ wM GM σm) kc ks := by
  have hin : ∀ k : Nat, k < 7 → vp_in (x3 + Int32.ofNat k) L := fun k hk => by
    rw [hx3]
    show vp_in (nI i0 + nI k) L
    rw [nI_add]
    exact vp_in_nI (by omega) (by omega)
  obtain ⟨a, c1, m1, h1, h2, h3⟩ := hP (gT G) σc σm (xs (x3 + (1 : Int32)).toNatClampNeg) (xs (x3 + (2 : Int32)).toNatClampNeg) hr
  refine R_aload_n X 1 dL_law_656 rfl rfl ?_
  refine R_aload_n X 0 dL_law_657 rfl rfl ?_
  refine R_iload_n X 3 dL_law_658 rfl rfl ?_
  refine R_iconst (v := (1 : Int32)) X dL_law_659 (by decide) ?_
  refine R_iadd X dL_law_660 ?_
  refine R_sld X hX hbl hbA (hin 1 (by decide)) dL_law_661 ?_
  refine R_aload_n X 0 dL_law_662 rfl rfl ?_
  refine R_iload_n X 3 dL_law_663 rfl rfl ?_
  refine R_iconst (v := (2 : Int32)) X dL_law_664 (by decide) ?_
  refine R_iadd X dL_law_665 ?_
  refine R_sld X hX hbl hbA (hin 2 (by decide)) dL_law_666 ?_
  refine L_c (As := [.int (xs (x3 + (1 : Int32)).toNatClampNeg), .int (xs (x3 + (2 : Int32)).toNatClampNeg)]) (st := []) X e1 e2 g (c_X4_evening G (xs (x3 + (1 : Int32)).toNatClampNeg) (xs (x3 + (2 : Int32)).toNatClampNeg) σc) h1 rfl rfl wi_X4_evening win_X4_evening wse_X4_evening wml_RL_74 ⟨(Nat.le_of_ble_eq_true rfl), (Nat.le_of_ble_eq_true rfl)⟩ hfit rfl (Nat.le_of_ble_eq_true rfl) dL_law_667 ?_
  refine R_aload_n X 2 dL_law_670 rfl rfl ?_
  refine R_aload_n X 0 dL_law_671 rfl rfl ?_
  refine R_iload_n X 3 dL_law_672 rfl rfl ?_
  refine R_iconst (v := (1 : Int32)) X dL_law_673 (by decide) ?_
  refine R_iadd X dL_law_674 ?_
  refine R_sld X hX hbl hbA (hin 1 (by decide)) dL_law_675 ?_
  refine R_aload_n X 0 dL_law_676 rfl rfl ?_
  refine R_iload_n X 3 dL_law_677 rfl rfl ?_
  refine R_iconst (v := (2 : Int32)) X dL_law_678 (by decide) ?_
  refine R_iadd X dL_law_679 ?_
  refine R_sld X hX hbl hbA (hin 2 (by decide)) dL_law_680 ?_
  refine L_m (As := [.int (xs (x3 + (1 : Int32)).toNatClampNeg), .int (xs (x3 + (2 : Int32)).toNatClampNeg)]) (st := [.int a]) X e1 e2 gm (c_X5_evening GM (xs (x3 + (1 : Int32)).toNatClampNeg) (xs (x3 + (2 : Int32)).toNatClampNeg) σm) h2 rfl rfl wi_X5_evening win_X5_evening wse_X5_evening wml_RL_77 ⟨(Nat.le_of_ble_eq_true rfl), (Nat.le_of_ble_eq_true rfl)⟩ hfit rfl (Nat.le_of_ble_eq_true rfl) dL_law_681 ?_
  refine R_icmp_eqs (tgt := 1524) X dL_law_684 (by decide) ?_
  exact kk c1 m1 h3
set_option maxRecDepth 100000 in
set_option maxHeartbeats 4000000 in
theorem lc_15 {Rel : TX → ST → ST → Prop} (hP : PS_15 Rel) {E : JE} {Q : State → Prop} {G0 G GM : JG} {W0 : ST → va_W} {b L : Nat} {xs : Nat → Int32} {kc ks i0 : Nat} {x3 : Int32} (X : XR E 4 cL_law RL (some .boolean) 2048 84000 600000 7302250 (gI G0)) (e1 : jL E = G0.1) (e2 : jV E = VI G0 W0) (g : LGp G0 G) (gm : LGp G0 GM) (hX : va_X b L xs (jS E) (jS E).heap) (hbl : b < (jS E).heap.size) (hbA : ¬ jA E b) (hx3 : x3 = nI i0) (hi0 : i0 + 7 ≤ L) (hL : L ≤ 3584) (σc σm : ST) (hr : Rel (gT G) σc σm) (hfit : kc ≤ 600000 ∧ ks ≤ 7302250) (kk : ∀ c1 m1 : ST, Rel (gT G) c1 m1 → JR E 4 Q [(0, .ref b), (1, .ref (gO G 0)), (2, .ref (gO GM 50)), (3, .int x3)] 1524 [] (wC G c1 ++ wM GM m1) kc ks) : JR E 4 Q [(0, .ref b), (1, .ref (gO G 0)), (2, .ref (gO GM 50)), (3, .int x3)] 689 [] (wC G σc ++ wM GM σm) kc ks := by
  have hin : ∀ k : Nat, k < 7 → vp_in (x3 + Int32.ofNat k) L := fun k hk => by
    rw [hx3]
    show vp_in (nI i0 + nI k) L
    rw [nI_add]
    exact vp_in_nI (by omega) (by omega)
  obtain ⟨a, c1, m1, h1, h2, h3⟩ := hP (gT G) σc σm (xs (x3 + (1 : Int32)).toNatClampNeg) hr
  refine R_aload_n X 1 dL_law_689 rfl rfl ?_
  refine R_aload_n X 0 dL_law_690 rfl rfl ?_
  refine R_iload_n X 3 dL_law_691 rfl rfl ?_
  refine R_iconst (v := (1 : Int32)) X dL_law_692 (by decide) ?_
  refine R_iadd X dL_law_693 ?_
  refine R_sld X hX hbl hbA (hin 1 (by decide)) dL_law_694 ?_
  refine L_c (As := [.int (xs (x3 + (1 : Int32)).toNatClampNeg)]) (st := []) X e1 e2 g (c_X4_spend G (xs (x3 + (1 : Int32)).toNatClampNeg) σc) h1 rfl rfl wi_X4_spend win_X4_spend wse_X4_spend wml_RL_78 ⟨(Nat.le_of_ble_eq_true rfl), (Nat.le_of_ble_eq_true rfl)⟩ hfit rfl (Nat.le_of_ble_eq_true rfl) dL_law_695 ?_
  refine R_aload_n X 2 dL_law_698 rfl rfl ?_
  refine R_aload_n X 0 dL_law_699 rfl rfl ?_
  refine R_iload_n X 3 dL_law_700 rfl rfl ?_
  refine R_iconst (v := (1 : Int32)) X dL_law_701 (by decide) ?_
  refine R_iadd X dL_law_702 ?_
  refine R_sld X hX hbl hbA (hin 1 (by decide)) dL_law_703 ?_
  refine L_m (As := [.int (xs (x3 + (1 : Int32)).toNatClampNeg)]) (st := [.int a]) X e1 e2 gm (c_X5_spend GM (xs (x3 + (1 : Int32)).toNatClampNeg) σm) h2 rfl rfl wi_X5_spend win_X5_spend wse_X5_spend wml_RL_81 ⟨(Nat.le_of_ble_eq_true rfl), (Nat.le_of_ble_eq_true rfl)⟩ hfit rfl (Nat.le_of_ble_eq_true rfl) dL_law_704 ?_
  refine R_icmp_eqs (tgt := 1524) X dL_law_707 (by decide) ?_
  exact kk c1 m1 h3
set_option maxRecDepth 100000 in
set_option maxHeartbeats 4000000 in
theorem lc_16 {Rel : TX → ST → ST → Prop} (hP : PS_16 Rel) {E : JE} {Q : State → Prop} {G0 G GM : JG} {W0 : ST → va_W} {b L : Nat} {xs : Nat → Int32} {kc ks i0 : Nat} {x3 : Int32} (X : XR E 4 cL_law RL (some .boolean) 2048 84000 600000 7302250 (gI G0)) (e1 : jL E = G0.1) (e2 : jV E = VI G0 W0) (g : LGp G0 G) (gm : LGp G0 GM) (hX : va_X b L xs (jS E) (jS E).heap) (hbl : b < (jS E).heap.size) (hbA : ¬ jA E b) (hx3 : x3 = nI i0) (hi0 : i0 + 7 ≤ L) (hL : L ≤ 3584) (σc σm : ST) (hr : Rel (gT G) σc σm) (hfit : kc ≤ 600000 ∧ ks ≤ 7302250) (kk : ∀ c1 m1 : ST, Rel (gT G) c1 m1 → JR E 4 Q [(0, .ref b), (1, .ref (gO G 0)), (2, .ref (gO GM 50)), (3, .int x3)] 1524 [] (wC G c1 ++ wM GM m1) kc ks) : JR E 4 Q [(0, .ref b), (1, .ref (gO G 0)), (2, .ref (gO GM 50)), (3, .int x3)] 712 [] (wC G σc ++ wM GM σm) kc ks := by
  have hin : ∀ k : Nat, k < 7 → vp_in (x3 + Int32.ofNat k) L := fun k hk => by
    rw [hx3]
    show vp_in (nI i0 + nI k) L
    rw [nI_add]
    exact vp_in_nI (by omega) (by omega)
  obtain ⟨a, c1, m1, h1, h2, h3⟩ := hP (gT G) σc σm (xs (x3 + (1 : Int32)).toNatClampNeg) (xs (x3 + (2 : Int32)).toNatClampNeg) (xs (x3 + (3 : Int32)).toNatClampNeg) hr
  refine R_aload_n X 1 dL_law_712 rfl rfl ?_
  refine R_aload_n X 0 dL_law_713 rfl rfl ?_
  refine R_iload_n X 3 dL_law_714 rfl rfl ?_
  refine R_iconst (v := (1 : Int32)) X dL_law_715 (by decide) ?_
  refine R_iadd X dL_law_716 ?_
  refine R_sld X hX hbl hbA (hin 1 (by decide)) dL_law_717 ?_
  refine R_aload_n X 0 dL_law_718 rfl rfl ?_
  refine R_iload_n X 3 dL_law_719 rfl rfl ?_
  refine R_iconst (v := (2 : Int32)) X dL_law_720 (by decide) ?_
  refine R_iadd X dL_law_721 ?_
  refine R_sld X hX hbl hbA (hin 2 (by decide)) dL_law_722 ?_
  refine R_aload_n X 0 dL_law_723 rfl rfl ?_
  refine R_iload_n X 3 dL_law_724 rfl rfl ?_
  refine R_iconst (v := (3 : Int32)) X dL_law_725 (by decide) ?_
  refine R_iadd X dL_law_726 ?_
  refine R_sld X hX hbl hbA (hin 3 (by decide)) dL_law_727 ?_
  refine L_c (As := [.int (xs (x3 + (1 : Int32)).toNatClampNeg), .int (xs (x3 + (2 : Int32)).toNatClampNeg), .int (xs (x3 + (3 : Int32)).toNatClampNeg)]) (st := []) X e1 e2 g (c_X4_plan G (xs (x3 + (1 : Int32)).toNatClampNeg) (xs (x3 + (2 : Int32)).toNatClampNeg) (xs (x3 + (3 : Int32)).toNatClampNeg) σc) h1 rfl rfl wi_X4_plan win_X4_plan wse_X4_plan wml_RL_82 ⟨(Nat.le_of_ble_eq_true rfl), (Nat.le_of_ble_eq_true rfl)⟩ hfit rfl (Nat.le_of_ble_eq_true rfl) dL_law_728 ?_
  refine R_aload_n X 2 dL_law_731 rfl rfl ?_
  refine R_aload_n X 0 dL_law_732 rfl rfl ?_
  refine R_iload_n X 3 dL_law_733 rfl rfl ?_
  refine R_iconst (v := (1 : Int32)) X dL_law_734 (by decide) ?_
  refine R_iadd X dL_law_735 ?_
  refine R_sld X hX hbl hbA (hin 1 (by decide)) dL_law_736 ?_
  refine R_aload_n X 0 dL_law_737 rfl rfl ?_
  refine R_iload_n X 3 dL_law_738 rfl rfl ?_
  refine R_iconst (v := (2 : Int32)) X dL_law_739 (by decide) ?_
  refine R_iadd X dL_law_740 ?_
  refine R_sld X hX hbl hbA (hin 2 (by decide)) dL_law_741 ?_
  refine R_aload_n X 0 dL_law_742 rfl rfl ?_
  refine R_iload_n X 3 dL_law_743 rfl rfl ?_
  refine R_iconst (v := (3 : Int32)) X dL_law_744 (by decide) ?_
  refine R_iadd X dL_law_745 ?_
  refine R_sld X hX hbl hbA (hin 3 (by decide)) dL_law_746 ?_
  refine L_m (As := [.int (xs (x3 + (1 : Int32)).toNatClampNeg), .int (xs (x3 + (2 : Int32)).toNatClampNeg), .int (xs (x3 + (3 : Int32)).toNatClampNeg)]) (st := [.int a]) X e1 e2 gm (c_X5_plan GM (xs (x3 + (1 : Int32)).toNatClampNeg) (xs (x3 + (2 : Int32)).toNatClampNeg) (xs (x3 + (3 : Int32)).toNatClampNeg) σm) h2 rfl rfl wi_X5_plan win_X5_plan wse_X5_plan wml_RL_85 ⟨(Nat.le_of_ble_eq_true rfl), (Nat.le_of_ble_eq_true rfl)⟩ hfit rfl (Nat.le_of_ble_eq_true rfl) dL_law_747 ?_
  refine R_icmp_eqs (tgt := 1524) X dL_law_750 (by decide) ?_
  exact kk c1 m1 h3
set_option maxRecDepth 100000 in
set_option maxHeartbeats 4000000 in
theorem lc_17 {Rel : TX → ST → ST → Prop} (hP : PS_17 Rel) {E : JE} {Q : State → Prop} {G0 G GM : JG} {W0 : ST → va_W} {b L : Nat} {xs : Nat → Int32} {kc ks i0 : Nat} {x3 : Int32} (X : XR E 4 cL_law RL (some .boolean) 2048 84000 600000 7302250 (gI G0)) (e1 : jL E = G0.1) (e2 : jV E = VI G0 W0) (g : LGp G0 G) (gm : LGp G0 GM) (hX : va_X b L xs (jS E) (jS E).heap) (hbl : b < (jS E).heap.size) (hbA : ¬ jA E b) (hx3 : x3 = nI i0) (hi0 : i0 + 7 ≤ L) (hL : L ≤ 3584) (σc σm : ST) (hr : Rel (gT G) σc σm) (hfit : kc ≤ 600000 ∧ ks ≤ 7302250) (kk : ∀ c1 m1 : ST, Rel (gT G) c1 m1 → JR E 4 Q [(0, .ref b), (1, .ref (gO G 0)), (2, .ref (gO GM 50)), (3, .int x3)] 1524 [] (wC G c1 ++ wM GM m1) kc ks) : JR E 4 Q [(0, .ref b), (1, .ref (gO G 0)), (2, .ref (gO GM 50)), (3, .int x3)] 755 [] (wC G σc ++ wM GM σm) kc ks := by
  have hin : ∀ k : Nat, k < 7 → vp_in (x3 + Int32.ofNat k) L := fun k hk => by
    rw [hx3]
    show vp_in (nI i0 + nI k) L
    rw [nI_add]
    exact vp_in_nI (by omega) (by omega)
  obtain ⟨a, c1, m1, h1, h2, h3⟩ := hP (gT G) σc σm (xs (x3 + (1 : Int32)).toNatClampNeg) (xs (x3 + (2 : Int32)).toNatClampNeg) hr
  refine R_aload_n X 1 dL_law_755 rfl rfl ?_
  refine R_aload_n X 0 dL_law_756 rfl rfl ?_
  refine R_iload_n X 3 dL_law_757 rfl rfl ?_
  refine R_iconst (v := (1 : Int32)) X dL_law_758 (by decide) ?_
  refine R_iadd X dL_law_759 ?_
  refine R_sld X hX hbl hbA (hin 1 (by decide)) dL_law_760 ?_
  refine R_aload_n X 0 dL_law_761 rfl rfl ?_
  refine R_iload_n X 3 dL_law_762 rfl rfl ?_
  refine R_iconst (v := (2 : Int32)) X dL_law_763 (by decide) ?_
  refine R_iadd X dL_law_764 ?_
  refine R_sld X hX hbl hbA (hin 2 (by decide)) dL_law_765 ?_
  refine L_c (As := [.int (xs (x3 + (1 : Int32)).toNatClampNeg), .int (xs (x3 + (2 : Int32)).toNatClampNeg)]) (st := []) X e1 e2 g (c_X4_which G (xs (x3 + (1 : Int32)).toNatClampNeg) (xs (x3 + (2 : Int32)).toNatClampNeg) σc) h1 rfl rfl wi_X4_which win_X4_which wse_X4_which wml_RL_86 ⟨(Nat.le_of_ble_eq_true rfl), (Nat.le_of_ble_eq_true rfl)⟩ hfit rfl (Nat.le_of_ble_eq_true rfl) dL_law_766 ?_
  refine R_aload_n X 2 dL_law_769 rfl rfl ?_
  refine R_aload_n X 0 dL_law_770 rfl rfl ?_
  refine R_iload_n X 3 dL_law_771 rfl rfl ?_
  refine R_iconst (v := (1 : Int32)) X dL_law_772 (by decide) ?_
  refine R_iadd X dL_law_773 ?_
  refine R_sld X hX hbl hbA (hin 1 (by decide)) dL_law_774 ?_
  refine R_aload_n X 0 dL_law_775 rfl rfl ?_
  refine R_iload_n X 3 dL_law_776 rfl rfl ?_
  refine R_iconst (v := (2 : Int32)) X dL_law_777 (by decide) ?_
  refine R_iadd X dL_law_778 ?_
  refine R_sld X hX hbl hbA (hin 2 (by decide)) dL_law_779 ?_
  refine L_m (As := [.int (xs (x3 + (1 : Int32)).toNatClampNeg), .int (xs (x3 + (2 : Int32)).toNatClampNeg)]) (st := [.int a]) X e1 e2 gm (c_X5_which GM (xs (x3 + (1 : Int32)).toNatClampNeg) (xs (x3 + (2 : Int32)).toNatClampNeg) σm) h2 rfl rfl wi_X5_which win_X5_which wse_X5_which wml_RL_89 ⟨(Nat.le_of_ble_eq_true rfl), (Nat.le_of_ble_eq_true rfl)⟩ hfit rfl (Nat.le_of_ble_eq_true rfl) dL_law_780 ?_
  refine R_icmp_eqs (tgt := 1524) X dL_law_783 (by decide) ?_
  exact kk c1 m1 h3
set_option maxRecDepth 100000 in
set_option maxHeartbeats 4000000 in
theorem lc_18 {Rel : TX → ST → ST → Prop} (hP : PS_18 Rel) {E : JE} {Q : State → Prop} {G0 G GM : JG} {W0 : ST → va_W} {b L : Nat} {xs : Nat → Int32} {kc ks i0 : Nat} {x3 : Int32} (X : XR E 4 cL_law RL (some .boolean) 2048 84000 600000 7302250 (gI G0)) (e1 : jL E = G0.1) (e2 : jV E = VI G0 W0) (g : LGp G0 G) (gm : LGp G0 GM) (hX : va_X b L xs (jS E) (jS E).heap) (hbl : b < (jS E).heap.size) (hbA : ¬ jA E b) (hx3 : x3 = nI i0) (hi0 : i0 + 7 ≤ L) (hL : L ≤ 3584) (σc σm : ST) (hr : Rel (gT G) σc σm) (hfit : kc ≤ 600000 ∧ ks ≤ 7302250) (kk : ∀ c1 m1 : ST, Rel (gT G) c1 m1 → JR E 4 Q [(0, .ref b), (1, .ref (gO G 0)), (2, .ref (gO GM 50)), (3, .int x3)] 1524 [] (wC G c1 ++ wM GM m1) kc ks) : JR E 4 Q [(0, .ref b), (1, .ref (gO G 0)), (2, .ref (gO GM 50)), (3, .int x3)] 788 [] (wC G σc ++ wM GM σm) kc ks := by
  have hin : ∀ k : Nat, k < 7 → vp_in (x3 + Int32.ofNat k) L := fun k hk => by
    rw [hx3]
    show vp_in (nI i0 + nI k) L
    rw [nI_add]
    exact vp_in_nI (by omega) (by omega)
  obtain ⟨a, c1, m1, h1, h2, h3⟩ := hP (gT G) σc σm (xs (x3 + (1 : Int32)).toNatClampNeg) (xs (x3 + (2 : Int32)).toNatClampNeg) hr
  refine R_aload_n X 1 dL_law_788 rfl rfl ?_
  refine R_aload_n X 0 dL_law_789 rfl rfl ?_
  refine R_iload_n X 3 dL_law_790 rfl rfl ?_
  refine R_iconst (v := (1 : Int32)) X dL_law_791 (by decide) ?_
  refine R_iadd X dL_law_792 ?_
  refine R_sld X hX hbl hbA (hin 1 (by decide)) dL_law_793 ?_
  refine R_aload_n X 0 dL_law_794 rfl rfl ?_
  refine R_iload_n X 3 dL_law_795 rfl rfl ?_
  refine R_iconst (v := (2 : Int32)) X dL_law_796 (by decide) ?_
  refine R_iadd X dL_law_797 ?_
  refine R_sld X hX hbl hbA (hin 2 (by decide)) dL_law_798 ?_
  refine L_c (As := [.int (xs (x3 + (1 : Int32)).toNatClampNeg), .int (xs (x3 + (2 : Int32)).toNatClampNeg)]) (st := []) X e1 e2 g (c_X4_tour G (xs (x3 + (1 : Int32)).toNatClampNeg) (xs (x3 + (2 : Int32)).toNatClampNeg) σc) h1 rfl rfl wi_X4_tour win_X4_tour wse_X4_tour wml_RL_90 ⟨(Nat.le_of_ble_eq_true rfl), (Nat.le_of_ble_eq_true rfl)⟩ hfit rfl (Nat.le_of_ble_eq_true rfl) dL_law_799 ?_
  refine R_aload_n X 2 dL_law_802 rfl rfl ?_
  refine R_aload_n X 0 dL_law_803 rfl rfl ?_
  refine R_iload_n X 3 dL_law_804 rfl rfl ?_
  refine R_iconst (v := (1 : Int32)) X dL_law_805 (by decide) ?_
  refine R_iadd X dL_law_806 ?_
  refine R_sld X hX hbl hbA (hin 1 (by decide)) dL_law_807 ?_
  refine R_aload_n X 0 dL_law_808 rfl rfl ?_
  refine R_iload_n X 3 dL_law_809 rfl rfl ?_
  refine R_iconst (v := (2 : Int32)) X dL_law_810 (by decide) ?_
  refine R_iadd X dL_law_811 ?_
  refine R_sld X hX hbl hbA (hin 2 (by decide)) dL_law_812 ?_
  refine L_m (As := [.int (xs (x3 + (1 : Int32)).toNatClampNeg), .int (xs (x3 + (2 : Int32)).toNatClampNeg)]) (st := [.int a]) X e1 e2 gm (c_X5_tour GM (xs (x3 + (1 : Int32)).toNatClampNeg) (xs (x3 + (2 : Int32)).toNatClampNeg) σm) h2 rfl rfl wi_X5_tour win_X5_tour wse_X5_tour wml_RL_93 ⟨(Nat.le_of_ble_eq_true rfl), (Nat.le_of_ble_eq_true rfl)⟩ hfit rfl (Nat.le_of_ble_eq_true rfl) dL_law_813 ?_
  refine R_icmp_eqs (tgt := 1524) X dL_law_816 (by decide) ?_
  exact kk c1 m1 h3
set_option maxRecDepth 100000 in
set_option maxHeartbeats 4000000 in
theorem lc_19 {Rel : TX → ST → ST → Prop} (hP : PS_19 Rel) {E : JE} {Q : State → Prop} {G0 G GM : JG} {W0 : ST → va_W} {b L : Nat} {xs : Nat → Int32} {kc ks i0 : Nat} {x3 : Int32} (X : XR E 4 cL_law RL (some .boolean) 2048 84000 600000 7302250 (gI G0)) (e1 : jL E = G0.1) (e2 : jV E = VI G0 W0) (g : LGp G0 G) (gm : LGp G0 GM) (hX : va_X b L xs (jS E) (jS E).heap) (hbl : b < (jS E).heap.size) (hbA : ¬ jA E b) (hx3 : x3 = nI i0) (hi0 : i0 + 7 ≤ L) (hL : L ≤ 3584) (σc σm : ST) (hr : Rel (gT G) σc σm) (hfit : kc ≤ 600000 ∧ ks ≤ 7302250) (kk : ∀ c1 m1 : ST, Rel (gT G) c1 m1 → JR E 4 Q [(0, .ref b), (1, .ref (gO G 0)), (2, .ref (gO GM 50)), (3, .int x3)] 1524 [] (wC G c1 ++ wM GM m1) kc ks) : JR E 4 Q [(0, .ref b), (1, .ref (gO G 0)), (2, .ref (gO GM 50)), (3, .int x3)] 821 [] (wC G σc ++ wM GM σm) kc ks := by
  have hin : ∀ k : Nat, k < 7 → vp_in (x3 + Int32.ofNat k) L := fun k hk => by
    rw [hx3]
    show vp_in (nI i0 + nI k) L
    rw [nI_add]
    exact vp_in_nI (by omega) (by omega)
  obtain ⟨a, c1, m1, h1, h2, h3⟩ := hP (gT G) σc σm (xs (x3 + (1 : Int32)).toNatClampNeg) (xs (x3 + (2 : Int32)).toNatClampNeg) hr
  refine R_aload_n X 1 dL_law_821 rfl rfl ?_
  refine R_aload_n X 0 dL_law_822 rfl rfl ?_
  refine R_iload_n X 3 dL_law_823 rfl rfl ?_
  refine R_iconst (v := (1 : Int32)) X dL_law_824 (by decide) ?_
  refine R_iadd X dL_law_825 ?_
  refine R_sld X hX hbl hbA (hin 1 (by decide)) dL_law_826 ?_
  refine R_aload_n X 0 dL_law_827 rfl rfl ?_
  refine R_iload_n X 3 dL_law_828 rfl rfl ?_
  refine R_iconst (v := (2 : Int32)) X dL_law_829 (by decide) ?_
  refine R_iadd X dL_law_830 ?_
  refine R_sld X hX hbl hbA (hin 2 (by decide)) dL_law_831 ?_
  refine L_c (As := [.int (xs (x3 + (1 : Int32)).toNatClampNeg), .int (xs (x3 + (2 : Int32)).toNatClampNeg)]) (st := []) X e1 e2 g (c_X4_share G (xs (x3 + (1 : Int32)).toNatClampNeg) (xs (x3 + (2 : Int32)).toNatClampNeg) σc) h1 rfl rfl wi_X4_share win_X4_share wse_X4_share wml_RL_94 ⟨(Nat.le_of_ble_eq_true rfl), (Nat.le_of_ble_eq_true rfl)⟩ hfit rfl (Nat.le_of_ble_eq_true rfl) dL_law_832 ?_
  refine R_aload_n X 2 dL_law_835 rfl rfl ?_
  refine R_aload_n X 0 dL_law_836 rfl rfl ?_
  refine R_iload_n X 3 dL_law_837 rfl rfl ?_
  refine R_iconst (v := (1 : Int32)) X dL_law_838 (by decide) ?_
  refine R_iadd X dL_law_839 ?_
  refine R_sld X hX hbl hbA (hin 1 (by decide)) dL_law_840 ?_
  refine R_aload_n X 0 dL_law_841 rfl rfl ?_
  refine R_iload_n X 3 dL_law_842 rfl rfl ?_
  refine R_iconst (v := (2 : Int32)) X dL_law_843 (by decide) ?_
  refine R_iadd X dL_law_844 ?_
  refine R_sld X hX hbl hbA (hin 2 (by decide)) dL_law_845 ?_
  refine L_m (As := [.int (xs (x3 + (1 : Int32)).toNatClampNeg), .int (xs (x3 + (2 : Int32)).toNatClampNeg)]) (st := [.int a]) X e1 e2 gm (c_X5_share GM (xs (x3 + (1 : Int32)).toNatClampNeg) (xs (x3 + (2 : Int32)).toNatClampNeg) σm) h2 rfl rfl wi_X5_share win_X5_share wse_X5_share wml_RL_97 ⟨(Nat.le_of_ble_eq_true rfl), (Nat.le_of_ble_eq_true rfl)⟩ hfit rfl (Nat.le_of_ble_eq_true rfl) dL_law_846 ?_
  refine R_icmp_eqs (tgt := 1524) X dL_law_849 (by decide) ?_
  exact kk c1 m1 h3
set_option maxRecDepth 100000 in
set_option maxHeartbeats 4000000 in
theorem lc_20 {Rel : TX → ST → ST → Prop} (hP : PS_20 Rel) {E : JE} {Q : State → Prop} {G0 G GM : JG} {W0 : ST → va_W} {b L : Nat} {xs : Nat → Int32} {kc ks i0 : Nat} {x3 : Int32} (X : XR E 4 cL_law RL (some .boolean) 2048 84000 600000 7302250 (gI G0)) (e1 : jL E = G0.1) (e2 : jV E = VI G0 W0) (g : LGp G0 G) (gm : LGp G0 GM) (hX : va_X b L xs (jS E) (jS E).heap) (hbl : b < (jS E).heap.size) (hbA : ¬ jA E b) (hx3 : x3 = nI i0) (hi0 : i0 + 7 ≤ L) (hL : L ≤ 3584) (σc σm : ST) (hr : Rel (gT G) σc σm) (hfit : kc ≤ 600000 ∧ ks ≤ 7302250) (kk : ∀ c1 m1 : ST, Rel (gT G) c1 m1 → JR E 4 Q [(0, .ref b), (1, .ref (gO G 0)), (2, .ref (gO GM 50)), (3, .int x3)] 1524 [] (wC G c1 ++ wM GM m1) kc ks) : JR E 4 Q [(0, .ref b), (1, .ref (gO G 0)), (2, .ref (gO GM 50)), (3, .int x3)] 854 [] (wC G σc ++ wM GM σm) kc ks := by
  have hin : ∀ k : Nat, k < 7 → vp_in (x3 + Int32.ofNat k) L := fun k hk => by
    rw [hx3]
    show vp_in (nI i0 + nI k) L
    rw [nI_add]
    exact vp_in_nI (by omega) (by omega)
  obtain ⟨a, c1, m1, h1, h2, h3⟩ := hP (gT G) σc σm (xs (x3 + (1 : Int32)).toNatClampNeg) (xs (x3 + (2 : Int32)).toNatClampNeg) hr
  refine R_aload_n X 1 dL_law_854 rfl rfl ?_
  refine R_aload_n X 0 dL_law_855 rfl rfl ?_
  refine R_iload_n X 3 dL_law_856 rfl rfl ?_
  refine R_iconst (v := (1 : Int32)) X dL_law_857 (by decide) ?_
  refine R_iadd X dL_law_858 ?_
  refine R_sld X hX hbl hbA (hin 1 (by decide)) dL_law_859 ?_
  refine R_aload_n X 0 dL_law_860 rfl rfl ?_
  refine R_iload_n X 3 dL_law_861 rfl rfl ?_
  refine R_iconst (v := (2 : Int32)) X dL_law_862 (by decide) ?_
  refine R_iadd X dL_law_863 ?_
  refine R_sld X hX hbl hbA (hin 2 (by decide)) dL_law_864 ?_
  refine L_c (As := [.int (xs (x3 + (1 : Int32)).toNatClampNeg), .int (xs (x3 + (2 : Int32)).toNatClampNeg)]) (st := []) X e1 e2 g (c_X4_box G (xs (x3 + (1 : Int32)).toNatClampNeg) (xs (x3 + (2 : Int32)).toNatClampNeg) σc) h1 rfl rfl wi_X4_box win_X4_box wse_X4_box wml_RL_98 ⟨(Nat.le_of_ble_eq_true rfl), (Nat.le_of_ble_eq_true rfl)⟩ hfit rfl (Nat.le_of_ble_eq_true rfl) dL_law_865 ?_
  refine R_aload_n X 2 dL_law_868 rfl rfl ?_
  refine R_aload_n X 0 dL_law_869 rfl rfl ?_
  refine R_iload_n X 3 dL_law_870 rfl rfl ?_
  refine R_iconst (v := (1 : Int32)) X dL_law_871 (by decide) ?_
  refine R_iadd X dL_law_872 ?_
  refine R_sld X hX hbl hbA (hin 1 (by decide)) dL_law_873 ?_
  refine R_aload_n X 0 dL_law_874 rfl rfl ?_
  refine R_iload_n X 3 dL_law_875 rfl rfl ?_
  refine R_iconst (v := (2 : Int32)) X dL_law_876 (by decide) ?_
  refine R_iadd X dL_law_877 ?_
  refine R_sld X hX hbl hbA (hin 2 (by decide)) dL_law_878 ?_
  refine L_m (As := [.int (xs (x3 + (1 : Int32)).toNatClampNeg), .int (xs (x3 + (2 : Int32)).toNatClampNeg)]) (st := [.long a]) X e1 e2 gm (c_X5_box GM (xs (x3 + (1 : Int32)).toNatClampNeg) (xs (x3 + (2 : Int32)).toNatClampNeg) σm) h2 rfl rfl wi_X5_box win_X5_box wse_X5_box wml_RL_102 ⟨(Nat.le_of_ble_eq_true rfl), (Nat.le_of_ble_eq_true rfl)⟩ hfit rfl (Nat.le_of_ble_eq_true rfl) dL_law_879 ?_
  refine R_lcmps (tgt := 1524) X dL_law_882 dL_law_883 (by decide) ?_
  exact kk c1 m1 h3
set_option maxRecDepth 100000 in
set_option maxHeartbeats 4000000 in
theorem lc_21 {Rel : TX → ST → ST → Prop} (hP : PS_21 Rel) {E : JE} {Q : State → Prop} {G0 G GM : JG} {W0 : ST → va_W} {b L : Nat} {xs : Nat → Int32} {kc ks i0 : Nat} {x3 : Int32} (X : XR E 4 cL_law RL (some .boolean) 2048 84000 600000 7302250 (gI G0)) (e1 : jL E = G0.1) (e2 : jV E = VI G0 W0) (g : LGp G0 G) (gm : LGp G0 GM) (hX : va_X b L xs (jS E) (jS E).heap) (hbl : b < (jS E).heap.size) (hbA : ¬ jA E b) (hx3 : x3 = nI i0) (hi0 : i0 + 7 ≤ L) (hL : L ≤ 3584) (σc σm : ST) (hr : Rel (gT G) σc σm) (hfit : kc ≤ 600000 ∧ ks ≤ 7302250) (kk : ∀ c1 m1 : ST, Rel (gT G) c1 m1 → JR E 4 Q [(0, .ref b), (1, .ref (gO G 0)), (2, .ref (gO GM 50)), (3, .int x3)] 1524 [] (wC G c1 ++ wM GM m1) kc ks) : JR E 4 Q [(0, .ref b), (1, .ref (gO G 0)), (2, .ref (gO GM 50)), (3, .int x3)] 888 [] (wC G σc ++ wM GM σm) kc ks := by
  have hin : ∀ k : Nat, k < 7 → vp_in (x3 + Int32.ofNat k) L := fun k hk => by
    rw [hx3]
    show vp_in (nI i0 + nI k) L
    rw [nI_add]
    exact vp_in_nI (by omega) (by omega)
  obtain ⟨a, c1, m1, h1, h2, h3⟩ := hP (gT G) σc σm (xs (x3 + (1 : Int32)).toNatClampNeg) (xs (x3 + (2 : Int32)).toNatClampNeg) (xs (x3 + (3 : Int32)).toNatClampNeg) hr
  refine R_aload_n X 1 dL_law_888 rfl rfl ?_
  refine R_aload_n X 0 dL_law_889 rfl rfl ?_
  refine R_iload_n X 3 dL_law_890 rfl rfl ?_
  refine R_iconst (v := (1 : Int32)) X dL_law_891 (by decide) ?_
  refine R_iadd X dL_law_892 ?_
  refine R_sld X hX hbl hbA (hin 1 (by decide)) dL_law_893 ?_
  refine R_aload_n X 0 dL_law_894 rfl rfl ?_
  refine R_iload_n X 3 dL_law_895 rfl rfl ?_
  refine R_iconst (v := (2 : Int32)) X dL_law_896 (by decide) ?_
  refine R_iadd X dL_law_897 ?_
  refine R_sld X hX hbl hbA (hin 2 (by decide)) dL_law_898 ?_
  refine R_aload_n X 0 dL_law_899 rfl rfl ?_
  refine R_iload_n X 3 dL_law_900 rfl rfl ?_
  refine R_iconst (v := (3 : Int32)) X dL_law_901 (by decide) ?_
  refine R_iadd X dL_law_902 ?_
  refine R_sld X hX hbl hbA (hin 3 (by decide)) dL_law_903 ?_
  refine L_c (As := [.int (xs (x3 + (1 : Int32)).toNatClampNeg), .int (xs (x3 + (2 : Int32)).toNatClampNeg), .int (xs (x3 + (3 : Int32)).toNatClampNeg)]) (st := []) X e1 e2 g (c_X4_judge G (xs (x3 + (1 : Int32)).toNatClampNeg) (xs (x3 + (2 : Int32)).toNatClampNeg) (xs (x3 + (3 : Int32)).toNatClampNeg) σc) h1 rfl rfl wi_X4_judge win_X4_judge wse_X4_judge wml_RL_103 ⟨(Nat.le_of_ble_eq_true rfl), (Nat.le_of_ble_eq_true rfl)⟩ hfit rfl (Nat.le_of_ble_eq_true rfl) dL_law_904 ?_
  refine R_aload_n X 2 dL_law_907 rfl rfl ?_
  refine R_aload_n X 0 dL_law_908 rfl rfl ?_
  refine R_iload_n X 3 dL_law_909 rfl rfl ?_
  refine R_iconst (v := (1 : Int32)) X dL_law_910 (by decide) ?_
  refine R_iadd X dL_law_911 ?_
  refine R_sld X hX hbl hbA (hin 1 (by decide)) dL_law_912 ?_
  refine R_aload_n X 0 dL_law_913 rfl rfl ?_
  refine R_iload_n X 3 dL_law_914 rfl rfl ?_
  refine R_iconst (v := (2 : Int32)) X dL_law_915 (by decide) ?_
  refine R_iadd X dL_law_916 ?_
  refine R_sld X hX hbl hbA (hin 2 (by decide)) dL_law_917 ?_
  refine R_aload_n X 0 dL_law_918 rfl rfl ?_
  refine R_iload_n X 3 dL_law_919 rfl rfl ?_
  refine R_iconst (v := (3 : Int32)) X dL_law_920 (by decide) ?_
  refine R_iadd X dL_law_921 ?_
  refine R_sld X hX hbl hbA (hin 3 (by decide)) dL_law_922 ?_
  refine L_m (As := [.int (xs (x3 + (1 : Int32)).toNatClampNeg), .int (xs (x3 + (2 : Int32)).toNatClampNeg), .int (xs (x3 + (3 : Int32)).toNatClampNeg)]) (st := [.int a]) X e1 e2 gm (c_X5_judge GM (xs (x3 + (1 : Int32)).toNatClampNeg) (xs (x3 + (2 : Int32)).toNatClampNeg) (xs (x3 + (3 : Int32)).toNatClampNeg) σm) h2 rfl rfl wi_X5_judge win_X5_judge wse_X5_judge wml_RL_106 ⟨(Nat.le_of_ble_eq_true rfl), (Nat.le_of_ble_eq_true rfl)⟩ hfit rfl (Nat.le_of_ble_eq_true rfl) dL_law_923 ?_
  refine R_icmp_eqs (tgt := 1524) X dL_law_926 (by decide) ?_
  exact kk c1 m1 h3
set_option maxRecDepth 100000 in
set_option maxHeartbeats 4000000 in
theorem lc_22 {Rel : TX → ST → ST → Prop} (hP : PS_22 Rel) {E : JE} {Q : State → Prop} {G0 G GM : JG} {W0 : ST → va_W} {b L : Nat} {xs : Nat → Int32} {kc ks i0 : Nat} {x3 : Int32} (X : XR E 4 cL_law RL (some .boolean) 2048 84000 600000 7302250 (gI G0)) (e1 : jL E = G0.1) (e2 : jV E = VI G0 W0) (g : LGp G0 G) (gm : LGp G0 GM) (hX : va_X b L xs (jS E) (jS E).heap) (hbl : b < (jS E).heap.size) (hbA : ¬ jA E b) (hx3 : x3 = nI i0) (hi0 : i0 + 7 ≤ L) (hL : L ≤ 3584) (σc σm : ST) (hr : Rel (gT G) σc σm) (hfit : kc ≤ 600000 ∧ ks ≤ 7302250) (kk : ∀ c1 m1 : ST, Rel (gT G) c1 m1 → JR E 4 Q [(0, .ref b), (1, .ref (gO G 0)), (2, .ref (gO GM 50)), (3, .int x3)] 1524 [] (wC G c1 ++ wM GM m1) kc ks) : JR E 4 Q [(0, .ref b), (1, .ref (gO G 0)), (2, .ref (gO GM 50)), (3, .int x3)] 931 [] (wC G σc ++ wM GM σm) kc ks := by
  have hin : ∀ k : Nat, k < 7 → vp_in (x3 + Int32.ofNat k) L := fun k hk => by
    rw [hx3]
    show vp_in (nI i0 + nI k) L
    rw [nI_add]
    exact vp_in_nI (by omega) (by omega)
  obtain ⟨a, c1, m1, h1, h2, h3⟩ := hP (gT G) σc σm (xs (x3 + (1 : Int32)).toNatClampNeg) (xs (x3 + (2 : Int32)).toNatClampNeg) (xs (x3 + (3 : Int32)).toNatClampNeg) (xs (x3 + (4 : Int32)).toNatClampNeg) hr
  refine R_aload_n X 1 dL_law_931 rfl rfl ?_
  refine R_aload_n X 0 dL_law_932 rfl rfl ?_
  refine R_iload_n X 3 dL_law_933 rfl rfl ?_
  refine R_iconst (v := (1 : Int32)) X dL_law_934 (by decide) ?_
  refine R_iadd X dL_law_935 ?_
  refine R_sld X hX hbl hbA (hin 1 (by decide)) dL_law_936 ?_
  refine R_aload_n X 0 dL_law_937 rfl rfl ?_
  refine R_iload_n X 3 dL_law_938 rfl rfl ?_
  refine R_iconst (v := (2 : Int32)) X dL_law_939 (by decide) ?_
  refine R_iadd X dL_law_940 ?_
  refine R_sld X hX hbl hbA (hin 2 (by decide)) dL_law_941 ?_
  refine R_aload_n X 0 dL_law_942 rfl rfl ?_
  refine R_iload_n X 3 dL_law_943 rfl rfl ?_
  refine R_iconst (v := (3 : Int32)) X dL_law_944 (by decide) ?_
  refine R_iadd X dL_law_945 ?_
  refine R_sld X hX hbl hbA (hin 3 (by decide)) dL_law_946 ?_
  refine R_aload_n X 0 dL_law_947 rfl rfl ?_
  refine R_iload_n X 3 dL_law_948 rfl rfl ?_
  refine R_iconst (v := (4 : Int32)) X dL_law_949 (by decide) ?_
  refine R_iadd X dL_law_950 ?_
  refine R_sld X hX hbl hbA (hin 4 (by decide)) dL_law_951 ?_
  refine L_c (As := [.int (xs (x3 + (1 : Int32)).toNatClampNeg), .int (xs (x3 + (2 : Int32)).toNatClampNeg), .int (xs (x3 + (3 : Int32)).toNatClampNeg), .int (xs (x3 + (4 : Int32)).toNatClampNeg)]) (st := []) X e1 e2 g (c_X4_kinds G (xs (x3 + (1 : Int32)).toNatClampNeg) (xs (x3 + (2 : Int32)).toNatClampNeg) (xs (x3 + (3 : Int32)).toNatClampNeg) (xs (x3 + (4 : Int32)).toNatClampNeg) σc) h1 rfl rfl wi_X4_kinds win_X4_kinds wse_X4_kinds wml_RL_107 ⟨(Nat.le_of_ble_eq_true rfl), (Nat.le_of_ble_eq_true rfl)⟩ hfit rfl (Nat.le_of_ble_eq_true rfl) dL_law_952 ?_
  refine R_aload_n X 2 dL_law_955 rfl rfl ?_
  refine R_aload_n X 0 dL_law_956 rfl rfl ?_
  refine R_iload_n X 3 dL_law_957 rfl rfl ?_
  refine R_iconst (v := (1 : Int32)) X dL_law_958 (by decide) ?_
  refine R_iadd X dL_law_959 ?_
  refine R_sld X hX hbl hbA (hin 1 (by decide)) dL_law_960 ?_
  refine R_aload_n X 0 dL_law_961 rfl rfl ?_
  refine R_iload_n X 3 dL_law_962 rfl rfl ?_
  refine R_iconst (v := (2 : Int32)) X dL_law_963 (by decide) ?_
  refine R_iadd X dL_law_964 ?_
  refine R_sld X hX hbl hbA (hin 2 (by decide)) dL_law_965 ?_
  refine R_aload_n X 0 dL_law_966 rfl rfl ?_
  refine R_iload_n X 3 dL_law_967 rfl rfl ?_
  refine R_iconst (v := (3 : Int32)) X dL_law_968 (by decide) ?_
  refine R_iadd X dL_law_969 ?_
  refine R_sld X hX hbl hbA (hin 3 (by decide)) dL_law_970 ?_
  refine R_aload_n X 0 dL_law_971 rfl rfl ?_
  refine R_iload_n X 3 dL_law_972 rfl rfl ?_
  refine R_iconst (v := (4 : Int32)) X dL_law_973 (by decide) ?_
  refine R_iadd X dL_law_974 ?_
  refine R_sld X hX hbl hbA (hin 4 (by decide)) dL_law_975 ?_
  refine L_m (As := [.int (xs (x3 + (1 : Int32)).toNatClampNeg), .int (xs (x3 + (2 : Int32)).toNatClampNeg), .int (xs (x3 + (3 : Int32)).toNatClampNeg), .int (xs (x3 + (4 : Int32)).toNatClampNeg)]) (st := [.int a]) X e1 e2 gm (c_X5_kinds GM (xs (x3 + (1 : Int32)).toNatClampNeg) (xs (x3 + (2 : Int32)).toNatClampNeg) (xs (x3 + (3 : Int32)).toNatClampNeg) (xs (x3 + (4 : Int32)).toNatClampNeg) σm) h2 rfl rfl wi_X5_kinds win_X5_kinds wse_X5_kinds wml_RL_111 ⟨(Nat.le_of_ble_eq_true rfl), (Nat.le_of_ble_eq_true rfl)⟩ hfit rfl (Nat.le_of_ble_eq_true rfl) dL_law_976 ?_
  refine R_icmp_eqs (tgt := 1524) X dL_law_979 (by decide) ?_
  exact kk c1 m1 h3
set_option maxRecDepth 100000 in
set_option maxHeartbeats 4000000 in
theorem lc_23 {Rel : TX → ST → ST → Prop} (hP : PS_23 Rel) {E : JE} {Q : State → Prop} {G0 G GM : JG} {W0 : ST → va_W} {b L : Nat} {xs : Nat → Int32} {kc ks i0 : Nat} {x3 : Int32} (X : XR E 4 cL_law RL (some .boolean) 2048 84000 600000 7302250 (gI G0)) (e1 : jL E = G0.1) (e2 : jV E = VI G0 W0) (g : LGp G0 G) (gm : LGp G0 GM) (hX : va_X b L xs (jS E) (jS E).heap) (hbl : b < (jS E).heap.size) (hbA : ¬ jA E b) (hx3 : x3 = nI i0) (hi0 : i0 + 7 ≤ L) (hL : L ≤ 3584) (σc σm : ST) (hr : Rel (gT G) σc σm) (hfit : kc ≤ 600000 ∧ ks ≤ 7302250) (kk : ∀ c1 m1 : ST, Rel (gT G) c1 m1 → JR E 4 Q [(0, .ref b), (1, .ref (gO G 0)), (2, .ref (gO GM 50)), (3, .int x3)] 1524 [] (wC G c1 ++ wM GM m1) kc ks) : JR E 4 Q [(0, .ref b), (1, .ref (gO G 0)), (2, .ref (gO GM 50)), (3, .int x3)] 984 [] (wC G σc ++ wM GM σm) kc ks := by
  have hin : ∀ k : Nat, k < 7 → vp_in (x3 + Int32.ofNat k) L := fun k hk => by
    rw [hx3]
    show vp_in (nI i0 + nI k) L
    rw [nI_add]
    exact vp_in_nI (by omega) (by omega)
  obtain ⟨a, c1, m1, h1, h2, h3⟩ := hP (gT G) σc σm (xs (x3 + (1 : Int32)).toNatClampNeg) (xs (x3 + (2 : Int32)).toNatClampNeg) (xs (x3 + (3 : Int32)).toNatClampNeg) (xs (x3 + (4 : Int32)).toNatClampNeg) (xs (x3 + (5 : Int32)).toNatClampNeg) hr
  refine R_aload_n X 1 dL_law_984 rfl rfl ?_
  refine R_aload_n X 0 dL_law_985 rfl rfl ?_
  refine R_iload_n X 3 dL_law_986 rfl rfl ?_
  refine R_iconst (v := (1 : Int32)) X dL_law_987 (by decide) ?_
  refine R_iadd X dL_law_988 ?_
  refine R_sld X hX hbl hbA (hin 1 (by decide)) dL_law_989 ?_
  refine R_aload_n X 0 dL_law_990 rfl rfl ?_
  refine R_iload_n X 3 dL_law_991 rfl rfl ?_
  refine R_iconst (v := (2 : Int32)) X dL_law_992 (by decide) ?_
  refine R_iadd X dL_law_993 ?_
  refine R_sld X hX hbl hbA (hin 2 (by decide)) dL_law_994 ?_
  refine R_aload_n X 0 dL_law_995 rfl rfl ?_
  refine R_iload_n X 3 dL_law_996 rfl rfl ?_
  refine R_iconst (v := (3 : Int32)) X dL_law_997 (by decide) ?_
  refine R_iadd X dL_law_998 ?_
  refine R_sld X hX hbl hbA (hin 3 (by decide)) dL_law_999 ?_
  refine R_aload_n X 0 dL_law_1000 rfl rfl ?_
  refine R_iload_n X 3 dL_law_1001 rfl rfl ?_
  refine R_iconst (v := (4 : Int32)) X dL_law_1002 (by decide) ?_
  refine R_iadd X dL_law_1003 ?_
  refine R_sld X hX hbl hbA (hin 4 (by decide)) dL_law_1004 ?_
  refine R_aload_n X 0 dL_law_1005 rfl rfl ?_
  refine R_iload_n X 3 dL_law_1006 rfl rfl ?_
  refine R_iconst (v := (5 : Int32)) X dL_law_1007 (by decide) ?_
  refine R_iadd X dL_law_1008 ?_
  refine R_sld X hX hbl hbA (hin 5 (by decide)) dL_law_1009 ?_
  refine L_c (As := [.int (xs (x3 + (1 : Int32)).toNatClampNeg), .int (xs (x3 + (2 : Int32)).toNatClampNeg), .int (xs (x3 + (3 : Int32)).toNatClampNeg), .int (xs (x3 + (4 : Int32)).toNatClampNeg), .int (xs (x3 + (5 : Int32)).toNatClampNeg)]) (st := []) X e1 e2 g (c_X4_states G (xs (x3 + (1 : Int32)).toNatClampNeg) (xs (x3 + (2 : Int32)).toNatClampNeg) (xs (x3 + (3 : Int32)).toNatClampNeg) (xs (x3 + (4 : Int32)).toNatClampNeg) (xs (x3 + (5 : Int32)).toNatClampNeg) σc) h1 rfl rfl wi_X4_states win_X4_states wse_X4_states wml_RL_112 ⟨(Nat.le_of_ble_eq_true rfl), (Nat.le_of_ble_eq_true rfl)⟩ hfit rfl (Nat.le_of_ble_eq_true rfl) dL_law_1010 ?_
  refine R_aload_n X 2 dL_law_1013 rfl rfl ?_
  refine R_aload_n X 0 dL_law_1014 rfl rfl ?_
  refine R_iload_n X 3 dL_law_1015 rfl rfl ?_
  refine R_iconst (v := (1 : Int32)) X dL_law_1016 (by decide) ?_
  refine R_iadd X dL_law_1017 ?_
  refine R_sld X hX hbl hbA (hin 1 (by decide)) dL_law_1018 ?_
  refine R_aload_n X 0 dL_law_1019 rfl rfl ?_
  refine R_iload_n X 3 dL_law_1020 rfl rfl ?_
  refine R_iconst (v := (2 : Int32)) X dL_law_1021 (by decide) ?_
  refine R_iadd X dL_law_1022 ?_
  refine R_sld X hX hbl hbA (hin 2 (by decide)) dL_law_1023 ?_
  refine R_aload_n X 0 dL_law_1024 rfl rfl ?_
  refine R_iload_n X 3 dL_law_1025 rfl rfl ?_
  refine R_iconst (v := (3 : Int32)) X dL_law_1026 (by decide) ?_
  refine R_iadd X dL_law_1027 ?_
  refine R_sld X hX hbl hbA (hin 3 (by decide)) dL_law_1028 ?_
  refine R_aload_n X 0 dL_law_1029 rfl rfl ?_
  refine R_iload_n X 3 dL_law_1030 rfl rfl ?_
  refine R_iconst (v := (4 : Int32)) X dL_law_1031 (by decide) ?_
  refine R_iadd X dL_law_1032 ?_
  refine R_sld X hX hbl hbA (hin 4 (by decide)) dL_law_1033 ?_
  refine R_aload_n X 0 dL_law_1034 rfl rfl ?_
  refine R_iload_n X 3 dL_law_1035 rfl rfl ?_
  refine R_iconst (v := (5 : Int32)) X dL_law_1036 (by decide) ?_
  refine R_iadd X dL_law_1037 ?_
  refine R_sld X hX hbl hbA (hin 5 (by decide)) dL_law_1038 ?_
  refine L_m (As := [.int (xs (x3 + (1 : Int32)).toNatClampNeg), .int (xs (x3 + (2 : Int32)).toNatClampNeg), .int (xs (x3 + (3 : Int32)).toNatClampNeg), .int (xs (x3 + (4 : Int32)).toNatClampNeg), .int (xs (x3 + (5 : Int32)).toNatClampNeg)]) (st := [.int a]) X e1 e2 gm (c_X5_states GM (xs (x3 + (1 : Int32)).toNatClampNeg) (xs (x3 + (2 : Int32)).toNatClampNeg) (xs (x3 + (3 : Int32)).toNatClampNeg) (xs (x3 + (4 : Int32)).toNatClampNeg) (xs (x3 + (5 : Int32)).toNatClampNeg) σm) h2 rfl rfl wi_X5_states win_X5_states wse_X5_states wml_RL_116 ⟨(Nat.le_of_ble_eq_true rfl), (Nat.le_of_ble_eq_true rfl)⟩ hfit rfl (Nat.le_of_ble_eq_true rfl) dL_law_1039 ?_
  refine R_icmp_eqs (tgt := 1524) X dL_law_1042 (by decide) ?_
  exact kk c1 m1 h3
set_option maxRecDepth 100000 in
set_option maxHeartbeats 4000000 in
theorem lc_24 {Rel : TX → ST → ST → Prop} (hP : PS_24 Rel) {E : JE} {Q : State → Prop} {G0 G GM : JG} {W0 : ST → va_W} {b L : Nat} {xs : Nat → Int32} {kc ks i0 : Nat} {x3 : Int32} (X : XR E 4 cL_law RL (some .boolean) 2048 84000 600000 7302250 (gI G0)) (e1 : jL E = G0.1) (e2 : jV E = VI G0 W0) (g : LGp G0 G) (gm : LGp G0 GM) (hX : va_X b L xs (jS E) (jS E).heap) (hbl : b < (jS E).heap.size) (hbA : ¬ jA E b) (hx3 : x3 = nI i0) (hi0 : i0 + 7 ≤ L) (hL : L ≤ 3584) (σc σm : ST) (hr : Rel (gT G) σc σm) (hfit : kc ≤ 600000 ∧ ks ≤ 7302250) (kk : ∀ c1 m1 : ST, Rel (gT G) c1 m1 → JR E 4 Q [(0, .ref b), (1, .ref (gO G 0)), (2, .ref (gO GM 50)), (3, .int x3)] 1524 [] (wC G c1 ++ wM GM m1) kc ks) : JR E 4 Q [(0, .ref b), (1, .ref (gO G 0)), (2, .ref (gO GM 50)), (3, .int x3)] 1047 [] (wC G σc ++ wM GM σm) kc ks := by
  have hin : ∀ k : Nat, k < 7 → vp_in (x3 + Int32.ofNat k) L := fun k hk => by
    rw [hx3]
    show vp_in (nI i0 + nI k) L
    rw [nI_add]
    exact vp_in_nI (by omega) (by omega)
  obtain ⟨a, c1, m1, h1, h2, h3⟩ := hP (gT G) σc σm (xs (x3 + (1 : Int32)).toNatClampNeg) (xs (x3 + (2 : Int32)).toNatClampNeg) hr
  refine R_aload_n X 1 dL_law_1047 rfl rfl ?_
  refine R_aload_n X 0 dL_law_1048 rfl rfl ?_
  refine R_iload_n X 3 dL_law_1049 rfl rfl ?_
  refine R_iconst (v := (1 : Int32)) X dL_law_1050 (by decide) ?_
  refine R_iadd X dL_law_1051 ?_
  refine R_sld X hX hbl hbA (hin 1 (by decide)) dL_law_1052 ?_
  refine R_aload_n X 0 dL_law_1053 rfl rfl ?_
  refine R_iload_n X 3 dL_law_1054 rfl rfl ?_
  refine R_iconst (v := (2 : Int32)) X dL_law_1055 (by decide) ?_
  refine R_iadd X dL_law_1056 ?_
  refine R_sld X hX hbl hbA (hin 2 (by decide)) dL_law_1057 ?_
  refine L_c (As := [.int (xs (x3 + (1 : Int32)).toNatClampNeg), .int (xs (x3 + (2 : Int32)).toNatClampNeg)]) (st := []) X e1 e2 g (c_X4_whose G (xs (x3 + (1 : Int32)).toNatClampNeg) (xs (x3 + (2 : Int32)).toNatClampNeg) σc) h1 rfl rfl wi_X4_whose win_X4_whose wse_X4_whose wml_RL_117 ⟨(Nat.le_of_ble_eq_true rfl), (Nat.le_of_ble_eq_true rfl)⟩ hfit rfl (Nat.le_of_ble_eq_true rfl) dL_law_1058 ?_
  refine R_aload_n X 2 dL_law_1061 rfl rfl ?_
  refine R_aload_n X 0 dL_law_1062 rfl rfl ?_
  refine R_iload_n X 3 dL_law_1063 rfl rfl ?_
  refine R_iconst (v := (1 : Int32)) X dL_law_1064 (by decide) ?_
  refine R_iadd X dL_law_1065 ?_
  refine R_sld X hX hbl hbA (hin 1 (by decide)) dL_law_1066 ?_
  refine R_aload_n X 0 dL_law_1067 rfl rfl ?_
  refine R_iload_n X 3 dL_law_1068 rfl rfl ?_
  refine R_iconst (v := (2 : Int32)) X dL_law_1069 (by decide) ?_
  refine R_iadd X dL_law_1070 ?_
  refine R_sld X hX hbl hbA (hin 2 (by decide)) dL_law_1071 ?_
  refine L_m (As := [.int (xs (x3 + (1 : Int32)).toNatClampNeg), .int (xs (x3 + (2 : Int32)).toNatClampNeg)]) (st := [.int a]) X e1 e2 gm (c_X5_whose GM (xs (x3 + (1 : Int32)).toNatClampNeg) (xs (x3 + (2 : Int32)).toNatClampNeg) σm) h2 rfl rfl wi_X5_whose win_X5_whose wse_X5_whose wml_RL_120 ⟨(Nat.le_of_ble_eq_true rfl), (Nat.le_of_ble_eq_true rfl)⟩ hfit rfl (Nat.le_of_ble_eq_true rfl) dL_law_1072 ?_
  refine R_icmp_eqs (tgt := 1524) X dL_law_1075 (by decide) ?_
  exact kk c1 m1 h3
set_option maxRecDepth 100000 in
set_option maxHeartbeats 4000000 in
theorem lc_25 {Rel : TX → ST → ST → Prop} (hP : PS_25 Rel) {E : JE} {Q : State → Prop} {G0 G GM : JG} {W0 : ST → va_W} {b L : Nat} {xs : Nat → Int32} {kc ks i0 : Nat} {x3 : Int32} (X : XR E 4 cL_law RL (some .boolean) 2048 84000 600000 7302250 (gI G0)) (e1 : jL E = G0.1) (e2 : jV E = VI G0 W0) (g : LGp G0 G) (gm : LGp G0 GM) (hX : va_X b L xs (jS E) (jS E).heap) (hbl : b < (jS E).heap.size) (hbA : ¬ jA E b) (hx3 : x3 = nI i0) (hi0 : i0 + 7 ≤ L) (hL : L ≤ 3584) (σc σm : ST) (hr : Rel (gT G) σc σm) (hfit : kc ≤ 600000 ∧ ks ≤ 7302250) (kk : ∀ c1 m1 : ST, Rel (gT G) c1 m1 → JR E 4 Q [(0, .ref b), (1, .ref (gO G 0)), (2, .ref (gO GM 50)), (3, .int x3)] 1524 [] (wC G c1 ++ wM GM m1) kc ks) : JR E 4 Q [(0, .ref b), (1, .ref (gO G 0)), (2, .ref (gO GM 50)), (3, .int x3)] 1080 [] (wC G σc ++ wM GM σm) kc ks := by
  have hin : ∀ k : Nat, k < 7 → vp_in (x3 + Int32.ofNat k) L := fun k hk => by
    rw [hx3]
    show vp_in (nI i0 + nI k) L
    rw [nI_add]
    exact vp_in_nI (by omega) (by omega)
  obtain ⟨a, c1, m1, h1, h2, h3⟩ := hP (gT G) σc σm (xs (x3 + (1 : Int32)).toNatClampNeg) (xs (x3 + (2 : Int32)).toNatClampNeg) (xs (x3 + (3 : Int32)).toNatClampNeg) hr
  refine R_aload_n X 1 dL_law_1080 rfl rfl ?_
  refine R_aload_n X 0 dL_law_1081 rfl rfl ?_
  refine R_iload_n X 3 dL_law_1082 rfl rfl ?_
  refine R_iconst (v := (1 : Int32)) X dL_law_1083 (by decide) ?_
  refine R_iadd X dL_law_1084 ?_
  refine R_sld X hX hbl hbA (hin 1 (by decide)) dL_law_1085 ?_
  refine R_aload_n X 0 dL_law_1086 rfl rfl ?_
  refine R_iload_n X 3 dL_law_1087 rfl rfl ?_
  refine R_iconst (v := (2 : Int32)) X dL_law_1088 (by decide) ?_
  refine R_iadd X dL_law_1089 ?_
  refine R_sld X hX hbl hbA (hin 2 (by decide)) dL_law_1090 ?_
  refine R_aload_n X 0 dL_law_1091 rfl rfl ?_
  refine R_iload_n X 3 dL_law_1092 rfl rfl ?_
  refine R_iconst (v := (3 : Int32)) X dL_law_1093 (by decide) ?_
  refine R_iadd X dL_law_1094 ?_
  refine R_sld X hX hbl hbA (hin 3 (by decide)) dL_law_1095 ?_
  refine L_c (As := [.int (xs (x3 + (1 : Int32)).toNatClampNeg), .int (xs (x3 + (2 : Int32)).toNatClampNeg), .int (xs (x3 + (3 : Int32)).toNatClampNeg)]) (st := []) X e1 e2 g (c_X4_laws G (xs (x3 + (1 : Int32)).toNatClampNeg) (xs (x3 + (2 : Int32)).toNatClampNeg) (xs (x3 + (3 : Int32)).toNatClampNeg) σc) h1 rfl rfl wi_X4_laws win_X4_laws wse_X4_laws wml_RL_121 ⟨(Nat.le_of_ble_eq_true rfl), (Nat.le_of_ble_eq_true rfl)⟩ hfit rfl (Nat.le_of_ble_eq_true rfl) dL_law_1096 ?_
  refine R_aload_n X 2 dL_law_1099 rfl rfl ?_
  refine R_aload_n X 0 dL_law_1100 rfl rfl ?_
  refine R_iload_n X 3 dL_law_1101 rfl rfl ?_
  refine R_iconst (v := (1 : Int32)) X dL_law_1102 (by decide) ?_
  refine R_iadd X dL_law_1103 ?_
  refine R_sld X hX hbl hbA (hin 1 (by decide)) dL_law_1104 ?_
  refine R_aload_n X 0 dL_law_1105 rfl rfl ?_
  refine R_iload_n X 3 dL_law_1106 rfl rfl ?_
  refine R_iconst (v := (2 : Int32)) X dL_law_1107 (by decide) ?_
  refine R_iadd X dL_law_1108 ?_
  refine R_sld X hX hbl hbA (hin 2 (by decide)) dL_law_1109 ?_
  refine R_aload_n X 0 dL_law_1110 rfl rfl ?_
  refine R_iload_n X 3 dL_law_1111 rfl rfl ?_
  refine R_iconst (v := (3 : Int32)) X dL_law_1112 (by decide) ?_
  refine R_iadd X dL_law_1113 ?_
  refine R_sld X hX hbl hbA (hin 3 (by decide)) dL_law_1114 ?_
  refine L_m (As := [.int (xs (x3 + (1 : Int32)).toNatClampNeg), .int (xs (x3 + (2 : Int32)).toNatClampNeg), .int (xs (x3 + (3 : Int32)).toNatClampNeg)]) (st := [.int a]) X e1 e2 gm (c_X5_laws GM (xs (x3 + (1 : Int32)).toNatClampNeg) (xs (x3 + (2 : Int32)).toNatClampNeg) (xs (x3 + (3 : Int32)).toNatClampNeg) σm) h2 rfl rfl wi_X5_laws win_X5_laws wse_X5_laws wml_RL_124 ⟨(Nat.le_of_ble_eq_true rfl), (Nat.le_of_ble_eq_true rfl)⟩ hfit rfl (Nat.le_of_ble_eq_true rfl) dL_law_1115 ?_
  refine R_icmp_eqs (tgt := 1524) X dL_law_1118 (by decide) ?_
  exact kk c1 m1 h3
set_option maxRecDepth 100000 in
set_option maxHeartbeats 4000000 in
theorem lc_26 {Rel : TX → ST → ST → Prop} (hP : PS_26 Rel) {E : JE} {Q : State → Prop} {G0 G GM : JG} {W0 : ST → va_W} {b L : Nat} {xs : Nat → Int32} {kc ks i0 : Nat} {x3 : Int32} (X : XR E 4 cL_law RL (some .boolean) 2048 84000 600000 7302250 (gI G0)) (e1 : jL E = G0.1) (e2 : jV E = VI G0 W0) (g : LGp G0 G) (gm : LGp G0 GM) (hX : va_X b L xs (jS E) (jS E).heap) (hbl : b < (jS E).heap.size) (hbA : ¬ jA E b) (hx3 : x3 = nI i0) (hi0 : i0 + 7 ≤ L) (hL : L ≤ 3584) (σc σm : ST) (hr : Rel (gT G) σc σm) (hfit : kc ≤ 600000 ∧ ks ≤ 7302250) (kk : ∀ c1 m1 : ST, Rel (gT G) c1 m1 → JR E 4 Q [(0, .ref b), (1, .ref (gO G 0)), (2, .ref (gO GM 50)), (3, .int x3)] 1524 [] (wC G c1 ++ wM GM m1) kc ks) : JR E 4 Q [(0, .ref b), (1, .ref (gO G 0)), (2, .ref (gO GM 50)), (3, .int x3)] 1123 [] (wC G σc ++ wM GM σm) kc ks := by
  have hin : ∀ k : Nat, k < 7 → vp_in (x3 + Int32.ofNat k) L := fun k hk => by
    rw [hx3]
    show vp_in (nI i0 + nI k) L
    rw [nI_add]
    exact vp_in_nI (by omega) (by omega)
  obtain ⟨a, c1, m1, h1, h2, h3⟩ := hP (gT G) σc σm (xs (x3 + (1 : Int32)).toNatClampNeg) (xs (x3 + (2 : Int32)).toNatClampNeg) (xs (x3 + (3 : Int32)).toNatClampNeg) hr
  refine R_aload_n X 1 dL_law_1123 rfl rfl ?_
  refine R_aload_n X 0 dL_law_1124 rfl rfl ?_
  refine R_iload_n X 3 dL_law_1125 rfl rfl ?_
  refine R_iconst (v := (1 : Int32)) X dL_law_1126 (by decide) ?_
  refine R_iadd X dL_law_1127 ?_
  refine R_sld X hX hbl hbA (hin 1 (by decide)) dL_law_1128 ?_
  refine R_aload_n X 0 dL_law_1129 rfl rfl ?_
  refine R_iload_n X 3 dL_law_1130 rfl rfl ?_
  refine R_iconst (v := (2 : Int32)) X dL_law_1131 (by decide) ?_
  refine R_iadd X dL_law_1132 ?_
  refine R_sld X hX hbl hbA (hin 2 (by decide)) dL_law_1133 ?_
  refine R_aload_n X 0 dL_law_1134 rfl rfl ?_
  refine R_iload_n X 3 dL_law_1135 rfl rfl ?_
  refine R_iconst (v := (3 : Int32)) X dL_law_1136 (by decide) ?_
  refine R_iadd X dL_law_1137 ?_
  refine R_sld X hX hbl hbA (hin 3 (by decide)) dL_law_1138 ?_
  refine L_c (As := [.int (xs (x3 + (1 : Int32)).toNatClampNeg), .int (xs (x3 + (2 : Int32)).toNatClampNeg), .int (xs (x3 + (3 : Int32)).toNatClampNeg)]) (st := []) X e1 e2 g (c_X4_film G (xs (x3 + (1 : Int32)).toNatClampNeg) (xs (x3 + (2 : Int32)).toNatClampNeg) (xs (x3 + (3 : Int32)).toNatClampNeg) σc) h1 rfl rfl wi_X4_film win_X4_film wse_X4_film wml_RL_125 ⟨(Nat.le_of_ble_eq_true rfl), (Nat.le_of_ble_eq_true rfl)⟩ hfit rfl (Nat.le_of_ble_eq_true rfl) dL_law_1139 ?_
  refine R_aload_n X 2 dL_law_1142 rfl rfl ?_
  refine R_aload_n X 0 dL_law_1143 rfl rfl ?_
  refine R_iload_n X 3 dL_law_1144 rfl rfl ?_
  refine R_iconst (v := (1 : Int32)) X dL_law_1145 (by decide) ?_
  refine R_iadd X dL_law_1146 ?_
  refine R_sld X hX hbl hbA (hin 1 (by decide)) dL_law_1147 ?_
  refine R_aload_n X 0 dL_law_1148 rfl rfl ?_
  refine R_iload_n X 3 dL_law_1149 rfl rfl ?_
  refine R_iconst (v := (2 : Int32)) X dL_law_1150 (by decide) ?_
  refine R_iadd X dL_law_1151 ?_
  refine R_sld X hX hbl hbA (hin 2 (by decide)) dL_law_1152 ?_
  refine R_aload_n X 0 dL_law_1153 rfl rfl ?_
  refine R_iload_n X 3 dL_law_1154 rfl rfl ?_
  refine R_iconst (v := (3 : Int32)) X dL_law_1155 (by decide) ?_
  refine R_iadd X dL_law_1156 ?_
  refine R_sld X hX hbl hbA (hin 3 (by decide)) dL_law_1157 ?_
  refine L_m (As := [.int (xs (x3 + (1 : Int32)).toNatClampNeg), .int (xs (x3 + (2 : Int32)).toNatClampNeg), .int (xs (x3 + (3 : Int32)).toNatClampNeg)]) (st := [.int a]) X e1 e2 gm (c_X5_film GM (xs (x3 + (1 : Int32)).toNatClampNeg) (xs (x3 + (2 : Int32)).toNatClampNeg) (xs (x3 + (3 : Int32)).toNatClampNeg) σm) h2 rfl rfl wi_X5_film win_X5_film wse_X5_film wml_RL_128 ⟨(Nat.le_of_ble_eq_true rfl), (Nat.le_of_ble_eq_true rfl)⟩ hfit rfl (Nat.le_of_ble_eq_true rfl) dL_law_1158 ?_
  refine R_icmp_eqs (tgt := 1524) X dL_law_1161 (by decide) ?_
  exact kk c1 m1 h3
set_option maxRecDepth 100000 in
set_option maxHeartbeats 4000000 in
theorem lc_27 {Rel : TX → ST → ST → Prop} (hP : PS_27 Rel) {E : JE} {Q : State → Prop} {G0 G GM : JG} {W0 : ST → va_W} {b L : Nat} {xs : Nat → Int32} {kc ks i0 : Nat} {x3 : Int32} (X : XR E 4 cL_law RL (some .boolean) 2048 84000 600000 7302250 (gI G0)) (e1 : jL E = G0.1) (e2 : jV E = VI G0 W0) (g : LGp G0 G) (gm : LGp G0 GM) (hX : va_X b L xs (jS E) (jS E).heap) (hbl : b < (jS E).heap.size) (hbA : ¬ jA E b) (hx3 : x3 = nI i0) (hi0 : i0 + 7 ≤ L) (hL : L ≤ 3584) (σc σm : ST) (hr : Rel (gT G) σc σm) (hfit : kc ≤ 600000 ∧ ks ≤ 7302250) (kk : ∀ c1 m1 : ST, Rel (gT G) c1 m1 → JR E 4 Q [(0, .ref b), (1, .ref (gO G 0)), (2, .ref (gO GM 50)), (3, .int x3)] 1524 [] (wC G c1 ++ wM GM m1) kc ks) : JR E 4 Q [(0, .ref b), (1, .ref (gO G 0)), (2, .ref (gO GM 50)), (3, .int x3)] 1166 [] (wC G σc ++ wM GM σm) kc ks := by
  have hin : ∀ k : Nat, k < 7 → vp_in (x3 + Int32.ofNat k) L := fun k hk => by
    rw [hx3]
    show vp_in (nI i0 + nI k) L
    rw [nI_add]
    exact vp_in_nI (by omega) (by omega)
  obtain ⟨a, c1, m1, h1, h2, h3⟩ := hP (gT G) σc σm (xs (x3 + (1 : Int32)).toNatClampNeg) (xs (x3 + (2 : Int32)).toNatClampNeg) (xs (x3 + (3 : Int32)).toNatClampNeg) hr
  refine R_aload_n X 1 dL_law_1166 rfl rfl ?_
  refine R_aload_n X 0 dL_law_1167 rfl rfl ?_
  refine R_iload_n X 3 dL_law_1168 rfl rfl ?_
  refine R_iconst (v := (1 : Int32)) X dL_law_1169 (by decide) ?_
  refine R_iadd X dL_law_1170 ?_
  refine R_sld X hX hbl hbA (hin 1 (by decide)) dL_law_1171 ?_
  refine R_aload_n X 0 dL_law_1172 rfl rfl ?_
  refine R_iload_n X 3 dL_law_1173 rfl rfl ?_
  refine R_iconst (v := (2 : Int32)) X dL_law_1174 (by decide) ?_
  refine R_iadd X dL_law_1175 ?_
  refine R_sld X hX hbl hbA (hin 2 (by decide)) dL_law_1176 ?_
  refine R_aload_n X 0 dL_law_1177 rfl rfl ?_
  refine R_iload_n X 3 dL_law_1178 rfl rfl ?_
  refine R_iconst (v := (3 : Int32)) X dL_law_1179 (by decide) ?_
  refine R_iadd X dL_law_1180 ?_
  refine R_sld X hX hbl hbA (hin 3 (by decide)) dL_law_1181 ?_
  refine L_c (As := [.int (xs (x3 + (1 : Int32)).toNatClampNeg), .int (xs (x3 + (2 : Int32)).toNatClampNeg), .int (xs (x3 + (3 : Int32)).toNatClampNeg)]) (st := []) X e1 e2 g (c_X4_drawn G (xs (x3 + (1 : Int32)).toNatClampNeg) (xs (x3 + (2 : Int32)).toNatClampNeg) (xs (x3 + (3 : Int32)).toNatClampNeg) σc) h1 rfl rfl wi_X4_drawn win_X4_drawn wse_X4_drawn wml_RL_129 ⟨(Nat.le_of_ble_eq_true rfl), (Nat.le_of_ble_eq_true rfl)⟩ hfit rfl (Nat.le_of_ble_eq_true rfl) dL_law_1182 ?_
  refine R_aload_n X 2 dL_law_1185 rfl rfl ?_
  refine R_aload_n X 0 dL_law_1186 rfl rfl ?_
  refine R_iload_n X 3 dL_law_1187 rfl rfl ?_
  refine R_iconst (v := (1 : Int32)) X dL_law_1188 (by decide) ?_
  refine R_iadd X dL_law_1189 ?_
  refine R_sld X hX hbl hbA (hin 1 (by decide)) dL_law_1190 ?_
  refine R_aload_n X 0 dL_law_1191 rfl rfl ?_
  refine R_iload_n X 3 dL_law_1192 rfl rfl ?_
  refine R_iconst (v := (2 : Int32)) X dL_law_1193 (by decide) ?_
  refine R_iadd X dL_law_1194 ?_
  refine R_sld X hX hbl hbA (hin 2 (by decide)) dL_law_1195 ?_
  refine R_aload_n X 0 dL_law_1196 rfl rfl ?_
  refine R_iload_n X 3 dL_law_1197 rfl rfl ?_
  refine R_iconst (v := (3 : Int32)) X dL_law_1198 (by decide) ?_
  refine R_iadd X dL_law_1199 ?_
  refine R_sld X hX hbl hbA (hin 3 (by decide)) dL_law_1200 ?_
  refine L_m (As := [.int (xs (x3 + (1 : Int32)).toNatClampNeg), .int (xs (x3 + (2 : Int32)).toNatClampNeg), .int (xs (x3 + (3 : Int32)).toNatClampNeg)]) (st := [.int a]) X e1 e2 gm (c_X5_drawn GM (xs (x3 + (1 : Int32)).toNatClampNeg) (xs (x3 + (2 : Int32)).toNatClampNeg) (xs (x3 + (3 : Int32)).toNatClampNeg) σm) h2 rfl rfl wi_X5_drawn win_X5_drawn wse_X5_drawn wml_RL_132 ⟨(Nat.le_of_ble_eq_true rfl), (Nat.le_of_ble_eq_true rfl)⟩ hfit rfl (Nat.le_of_ble_eq_true rfl) dL_law_1201 ?_
  refine R_icmp_eqs (tgt := 1524) X dL_law_1204 (by decide) ?_
  exact kk c1 m1 h3
set_option maxRecDepth 100000 in
set_option maxHeartbeats 4000000 in
theorem lc_28 {Rel : TX → ST → ST → Prop} (hP : PS_28 Rel) {E : JE} {Q : State → Prop} {G0 G GM : JG} {W0 : ST → va_W} {b L : Nat} {xs : Nat → Int32} {kc ks i0 : Nat} {x3 : Int32} (X : XR E 4 cL_law RL (some .boolean) 2048 84000 600000 7302250 (gI G0)) (e1 : jL E = G0.1) (e2 : jV E = VI G0 W0) (g : LGp G0 G) (gm : LGp G0 GM) (hX : va_X b L xs (jS E) (jS E).heap) (hbl : b < (jS E).heap.size) (hbA : ¬ jA E b) (hx3 : x3 = nI i0) (hi0 : i0 + 7 ≤ L) (hL : L ≤ 3584) (σc σm : ST) (hr : Rel (gT G) σc σm) (hfit : kc ≤ 600000 ∧ ks ≤ 7302250) (kk : ∀ c1 m1 : ST, Rel (gT G) c1 m1 → JR E 4 Q [(0, .ref b), (1, .ref (gO G 0)), (2, .ref (gO GM 50)), (3, .int x3)] 1524 [] (wC G c1 ++ wM GM m1) kc ks) : JR E 4 Q [(0, .ref b), (1, .ref (gO G 0)), (2, .ref (gO GM 50)), (3, .int x3)] 1209 [] (wC G σc ++ wM GM σm) kc ks := by
  have hin : ∀ k : Nat, k < 7 → vp_in (x3 + Int32.ofNat k) L := fun k hk => by
    rw [hx3]
    show vp_in (nI i0 + nI k) L
    rw [nI_add]
    exact vp_in_nI (by omega) (by omega)
  obtain ⟨a, c1, m1, h1, h2, h3⟩ := hP (gT G) σc σm (xs (x3 + (1 : Int32)).toNatClampNeg) (xs (x3 + (2 : Int32)).toNatClampNeg) (xs (x3 + (3 : Int32)).toNatClampNeg) (xs (x3 + (4 : Int32)).toNatClampNeg) hr
  refine R_aload_n X 1 dL_law_1209 rfl rfl ?_
  refine R_aload_n X 0 dL_law_1210 rfl rfl ?_
  refine R_iload_n X 3 dL_law_1211 rfl rfl ?_
  refine R_iconst (v := (1 : Int32)) X dL_law_1212 (by decide) ?_
  refine R_iadd X dL_law_1213 ?_
  refine R_sld X hX hbl hbA (hin 1 (by decide)) dL_law_1214 ?_
  refine R_aload_n X 0 dL_law_1215 rfl rfl ?_
  refine R_iload_n X 3 dL_law_1216 rfl rfl ?_
  refine R_iconst (v := (2 : Int32)) X dL_law_1217 (by decide) ?_
  refine R_iadd X dL_law_1218 ?_
  refine R_sld X hX hbl hbA (hin 2 (by decide)) dL_law_1219 ?_
  refine R_aload_n X 0 dL_law_1220 rfl rfl ?_
  refine R_iload_n X 3 dL_law_1221 rfl rfl ?_
  refine R_iconst (v := (3 : Int32)) X dL_law_1222 (by decide) ?_
  refine R_iadd X dL_law_1223 ?_
  refine R_sld X hX hbl hbA (hin 3 (by decide)) dL_law_1224 ?_
  refine R_aload_n X 0 dL_law_1225 rfl rfl ?_
  refine R_iload_n X 3 dL_law_1226 rfl rfl ?_
  refine R_iconst (v := (4 : Int32)) X dL_law_1227 (by decide) ?_
  refine R_iadd X dL_law_1228 ?_
  refine R_sld X hX hbl hbA (hin 4 (by decide)) dL_law_1229 ?_
  refine L_c (As := [.int (xs (x3 + (1 : Int32)).toNatClampNeg), .int (xs (x3 + (2 : Int32)).toNatClampNeg), .int (xs (x3 + (3 : Int32)).toNatClampNeg), .int (xs (x3 + (4 : Int32)).toNatClampNeg)]) (st := []) X e1 e2 g (c_X4_odds G (xs (x3 + (1 : Int32)).toNatClampNeg) (xs (x3 + (2 : Int32)).toNatClampNeg) (xs (x3 + (3 : Int32)).toNatClampNeg) (xs (x3 + (4 : Int32)).toNatClampNeg) σc) h1 rfl rfl wi_X4_odds win_X4_odds wse_X4_odds wml_RL_133 ⟨(Nat.le_of_ble_eq_true rfl), (Nat.le_of_ble_eq_true rfl)⟩ hfit rfl (Nat.le_of_ble_eq_true rfl) dL_law_1230 ?_
  refine R_aload_n X 2 dL_law_1233 rfl rfl ?_
  refine R_aload_n X 0 dL_law_1234 rfl rfl ?_
  refine R_iload_n X 3 dL_law_1235 rfl rfl ?_
  refine R_iconst (v := (1 : Int32)) X dL_law_1236 (by decide) ?_
  refine R_iadd X dL_law_1237 ?_
  refine R_sld X hX hbl hbA (hin 1 (by decide)) dL_law_1238 ?_
  refine R_aload_n X 0 dL_law_1239 rfl rfl ?_
  refine R_iload_n X 3 dL_law_1240 rfl rfl ?_
  refine R_iconst (v := (2 : Int32)) X dL_law_1241 (by decide) ?_
  refine R_iadd X dL_law_1242 ?_
  refine R_sld X hX hbl hbA (hin 2 (by decide)) dL_law_1243 ?_
  refine R_aload_n X 0 dL_law_1244 rfl rfl ?_
  refine R_iload_n X 3 dL_law_1245 rfl rfl ?_
  refine R_iconst (v := (3 : Int32)) X dL_law_1246 (by decide) ?_
  refine R_iadd X dL_law_1247 ?_
  refine R_sld X hX hbl hbA (hin 3 (by decide)) dL_law_1248 ?_
  refine R_aload_n X 0 dL_law_1249 rfl rfl ?_
  refine R_iload_n X 3 dL_law_1250 rfl rfl ?_
  refine R_iconst (v := (4 : Int32)) X dL_law_1251 (by decide) ?_
  refine R_iadd X dL_law_1252 ?_
  refine R_sld X hX hbl hbA (hin 4 (by decide)) dL_law_1253 ?_
  refine L_m (As := [.int (xs (x3 + (1 : Int32)).toNatClampNeg), .int (xs (x3 + (2 : Int32)).toNatClampNeg), .int (xs (x3 + (3 : Int32)).toNatClampNeg), .int (xs (x3 + (4 : Int32)).toNatClampNeg)]) (st := [.long a]) X e1 e2 gm (c_X5_odds GM (xs (x3 + (1 : Int32)).toNatClampNeg) (xs (x3 + (2 : Int32)).toNatClampNeg) (xs (x3 + (3 : Int32)).toNatClampNeg) (xs (x3 + (4 : Int32)).toNatClampNeg) σm) h2 rfl rfl wi_X5_odds win_X5_odds wse_X5_odds wml_RL_137 ⟨(Nat.le_of_ble_eq_true rfl), (Nat.le_of_ble_eq_true rfl)⟩ hfit rfl (Nat.le_of_ble_eq_true rfl) dL_law_1254 ?_
  refine R_lcmps (tgt := 1524) X dL_law_1257 dL_law_1258 (by decide) ?_
  exact kk c1 m1 h3
set_option maxRecDepth 100000 in
set_option maxHeartbeats 4000000 in
theorem lc_29 {Rel : TX → ST → ST → Prop} (hP : PS_29 Rel) {E : JE} {Q : State → Prop} {G0 G GM : JG} {W0 : ST → va_W} {b L : Nat} {xs : Nat → Int32} {kc ks i0 : Nat} {x3 : Int32} (X : XR E 4 cL_law RL (some .boolean) 2048 84000 600000 7302250 (gI G0)) (e1 : jL E = G0.1) (e2 : jV E = VI G0 W0) (g : LGp G0 G) (gm : LGp G0 GM) (hX : va_X b L xs (jS E) (jS E).heap) (hbl : b < (jS E).heap.size) (hbA : ¬ jA E b) (hx3 : x3 = nI i0) (hi0 : i0 + 7 ≤ L) (hL : L ≤ 3584) (σc σm : ST) (hr : Rel (gT G) σc σm) (hfit : kc ≤ 600000 ∧ ks ≤ 7302250) (kk : ∀ c1 m1 : ST, Rel (gT G) c1 m1 → JR E 4 Q [(0, .ref b), (1, .ref (gO G 0)), (2, .ref (gO GM 50)), (3, .int x3)] 1524 [] (wC G c1 ++ wM GM m1) kc ks) : JR E 4 Q [(0, .ref b), (1, .ref (gO G 0)), (2, .ref (gO GM 50)), (3, .int x3)] 1263 [] (wC G σc ++ wM GM σm) kc ks := by
  obtain ⟨a, c1, m1, h1, h2, h3⟩ := hP (gT G) σc σm hr
  refine R_aload_n X 1 dL_law_1263 rfl rfl ?_
  refine L_c (As := []) (st := []) X e1 e2 g (c_X4_image G σc) h1 rfl rfl wi_X4_image win_X4_image wse_X4_image wml_RL_138 ⟨(Nat.le_of_ble_eq_true rfl), (Nat.le_of_ble_eq_true rfl)⟩ hfit rfl (Nat.le_of_ble_eq_true rfl) dL_law_1264 ?_
  refine R_aload_n X 2 dL_law_1267 rfl rfl ?_
  refine L_m (As := []) (st := [.int a]) X e1 e2 gm (c_X5_image GM σm) h2 rfl rfl wi_X5_image win_X5_image wse_X5_image wml_RL_141 ⟨(Nat.le_of_ble_eq_true rfl), (Nat.le_of_ble_eq_true rfl)⟩ hfit rfl (Nat.le_of_ble_eq_true rfl) dL_law_1268 ?_
  refine R_icmp_eqs (tgt := 1524) X dL_law_1271 (by decide) ?_
  exact kk c1 m1 h3
set_option maxRecDepth 100000 in
set_option maxHeartbeats 4000000 in
theorem lc_30 {Rel : TX → ST → ST → Prop} (hP : PS_30 Rel) {E : JE} {Q : State → Prop} {G0 G GM : JG} {W0 : ST → va_W} {b L : Nat} {xs : Nat → Int32} {kc ks i0 : Nat} {x3 : Int32} (X : XR E 4 cL_law RL (some .boolean) 2048 84000 600000 7302250 (gI G0)) (e1 : jL E = G0.1) (e2 : jV E = VI G0 W0) (g : LGp G0 G) (gm : LGp G0 GM) (hX : va_X b L xs (jS E) (jS E).heap) (hbl : b < (jS E).heap.size) (hbA : ¬ jA E b) (hx3 : x3 = nI i0) (hi0 : i0 + 7 ≤ L) (hL : L ≤ 3584) (σc σm : ST) (hr : Rel (gT G) σc σm) (hfit : kc ≤ 600000 ∧ ks ≤ 7302250) (kk : ∀ c1 m1 : ST, Rel (gT G) c1 m1 → JR E 4 Q [(0, .ref b), (1, .ref (gO G 0)), (2, .ref (gO GM 50)), (3, .int x3)] 1524 [] (wC G c1 ++ wM GM m1) kc ks) : JR E 4 Q [(0, .ref b), (1, .ref (gO G 0)), (2, .ref (gO GM 50)), (3, .int x3)] 1276 [] (wC G σc ++ wM GM σm) kc ks := by
  obtain ⟨a, c1, m1, h1, h2, h3⟩ := hP (gT G) σc σm hr
  refine R_aload_n X 1 dL_law_1276 rfl rfl ?_
  refine L_c (As := []) (st := []) X e1 e2 g (c_X4_back G σc) h1 rfl rfl wi_X4_back win_X4_back wse_X4_back wml_RL_142 ⟨(Nat.le_of_ble_eq_true rfl), (Nat.le_of_ble_eq_true rfl)⟩ hfit rfl (Nat.le_of_ble_eq_true rfl) dL_law_1277 ?_
  refine R_aload_n X 2 dL_law_1280 rfl rfl ?_
  refine L_m (As := []) (st := [.int a]) X e1 e2 gm (c_X5_back GM σm) h2 rfl rfl wi_X5_back win_X5_back wse_X5_back wml_RL_145 ⟨(Nat.le_of_ble_eq_true rfl), (Nat.le_of_ble_eq_true rfl)⟩ hfit rfl (Nat.le_of_ble_eq_true rfl) dL_law_1281 ?_
  refine R_icmp_eqs (tgt := 1524) X dL_law_1284 (by decide) ?_
  exact kk c1 m1 h3
set_option maxRecDepth 100000 in
set_option maxHeartbeats 4000000 in
theorem lc_31 {Rel : TX → ST → ST → Prop} (hP : PS_31 Rel) {E : JE} {Q : State → Prop} {G0 G GM : JG} {W0 : ST → va_W} {b L : Nat} {xs : Nat → Int32} {kc ks i0 : Nat} {x3 : Int32} (X : XR E 4 cL_law RL (some .boolean) 2048 84000 600000 7302250 (gI G0)) (e1 : jL E = G0.1) (e2 : jV E = VI G0 W0) (g : LGp G0 G) (gm : LGp G0 GM) (hX : va_X b L xs (jS E) (jS E).heap) (hbl : b < (jS E).heap.size) (hbA : ¬ jA E b) (hx3 : x3 = nI i0) (hi0 : i0 + 7 ≤ L) (hL : L ≤ 3584) (σc σm : ST) (hr : Rel (gT G) σc σm) (hfit : kc ≤ 600000 ∧ ks ≤ 7302250) (kk : ∀ c1 m1 : ST, Rel (gT G) c1 m1 → JR E 4 Q [(0, .ref b), (1, .ref (gO G 0)), (2, .ref (gO GM 50)), (3, .int x3)] 1524 [] (wC G c1 ++ wM GM m1) kc ks) : JR E 4 Q [(0, .ref b), (1, .ref (gO G 0)), (2, .ref (gO GM 50)), (3, .int x3)] 1289 [] (wC G σc ++ wM GM σm) kc ks := by
  have hin : ∀ k : Nat, k < 7 → vp_in (x3 + Int32.ofNat k) L := fun k hk => by
    rw [hx3]
    show vp_in (nI i0 + nI k) L
    rw [nI_add]
    exact vp_in_nI (by omega) (by omega)
  obtain ⟨a, c1, m1, h1, h2, h3⟩ := hP (gT G) σc σm (xs (x3 + (1 : Int32)).toNatClampNeg) (xs (x3 + (2 : Int32)).toNatClampNeg) (xs (x3 + (3 : Int32)).toNatClampNeg) hr
  refine R_aload_n X 1 dL_law_1289 rfl rfl ?_
  refine R_aload_n X 0 dL_law_1290 rfl rfl ?_
  refine R_iload_n X 3 dL_law_1291 rfl rfl ?_
  refine R_iconst (v := (1 : Int32)) X dL_law_1292 (by decide) ?_
  refine R_iadd X dL_law_1293 ?_
  refine R_sld X hX hbl hbA (hin 1 (by decide)) dL_law_1294 ?_
  refine R_aload_n X 0 dL_law_1295 rfl rfl ?_
  refine R_iload_n X 3 dL_law_1296 rfl rfl ?_
  refine R_iconst (v := (2 : Int32)) X dL_law_1297 (by decide) ?_
  refine R_iadd X dL_law_1298 ?_
  refine R_sld X hX hbl hbA (hin 2 (by decide)) dL_law_1299 ?_
  refine R_aload_n X 0 dL_law_1300 rfl rfl ?_
  refine R_iload_n X 3 dL_law_1301 rfl rfl ?_
  refine R_iconst (v := (3 : Int32)) X dL_law_1302 (by decide) ?_
  refine R_iadd X dL_law_1303 ?_
  refine R_sld X hX hbl hbA (hin 3 (by decide)) dL_law_1304 ?_
  refine L_c (As := [.int (xs (x3 + (1 : Int32)).toNatClampNeg), .int (xs (x3 + (2 : Int32)).toNatClampNeg), .int (xs (x3 + (3 : Int32)).toNatClampNeg)]) (st := []) X e1 e2 g (c_X4_sheet G (xs (x3 + (1 : Int32)).toNatClampNeg) (xs (x3 + (2 : Int32)).toNatClampNeg) (xs (x3 + (3 : Int32)).toNatClampNeg) σc) h1 rfl rfl wi_X4_sheet win_X4_sheet wse_X4_sheet wml_RL_146 ⟨(Nat.le_of_ble_eq_true rfl), (Nat.le_of_ble_eq_true rfl)⟩ hfit rfl (Nat.le_of_ble_eq_true rfl) dL_law_1305 ?_
  refine R_aload_n X 2 dL_law_1308 rfl rfl ?_
  refine R_aload_n X 0 dL_law_1309 rfl rfl ?_
  refine R_iload_n X 3 dL_law_1310 rfl rfl ?_
  refine R_iconst (v := (1 : Int32)) X dL_law_1311 (by decide) ?_
  refine R_iadd X dL_law_1312 ?_
  refine R_sld X hX hbl hbA (hin 1 (by decide)) dL_law_1313 ?_
  refine R_aload_n X 0 dL_law_1314 rfl rfl ?_
  refine R_iload_n X 3 dL_law_1315 rfl rfl ?_
  refine R_iconst (v := (2 : Int32)) X dL_law_1316 (by decide) ?_
  refine R_iadd X dL_law_1317 ?_
  refine R_sld X hX hbl hbA (hin 2 (by decide)) dL_law_1318 ?_
  refine R_aload_n X 0 dL_law_1319 rfl rfl ?_
  refine R_iload_n X 3 dL_law_1320 rfl rfl ?_
  refine R_iconst (v := (3 : Int32)) X dL_law_1321 (by decide) ?_
  refine R_iadd X dL_law_1322 ?_
  refine R_sld X hX hbl hbA (hin 3 (by decide)) dL_law_1323 ?_
  refine L_m (As := [.int (xs (x3 + (1 : Int32)).toNatClampNeg), .int (xs (x3 + (2 : Int32)).toNatClampNeg), .int (xs (x3 + (3 : Int32)).toNatClampNeg)]) (st := [.int a]) X e1 e2 gm (c_X5_sheet GM (xs (x3 + (1 : Int32)).toNatClampNeg) (xs (x3 + (2 : Int32)).toNatClampNeg) (xs (x3 + (3 : Int32)).toNatClampNeg) σm) h2 rfl rfl wi_X5_sheet win_X5_sheet wse_X5_sheet wml_RL_149 ⟨(Nat.le_of_ble_eq_true rfl), (Nat.le_of_ble_eq_true rfl)⟩ hfit rfl (Nat.le_of_ble_eq_true rfl) dL_law_1324 ?_
  refine R_icmp_eqs (tgt := 1524) X dL_law_1327 (by decide) ?_
  exact kk c1 m1 h3
set_option maxRecDepth 100000 in
set_option maxHeartbeats 4000000 in
theorem lc_32 {Rel : TX → ST → ST → Prop} (hP : PS_32 Rel) {E : JE} {Q : State → Prop} {G0 G GM : JG} {W0 : ST → va_W} {b L : Nat} {xs : Nat → Int32} {kc ks i0 : Nat} {x3 : Int32} (X : XR E 4 cL_law RL (some .boolean) 2048 84000 600000 7302250 (gI G0)) (e1 : jL E = G0.1) (e2 : jV E = VI G0 W0) (g : LGp G0 G) (gm : LGp G0 GM) (hX : va_X b L xs (jS E) (jS E).heap) (hbl : b < (jS E).heap.size) (hbA : ¬ jA E b) (hx3 : x3 = nI i0) (hi0 : i0 + 7 ≤ L) (hL : L ≤ 3584) (σc σm : ST) (hr : Rel (gT G) σc σm) (hfit : kc ≤ 600000 ∧ ks ≤ 7302250) (kk : ∀ c1 m1 : ST, Rel (gT G) c1 m1 → JR E 4 Q [(0, .ref b), (1, .ref (gO G 0)), (2, .ref (gO GM 50)), (3, .int x3)] 1524 [] (wC G c1 ++ wM GM m1) kc ks) : JR E 4 Q [(0, .ref b), (1, .ref (gO G 0)), (2, .ref (gO GM 50)), (3, .int x3)] 1332 [] (wC G σc ++ wM GM σm) kc ks := by
  have hin : ∀ k : Nat, k < 7 → vp_in (x3 + Int32.ofNat k) L := fun k hk => by
    rw [hx3]
    show vp_in (nI i0 + nI k) L
    rw [nI_add]
    exact vp_in_nI (by omega) (by omega)
  obtain ⟨a, c1, m1, h1, h2, h3⟩ := hP (gT G) σc σm (xs (x3 + (1 : Int32)).toNatClampNeg) (xs (x3 + (2 : Int32)).toNatClampNeg) (xs (x3 + (3 : Int32)).toNatClampNeg) hr
  refine R_aload_n X 1 dL_law_1332 rfl rfl ?_
  refine R_aload_n X 0 dL_law_1333 rfl rfl ?_
  refine R_iload_n X 3 dL_law_1334 rfl rfl ?_
  refine R_iconst (v := (1 : Int32)) X dL_law_1335 (by decide) ?_
  refine R_iadd X dL_law_1336 ?_
  refine R_sld X hX hbl hbA (hin 1 (by decide)) dL_law_1337 ?_
  refine R_aload_n X 0 dL_law_1338 rfl rfl ?_
  refine R_iload_n X 3 dL_law_1339 rfl rfl ?_
  refine R_iconst (v := (2 : Int32)) X dL_law_1340 (by decide) ?_
  refine R_iadd X dL_law_1341 ?_
  refine R_sld X hX hbl hbA (hin 2 (by decide)) dL_law_1342 ?_
  refine R_aload_n X 0 dL_law_1343 rfl rfl ?_
  refine R_iload_n X 3 dL_law_1344 rfl rfl ?_
  refine R_iconst (v := (3 : Int32)) X dL_law_1345 (by decide) ?_
  refine R_iadd X dL_law_1346 ?_
  refine R_sld X hX hbl hbA (hin 3 (by decide)) dL_law_1347 ?_
  refine L_c (As := [.int (xs (x3 + (1 : Int32)).toNatClampNeg), .int (xs (x3 + (2 : Int32)).toNatClampNeg), .int (xs (x3 + (3 : Int32)).toNatClampNeg)]) (st := []) X e1 e2 g (c_X4_cell G (xs (x3 + (1 : Int32)).toNatClampNeg) (xs (x3 + (2 : Int32)).toNatClampNeg) (xs (x3 + (3 : Int32)).toNatClampNeg) σc) h1 rfl rfl wi_X4_cell win_X4_cell wse_X4_cell wml_RL_150 ⟨(Nat.le_of_ble_eq_true rfl), (Nat.le_of_ble_eq_true rfl)⟩ hfit rfl (Nat.le_of_ble_eq_true rfl) dL_law_1348 ?_
  refine R_aload_n X 2 dL_law_1351 rfl rfl ?_
  refine R_aload_n X 0 dL_law_1352 rfl rfl ?_
  refine R_iload_n X 3 dL_law_1353 rfl rfl ?_
  refine R_iconst (v := (1 : Int32)) X dL_law_1354 (by decide) ?_
  refine R_iadd X dL_law_1355 ?_
  refine R_sld X hX hbl hbA (hin 1 (by decide)) dL_law_1356 ?_
  refine R_aload_n X 0 dL_law_1357 rfl rfl ?_
  refine R_iload_n X 3 dL_law_1358 rfl rfl ?_
  refine R_iconst (v := (2 : Int32)) X dL_law_1359 (by decide) ?_
  refine R_iadd X dL_law_1360 ?_
  refine R_sld X hX hbl hbA (hin 2 (by decide)) dL_law_1361 ?_
  refine R_aload_n X 0 dL_law_1362 rfl rfl ?_
  refine R_iload_n X 3 dL_law_1363 rfl rfl ?_
  refine R_iconst (v := (3 : Int32)) X dL_law_1364 (by decide) ?_
  refine R_iadd X dL_law_1365 ?_
  refine R_sld X hX hbl hbA (hin 3 (by decide)) dL_law_1366 ?_
  refine L_m (As := [.int (xs (x3 + (1 : Int32)).toNatClampNeg), .int (xs (x3 + (2 : Int32)).toNatClampNeg), .int (xs (x3 + (3 : Int32)).toNatClampNeg)]) (st := [.int a]) X e1 e2 gm (c_X5_cell GM (xs (x3 + (1 : Int32)).toNatClampNeg) (xs (x3 + (2 : Int32)).toNatClampNeg) (xs (x3 + (3 : Int32)).toNatClampNeg) σm) h2 rfl rfl wi_X5_cell win_X5_cell wse_X5_cell wml_RL_153 ⟨(Nat.le_of_ble_eq_true rfl), (Nat.le_of_ble_eq_true rfl)⟩ hfit rfl (Nat.le_of_ble_eq_true rfl) dL_law_1367 ?_
  refine R_icmp_eqs (tgt := 1524) X dL_law_1370 (by decide) ?_
  exact kk c1 m1 h3
set_option maxRecDepth 100000 in
set_option maxHeartbeats 4000000 in
theorem lc_33 {Rel : TX → ST → ST → Prop} (hP : PS_33 Rel) {E : JE} {Q : State → Prop} {G0 G GM : JG} {W0 : ST → va_W} {b L : Nat} {xs : Nat → Int32} {kc ks i0 : Nat} {x3 : Int32} (X : XR E 4 cL_law RL (some .boolean) 2048 84000 600000 7302250 (gI G0)) (e1 : jL E = G0.1) (e2 : jV E = VI G0 W0) (g : LGp G0 G) (gm : LGp G0 GM) (hX : va_X b L xs (jS E) (jS E).heap) (hbl : b < (jS E).heap.size) (hbA : ¬ jA E b) (hx3 : x3 = nI i0) (hi0 : i0 + 7 ≤ L) (hL : L ≤ 3584) (σc σm : ST) (hr : Rel (gT G) σc σm) (hfit : kc ≤ 600000 ∧ ks ≤ 7302250) (kk : ∀ c1 m1 : ST, Rel (gT G) c1 m1 → JR E 4 Q [(0, .ref b), (1, .ref (gO G 0)), (2, .ref (gO GM 50)), (3, .int x3)] 1524 [] (wC G c1 ++ wM GM m1) kc ks) : JR E 4 Q [(0, .ref b), (1, .ref (gO G 0)), (2, .ref (gO GM 50)), (3, .int x3)] 1375 [] (wC G σc ++ wM GM σm) kc ks := by
  have hin : ∀ k : Nat, k < 7 → vp_in (x3 + Int32.ofNat k) L := fun k hk => by
    rw [hx3]
    show vp_in (nI i0 + nI k) L
    rw [nI_add]
    exact vp_in_nI (by omega) (by omega)
  obtain ⟨a, c1, m1, h1, h2, h3⟩ := hP (gT G) σc σm (xs (x3 + (1 : Int32)).toNatClampNeg) (xs (x3 + (2 : Int32)).toNatClampNeg) (xs (x3 + (3 : Int32)).toNatClampNeg) (xs (x3 + (4 : Int32)).toNatClampNeg) (xs (x3 + (5 : Int32)).toNatClampNeg) hr
  refine R_aload_n X 1 dL_law_1375 rfl rfl ?_
  refine R_aload_n X 0 dL_law_1376 rfl rfl ?_
  refine R_iload_n X 3 dL_law_1377 rfl rfl ?_
  refine R_iconst (v := (1 : Int32)) X dL_law_1378 (by decide) ?_
  refine R_iadd X dL_law_1379 ?_
  refine R_sld X hX hbl hbA (hin 1 (by decide)) dL_law_1380 ?_
  refine R_aload_n X 0 dL_law_1381 rfl rfl ?_
  refine R_iload_n X 3 dL_law_1382 rfl rfl ?_
  refine R_iconst (v := (2 : Int32)) X dL_law_1383 (by decide) ?_
  refine R_iadd X dL_law_1384 ?_
  refine R_sld X hX hbl hbA (hin 2 (by decide)) dL_law_1385 ?_
  refine R_aload_n X 0 dL_law_1386 rfl rfl ?_
  refine R_iload_n X 3 dL_law_1387 rfl rfl ?_
  refine R_iconst (v := (3 : Int32)) X dL_law_1388 (by decide) ?_
  refine R_iadd X dL_law_1389 ?_
  refine R_sld X hX hbl hbA (hin 3 (by decide)) dL_law_1390 ?_
  refine R_aload_n X 0 dL_law_1391 rfl rfl ?_
  refine R_iload_n X 3 dL_law_1392 rfl rfl ?_
  refine R_iconst (v := (4 : Int32)) X dL_law_1393 (by decide) ?_
  refine R_iadd X dL_law_1394 ?_
  refine R_sld X hX hbl hbA (hin 4 (by decide)) dL_law_1395 ?_
  refine R_aload_n X 0 dL_law_1396 rfl rfl ?_
  refine R_iload_n X 3 dL_law_1397 rfl rfl ?_
  refine R_iconst (v := (5 : Int32)) X dL_law_1398 (by decide) ?_
  refine R_iadd X dL_law_1399 ?_
  refine R_sld X hX hbl hbA (hin 5 (by decide)) dL_law_1400 ?_
  refine L_c (As := [.int (xs (x3 + (1 : Int32)).toNatClampNeg), .int (xs (x3 + (2 : Int32)).toNatClampNeg), .int (xs (x3 + (3 : Int32)).toNatClampNeg), .int (xs (x3 + (4 : Int32)).toNatClampNeg), .int (xs (x3 + (5 : Int32)).toNatClampNeg)]) (st := []) X e1 e2 g (c_X4_copy G (xs (x3 + (1 : Int32)).toNatClampNeg) (xs (x3 + (2 : Int32)).toNatClampNeg) (xs (x3 + (3 : Int32)).toNatClampNeg) (xs (x3 + (4 : Int32)).toNatClampNeg) (xs (x3 + (5 : Int32)).toNatClampNeg) σc) h1 rfl rfl wi_X4_copy win_X4_copy wse_X4_copy wml_RL_154 ⟨(Nat.le_of_ble_eq_true rfl), (Nat.le_of_ble_eq_true rfl)⟩ hfit rfl (Nat.le_of_ble_eq_true rfl) dL_law_1401 ?_
  refine R_aload_n X 2 dL_law_1404 rfl rfl ?_
  refine R_aload_n X 0 dL_law_1405 rfl rfl ?_
  refine R_iload_n X 3 dL_law_1406 rfl rfl ?_
  refine R_iconst (v := (1 : Int32)) X dL_law_1407 (by decide) ?_
  refine R_iadd X dL_law_1408 ?_
  refine R_sld X hX hbl hbA (hin 1 (by decide)) dL_law_1409 ?_
  refine R_aload_n X 0 dL_law_1410 rfl rfl ?_
  refine R_iload_n X 3 dL_law_1411 rfl rfl ?_
  refine R_iconst (v := (2 : Int32)) X dL_law_1412 (by decide) ?_
  refine R_iadd X dL_law_1413 ?_
  refine R_sld X hX hbl hbA (hin 2 (by decide)) dL_law_1414 ?_
  refine R_aload_n X 0 dL_law_1415 rfl rfl ?_
  refine R_iload_n X 3 dL_law_1416 rfl rfl ?_
  refine R_iconst (v := (3 : Int32)) X dL_law_1417 (by decide) ?_
  refine R_iadd X dL_law_1418 ?_
  refine R_sld X hX hbl hbA (hin 3 (by decide)) dL_law_1419 ?_
  refine R_aload_n X 0 dL_law_1420 rfl rfl ?_
  refine R_iload_n X 3 dL_law_1421 rfl rfl ?_
  refine R_iconst (v := (4 : Int32)) X dL_law_1422 (by decide) ?_
  refine R_iadd X dL_law_1423 ?_
  refine R_sld X hX hbl hbA (hin 4 (by decide)) dL_law_1424 ?_
  refine R_aload_n X 0 dL_law_1425 rfl rfl ?_
  refine R_iload_n X 3 dL_law_1426 rfl rfl ?_
  refine R_iconst (v := (5 : Int32)) X dL_law_1427 (by decide) ?_
  refine R_iadd X dL_law_1428 ?_
  refine R_sld X hX hbl hbA (hin 5 (by decide)) dL_law_1429 ?_
  refine L_m (As := [.int (xs (x3 + (1 : Int32)).toNatClampNeg), .int (xs (x3 + (2 : Int32)).toNatClampNeg), .int (xs (x3 + (3 : Int32)).toNatClampNeg), .int (xs (x3 + (4 : Int32)).toNatClampNeg), .int (xs (x3 + (5 : Int32)).toNatClampNeg)]) (st := [.int a]) X e1 e2 gm (c_X5_copy GM (xs (x3 + (1 : Int32)).toNatClampNeg) (xs (x3 + (2 : Int32)).toNatClampNeg) (xs (x3 + (3 : Int32)).toNatClampNeg) (xs (x3 + (4 : Int32)).toNatClampNeg) (xs (x3 + (5 : Int32)).toNatClampNeg) σm) h2 rfl rfl wi_X5_copy win_X5_copy wse_X5_copy wml_RL_157 ⟨(Nat.le_of_ble_eq_true rfl), (Nat.le_of_ble_eq_true rfl)⟩ hfit rfl (Nat.le_of_ble_eq_true rfl) dL_law_1430 ?_
  refine R_icmp_eqs (tgt := 1524) X dL_law_1433 (by decide) ?_
  exact kk c1 m1 h3
set_option maxRecDepth 100000 in
set_option maxHeartbeats 4000000 in
theorem lc_34 {Rel : TX → ST → ST → Prop} (hP : PS_34 Rel) {E : JE} {Q : State → Prop} {G0 G GM : JG} {W0 : ST → va_W} {b L : Nat} {xs : Nat → Int32} {kc ks i0 : Nat} {x3 : Int32} (X : XR E 4 cL_law RL (some .boolean) 2048 84000 600000 7302250 (gI G0)) (e1 : jL E = G0.1) (e2 : jV E = VI G0 W0) (g : LGp G0 G) (gm : LGp G0 GM) (hX : va_X b L xs (jS E) (jS E).heap) (hbl : b < (jS E).heap.size) (hbA : ¬ jA E b) (hx3 : x3 = nI i0) (hi0 : i0 + 7 ≤ L) (hL : L ≤ 3584) (σc σm : ST) (hr : Rel (gT G) σc σm) (hfit : kc ≤ 600000 ∧ ks ≤ 7302250) (kk : ∀ c1 m1 : ST, Rel (gT G) c1 m1 → JR E 4 Q [(0, .ref b), (1, .ref (gO G 0)), (2, .ref (gO GM 50)), (3, .int x3)] 1524 [] (wC G c1 ++ wM GM m1) kc ks) : JR E 4 Q [(0, .ref b), (1, .ref (gO G 0)), (2, .ref (gO GM 50)), (3, .int x3)] 1438 [] (wC G σc ++ wM GM σm) kc ks := by
  have hin : ∀ k : Nat, k < 7 → vp_in (x3 + Int32.ofNat k) L := fun k hk => by
    rw [hx3]
    show vp_in (nI i0 + nI k) L
    rw [nI_add]
    exact vp_in_nI (by omega) (by omega)
  obtain ⟨a, c1, m1, h1, h2, h3⟩ := hP (gT G) σc σm (xs (x3 + (1 : Int32)).toNatClampNeg) (xs (x3 + (2 : Int32)).toNatClampNeg) (xs (x3 + (3 : Int32)).toNatClampNeg) (xs (x3 + (4 : Int32)).toNatClampNeg) hr
  refine R_aload_n X 1 dL_law_1438 rfl rfl ?_
  refine R_aload_n X 0 dL_law_1439 rfl rfl ?_
  refine R_iload_n X 3 dL_law_1440 rfl rfl ?_
  refine R_iconst (v := (1 : Int32)) X dL_law_1441 (by decide) ?_
  refine R_iadd X dL_law_1442 ?_
  refine R_sld X hX hbl hbA (hin 1 (by decide)) dL_law_1443 ?_
  refine R_aload_n X 0 dL_law_1444 rfl rfl ?_
  refine R_iload_n X 3 dL_law_1445 rfl rfl ?_
  refine R_iconst (v := (2 : Int32)) X dL_law_1446 (by decide) ?_
  refine R_iadd X dL_law_1447 ?_
  refine R_sld X hX hbl hbA (hin 2 (by decide)) dL_law_1448 ?_
  refine R_aload_n X 0 dL_law_1449 rfl rfl ?_
  refine R_iload_n X 3 dL_law_1450 rfl rfl ?_
  refine R_iconst (v := (3 : Int32)) X dL_law_1451 (by decide) ?_
  refine R_iadd X dL_law_1452 ?_
  refine R_sld X hX hbl hbA (hin 3 (by decide)) dL_law_1453 ?_
  refine R_aload_n X 0 dL_law_1454 rfl rfl ?_
  refine R_iload_n X 3 dL_law_1455 rfl rfl ?_
  refine R_iconst (v := (4 : Int32)) X dL_law_1456 (by decide) ?_
  refine R_iadd X dL_law_1457 ?_
  refine R_sld X hX hbl hbA (hin 4 (by decide)) dL_law_1458 ?_
  refine L_c (As := [.int (xs (x3 + (1 : Int32)).toNatClampNeg), .int (xs (x3 + (2 : Int32)).toNatClampNeg), .int (xs (x3 + (3 : Int32)).toNatClampNeg), .int (xs (x3 + (4 : Int32)).toNatClampNeg)]) (st := []) X e1 e2 g (c_X4_setBy G (xs (x3 + (1 : Int32)).toNatClampNeg) (xs (x3 + (2 : Int32)).toNatClampNeg) (xs (x3 + (3 : Int32)).toNatClampNeg) (xs (x3 + (4 : Int32)).toNatClampNeg) σc) h1 rfl rfl wi_X4_setBy win_X4_setBy wse_X4_setBy wml_RL_158 ⟨(Nat.le_of_ble_eq_true rfl), (Nat.le_of_ble_eq_true rfl)⟩ hfit rfl (Nat.le_of_ble_eq_true rfl) dL_law_1459 ?_
  refine R_aload_n X 2 dL_law_1462 rfl rfl ?_
  refine R_aload_n X 0 dL_law_1463 rfl rfl ?_
  refine R_iload_n X 3 dL_law_1464 rfl rfl ?_
  refine R_iconst (v := (1 : Int32)) X dL_law_1465 (by decide) ?_
  refine R_iadd X dL_law_1466 ?_
  refine R_sld X hX hbl hbA (hin 1 (by decide)) dL_law_1467 ?_
  refine R_aload_n X 0 dL_law_1468 rfl rfl ?_
  refine R_iload_n X 3 dL_law_1469 rfl rfl ?_
  refine R_iconst (v := (2 : Int32)) X dL_law_1470 (by decide) ?_
  refine R_iadd X dL_law_1471 ?_
  refine R_sld X hX hbl hbA (hin 2 (by decide)) dL_law_1472 ?_
  refine R_aload_n X 0 dL_law_1473 rfl rfl ?_
  refine R_iload_n X 3 dL_law_1474 rfl rfl ?_
  refine R_iconst (v := (3 : Int32)) X dL_law_1475 (by decide) ?_
  refine R_iadd X dL_law_1476 ?_
  refine R_sld X hX hbl hbA (hin 3 (by decide)) dL_law_1477 ?_
  refine R_aload_n X 0 dL_law_1478 rfl rfl ?_
  refine R_iload_n X 3 dL_law_1479 rfl rfl ?_
  refine R_iconst (v := (4 : Int32)) X dL_law_1480 (by decide) ?_
  refine R_iadd X dL_law_1481 ?_
  refine R_sld X hX hbl hbA (hin 4 (by decide)) dL_law_1482 ?_
  refine L_m (As := [.int (xs (x3 + (1 : Int32)).toNatClampNeg), .int (xs (x3 + (2 : Int32)).toNatClampNeg), .int (xs (x3 + (3 : Int32)).toNatClampNeg), .int (xs (x3 + (4 : Int32)).toNatClampNeg)]) (st := [.int a]) X e1 e2 gm (c_X5_setBy GM (xs (x3 + (1 : Int32)).toNatClampNeg) (xs (x3 + (2 : Int32)).toNatClampNeg) (xs (x3 + (3 : Int32)).toNatClampNeg) (xs (x3 + (4 : Int32)).toNatClampNeg) σm) h2 rfl rfl wi_X5_setBy win_X5_setBy wse_X5_setBy wml_RL_161 ⟨(Nat.le_of_ble_eq_true rfl), (Nat.le_of_ble_eq_true rfl)⟩ hfit rfl (Nat.le_of_ble_eq_true rfl) dL_law_1483 ?_
  refine R_icmp_eqs (tgt := 1524) X dL_law_1486 (by decide) ?_
  exact kk c1 m1 h3
set_option maxRecDepth 100000 in
set_option maxHeartbeats 4000000 in
theorem lc_35 {Rel : TX → ST → ST → Prop} (hP : PS_35 Rel) {E : JE} {Q : State → Prop} {G0 G GM : JG} {W0 : ST → va_W} {b L : Nat} {xs : Nat → Int32} {kc ks i0 : Nat} {x3 : Int32} (X : XR E 4 cL_law RL (some .boolean) 2048 84000 600000 7302250 (gI G0)) (e1 : jL E = G0.1) (e2 : jV E = VI G0 W0) (g : LGp G0 G) (gm : LGp G0 GM) (hX : va_X b L xs (jS E) (jS E).heap) (hbl : b < (jS E).heap.size) (hbA : ¬ jA E b) (hx3 : x3 = nI i0) (hi0 : i0 + 7 ≤ L) (hL : L ≤ 3584) (σc σm : ST) (hr : Rel (gT G) σc σm) (hfit : kc ≤ 600000 ∧ ks ≤ 7302250) (kk : ∀ c1 m1 : ST, Rel (gT G) c1 m1 → JR E 4 Q [(0, .ref b), (1, .ref (gO G 0)), (2, .ref (gO GM 50)), (3, .int x3)] 1524 [] (wC G c1 ++ wM GM m1) kc ks) : JR E 4 Q [(0, .ref b), (1, .ref (gO G 0)), (2, .ref (gO GM 50)), (3, .int x3)] 1491 [] (wC G σc ++ wM GM σm) kc ks := by
  have hin : ∀ k : Nat, k < 7 → vp_in (x3 + Int32.ofNat k) L := fun k hk => by
    rw [hx3]
    show vp_in (nI i0 + nI k) L
    rw [nI_add]
    exact vp_in_nI (by omega) (by omega)
  obtain ⟨a, c1, m1, h1, h2, h3⟩ := hP (gT G) σc σm (xs (x3 + (1 : Int32)).toNatClampNeg) (xs (x3 + (2 : Int32)).toNatClampNeg) hr
  refine R_aload_n X 1 dL_law_1491 rfl rfl ?_
  refine R_aload_n X 0 dL_law_1492 rfl rfl ?_
  refine R_iload_n X 3 dL_law_1493 rfl rfl ?_
  refine R_iconst (v := (1 : Int32)) X dL_law_1494 (by decide) ?_
  refine R_iadd X dL_law_1495 ?_
  refine R_sld X hX hbl hbA (hin 1 (by decide)) dL_law_1496 ?_
  refine R_aload_n X 0 dL_law_1497 rfl rfl ?_
  refine R_iload_n X 3 dL_law_1498 rfl rfl ?_
  refine R_iconst (v := (2 : Int32)) X dL_law_1499 (by decide) ?_
  refine R_iadd X dL_law_1500 ?_
  refine R_sld X hX hbl hbA (hin 2 (by decide)) dL_law_1501 ?_
  refine L_c (As := [.int (xs (x3 + (1 : Int32)).toNatClampNeg), .int (xs (x3 + (2 : Int32)).toNatClampNeg)]) (st := []) X e1 e2 g (c_X4_taken G (xs (x3 + (1 : Int32)).toNatClampNeg) (xs (x3 + (2 : Int32)).toNatClampNeg) σc) h1 rfl rfl wi_X4_taken win_X4_taken wse_X4_taken wml_RL_162 ⟨(Nat.le_of_ble_eq_true rfl), (Nat.le_of_ble_eq_true rfl)⟩ hfit rfl (Nat.le_of_ble_eq_true rfl) dL_law_1502 ?_
  refine R_aload_n X 2 dL_law_1505 rfl rfl ?_
  refine R_aload_n X 0 dL_law_1506 rfl rfl ?_
  refine R_iload_n X 3 dL_law_1507 rfl rfl ?_
  refine R_iconst (v := (1 : Int32)) X dL_law_1508 (by decide) ?_
  refine R_iadd X dL_law_1509 ?_
  refine R_sld X hX hbl hbA (hin 1 (by decide)) dL_law_1510 ?_
  refine R_aload_n X 0 dL_law_1511 rfl rfl ?_
  refine R_iload_n X 3 dL_law_1512 rfl rfl ?_
  refine R_iconst (v := (2 : Int32)) X dL_law_1513 (by decide) ?_
  refine R_iadd X dL_law_1514 ?_
  refine R_sld X hX hbl hbA (hin 2 (by decide)) dL_law_1515 ?_
  refine L_m (As := [.int (xs (x3 + (1 : Int32)).toNatClampNeg), .int (xs (x3 + (2 : Int32)).toNatClampNeg)]) (st := [.int a]) X e1 e2 gm (c_X5_taken GM (xs (x3 + (1 : Int32)).toNatClampNeg) (xs (x3 + (2 : Int32)).toNatClampNeg) σm) h2 rfl rfl wi_X5_taken win_X5_taken wse_X5_taken wml_RL_165 ⟨(Nat.le_of_ble_eq_true rfl), (Nat.le_of_ble_eq_true rfl)⟩ hfit rfl (Nat.le_of_ble_eq_true rfl) dL_law_1516 ?_
  refine R_icmp_eqs (tgt := 1524) X dL_law_1519 (by decide) ?_
  exact kk c1 m1 h3
