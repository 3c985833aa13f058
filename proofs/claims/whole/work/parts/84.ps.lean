section PPs3
variable {S : LW} {T : TX} {c m c1 m1 : ST} {v v' : VS} {hs hs' : HS}
def pAl (o k : Nat) : Prop := o = 50 ∧ (k = 3 ∨ k = 4 ∨ k = 27 ∨ k = 28 ∨ k = 29 ∨ k = 30)
theorem okM_al : okM pAl := by
  unfold okM pAl
  refine ⟨?_, ?_, ?_, ?_, ?_, ?_, ?_, ?_, ?_⟩ <;> decide
theorem g14_al : ¬ pAl 50 14 ∧ ¬ pAl 50 15 ∧ ¬ pAl 50 16 := by unfold pAl; decide
theorem pGo_al (o k : Nat) (h : pGo o k) : pAl o k := ⟨h.1, by have := h.2; omega⟩
theorem pKeep_al (o k : Nat) (h : pKeep o k) : pAl o k := ⟨h.1, by have := h.2; omega⟩
theorem pPass_al (o k : Nat) (h : pPass o k) : pAl o k := ⟨h.1, by have := h.2; omega⟩
theorem pRun_al (o k : Nat) (h : pRun o k) : pAl o k := ⟨h.1, by have := h.2; omega⟩
theorem pSay_al (o k : Nat) (h : pSay o k) : pAl o k := ⟨h.1, by have := h.2; omega⟩
/-- what an evening tells is what the sheet's sort says -/
theorem ev_ok (h : RelV T c m v hs) {s : Nat} (hs4 : s < 4) : HC c hs ∧ HM m hs := ⟨h.hc, h.hm⟩
theorem m_ev_thought (h : CM S (tN T) m v) (hh : HM m hs) {s : Nat} (hs4 : s < 4) (hok : ∀ i, i < hs.2.1 s → celOk (sN v) (hs.2.2 s i)) : ∃ m1 m2 m3, f_X5_keeps m = some ((), m1) ∧ f_X5_goes (nI s) m1 = some ((), m2) ∧ CM S (tN T) m2 (evS S (hs.2.2 s) (hs.2.1 s) v).2 ∧ EV m2 (evS S (hs.2.2 s) (hs.2.1 s) v).1 ∧ f_X5_lays m2 = some ((), m3) ∧ CM S (tN T) m3 v ∧ fr pAl m m3 := by
  obtain ⟨m1, e1, d1, k1, f1⟩ := m_keeps h
  obtain ⟨m2, e2, d2, w2, f2⟩ := m_goes d1 (hh.fr f1 g14_keep) hs4 hok
  obtain ⟨m3, e3, d3, f3⟩ := m_lays d2 (k1.fr f2 (by unfold pGo; decide)) (sX_ev _ _ _ _)
  exact ⟨m1, m2, m3, e1, e2, d2, w2, e3, d3, ((f1.mono pKeep_al).trans (f2.mono pGo_al)).trans (f3.mono pPass_al)⟩
theorem c_ev_thought (h : CC S T 2 c v) (hh : HC c hs) {s : Nat} (hs4 : s < 4) (hok : ∀ i, i < hs.2.1 s → celOk (sN v) (hs.2.2 s i)) (w x4 x5 : Int32) : ∃ c1, f_X4_evening_L70 T (nI s) w x4 x5 c = f_X4_evening_L206 T w x4 x5 (evS S (hs.2.2 s) (hs.2.1 s) v).1.1 (evS S (hs.2.2 s) (hs.2.1 s) v).1.2.1 (evS S (hs.2.2 s) (hs.2.1 s) v).1.2.2.1 (evS S (hs.2.2 s) (hs.2.1 s) v).1.2.2.2 c1 ∧ CC S T 3 c1 (evS S (hs.2.2 s) (hs.2.1 s) v).2 ∧ fr (pCo 3) c c1 := by
  obtain ⟨c1, e1, d1, d2, f1⟩ := c_think h
  obtain ⟨c2, e2, d3, f2⟩ := c_evening_L (hs := hs) hs4 hok w x4 x5 (hs.2.1 s) 1000 0 c1 ((0, 0, 0, -1), v) d1 (hh.fr f1 g5_3) rfl (Or.inl rfl) (Nat.zero_add _) (by have := (hh s hs4).2.2.1; omega)
  unfold f_X4_evening_L70
  rw [chk_nI (by omega) (by omega), e1, bnd_some, nI_clamp (by omega)]
  exact ⟨c2, e2, d3, f1.trans f2⟩
theorem ps_14 : PS_14 Rel := by
  rintro T c m v1 v2 ⟨v, hs, h⟩
  have h6 := h.n6
  unfold f_X4_evening f_X5_evening
  by_cases h1 : ∃ k, k < 4 ∧ v1 = nI k
  · obtain ⟨s, hs4, rfl⟩ := h1
    rw [c_refusesEvening_yes h.cc.1 h6 h.hc hs4, m_eveningWrong_yes h.cm h.hm hs4, bnd_some, bnd_some]
    by_cases h0 : ewS (sN v) hs s = 0
    · rw [if_pos h0, if_pos h0]
      obtain ⟨-, hok⟩ := ewS_0 h0
      obtain ⟨m1, m2, m3, e1, e2, d2, w2, e3, d3, F⟩ := m_ev_thought (T := T) h.cm h.hm hs4 hok
      have a9 : (9 : Int32) + nI (sN v) = nI (9 + sN v) := nI_add 9 _
      have a19 : (19 : Int32) + nI (sN v) = nI (19 + sN v) := nI_add 19 _
      have hN2 : sN (evS (SofT T) (hs.2.2 s) (hs.2.1 s) v).2 = sN v := sX_N (sX_ev _ _ _ _)
      rw [h.cc.1.1, a9]
      unfold f_X5_evening_L56 f_X5_evening_L123 f_X5_evening_L125
      by_cases q3 : 0 ≤ v2 ∧ v2 ≤ 3
      · obtain ⟨k, hk, rfl⟩ := (in_nI (n := 3) (by omega)).mp q3
        have n1 : ¬ ((10 : Int32) ≤ nI k ∧ nI k ≤ nI (9 + sN v)) := fun g => nI_ge (b := 10) (a := k) (by omega) (by omega) g.1
        have n2 : ¬ ((20 : Int32) ≤ nI k ∧ nI k ≤ nI (19 + sN v)) := fun g => nI_ge (b := 20) (a := k) (by omega) (by omega) g.1
        obtain ⟨c1, g1, g2, g3⟩ := c_ev_thought h.cc h.hc hs4 hok (nI k) 0 0
        rw [c_within_no n1, bnd_some, h.cc.1.1, a19, c_within_no n2, bnd_some, c_within_yes q3, bnd_some, if_neg one_ne0, m_in_yes m q3, bnd_some, if_neg one_ne0, e1, bnd_some, e2, bnd_some, if_neg (c := (4 : Int32) ≤ nI k) (nI_ge (b := 4) (by omega) (by omega)), ald_nI (by omega) (by omega), e3, bnd_some, g1]
        unfold f_X4_evening_L206 f_X4_evening_L273
        rw [if_pos rfl, if_pos rfl]
        refine Rel.mk (h.keep g3 okC_3 g5_3 F okM_al g14_al (h.cc.k2 g3 (fun k hk => pCo3_2 hk)) d3).rel (a := ga 50 30 m2 k) ?_ rfl
        rcases (show k = 0 ∨ k = 1 ∨ k = 2 ∨ k = 3 by omega) with rfl | rfl | rfl | rfl
        · rw [if_pos (by rfl), w2.1]
        · rw [if_neg (by decide), if_pos (by rfl), w2.2.1]
        · rw [if_neg (by decide), if_neg (by decide), if_pos (by rfl), w2.2.2.1]
        · rw [if_neg (by decide), if_neg (by decide), if_neg (by decide), w2.2.2.2]
      · by_cases q10 : 10 ≤ v2 ∧ v2 ≤ nI (9 + sN v)
        · have hx : ∃ p, p < sN v ∧ v2 = nI (10 + p) := by
            obtain ⟨j, hj, e⟩ := (in_nI (n := 9 + sN v) (by omega)).mp ⟨Int32.le_trans (by decide) q10.1, q10.2⟩
            have : 10 ≤ j := (nI_leI (a := 10) (b := j) (by omega) (by omega)).mp (by rw [e] at q10; exact q10.1)
            exact ⟨j - 10, (by omega), by rw [e, show 10 + (j - 10) = j by omega]⟩
          obtain ⟨p, hp, rfl⟩ := hx
          have n2 : ¬ ((20 : Int32) ≤ nI (10 + p) ∧ nI (10 + p) ≤ nI (19 + sN v)) := fun g => nI_ge (b := 20) (a := 10 + p) (by omega) (by omega) g.1
          have es : nI (10 + p) - 10 = nI p := by
            show nI (10 + p) - nI 10 = _
            rw [nI_sub (by omega), Nat.add_sub_cancel_left]
          obtain ⟨c1, g1, g2, g3⟩ := c_ev_thought h.cc h.hc hs4 hok (nI (10 + p)) 1 0
          rw [c_within_yes q10, bnd_some, h.cc.1.1, a19, c_within_no n2, bnd_some, c_within_no q3, bnd_some, if_pos rfl, if_neg one_ne0, m_in_no m q3, bnd_some, if_pos rfl, h.cm.1.1, a9, m_in_yes m q10, bnd_some, if_neg one_ne0, e1, bnd_some, e2, bnd_some, if_pos (c := (4 : Int32) ≤ nI (10 + p)) (nI_le (a := 4) (by omega) (by omega)), if_neg (c := (20 : Int32) ≤ nI (10 + p)) (nI_ge (b := 20) (by omega) (by omega)), es, iM8, ald_nI (by omega) (by omega), e3, bnd_some, d2.1.row (by omega), g1]
          unfold f_X4_evening_L206
          rw [if_neg one_ne0, es, ald_nI (by omega) (by omega), g2.1.wit (by omega)]
          exact Rel.mk (h.keep g3 okC_3 g5_3 F okM_al g14_al (h.cc.k2 g3 (fun k hk => pCo3_2 hk)) d3).rel rfl rfl
        · by_cases q20 : 20 ≤ v2 ∧ v2 ≤ nI (19 + sN v)
          · have hx : ∃ p, p < sN v ∧ v2 = nI (20 + p) := by
              obtain ⟨j, hj, e⟩ := (in_nI (n := 19 + sN v) (by omega)).mp ⟨Int32.le_trans (by decide) q20.1, q20.2⟩
              have : 20 ≤ j := (nI_leI (a := 20) (b := j) (by omega) (by omega)).mp (by rw [e] at q20; exact q20.1)
              exact ⟨j - 20, (by omega), by rw [e, show 20 + (j - 20) = j by omega]⟩
            obtain ⟨p, hp, rfl⟩ := hx
            have es : nI (20 + p) - 20 = nI p := by
              show nI (20 + p) - nI 20 = _
              rw [nI_sub (by omega), Nat.add_sub_cancel_left]
            obtain ⟨c1, g1, g2, g3⟩ := c_ev_thought h.cc h.hc hs4 hok (nI (20 + p)) 0 1
            rw [c_within_no q10, bnd_some, h.cc.1.1, a19, c_within_yes q20, bnd_some, c_within_no q3, bnd_some, if_pos rfl, if_pos rfl, if_neg one_ne0, m_in_no m q3, bnd_some, if_pos rfl, h.cm.1.1, a9, m_in_no m q10, bnd_some, if_pos rfl, h.cm.1.1, a19, m_in_yes m q20, bnd_some, if_neg one_ne0, e1, bnd_some, e2, bnd_some, if_pos (c := (4 : Int32) ≤ nI (20 + p)) (nI_le (a := 4) (by omega) (by omega)), if_pos (c := (20 : Int32) ≤ nI (20 + p)) (nI_le (a := 20) (by omega) (by omega)), es, iM9, ald_nI (by omega) (by omega), e3, bnd_some, d2.1.row (by omega), g1]
            unfold f_X4_evening_L206
            rw [if_pos rfl, if_neg one_ne0, es, ald_nI (by omega) (by omega), g2.1.sand (by omega)]
            exact Rel.mk (h.keep g3 okC_3 g5_3 F okM_al g14_al (h.cc.k2 g3 (fun k hk => pCo3_2 hk)) d3).rel rfl rfl
          · rw [c_within_no q10, bnd_some, h.cc.1.1, a19, c_within_no q20, bnd_some, c_within_no q3, bnd_some, if_pos rfl, if_pos rfl, if_pos rfl, m_in_no m q3, bnd_some, if_pos rfl, h.cm.1.1, a9, m_in_no m q10, bnd_some, if_pos rfl, h.cm.1.1, a19, m_in_no m q20, bnd_some, if_pos rfl]
            exact h.rel.same rfl rfl
    · rw [if_neg h0, if_neg h0]
      exact h.rel.same rfl rfl
  · rw [c_refusesEvening_no h1, m_eveningWrong_no h1, bnd_some, bnd_some, if_neg (by decide), if_neg (by decide)]
    exact h.rel.same rfl rfl
theorem sT_try (S : LW) (x : Int32) (v : VS) : sT (tryS S x v).2 = sT v := by
  unfold tryS
  split
  · rfl
  · split
    · exact sT_take _ _ _ _
    · rfl
theorem sT_min (S : LW) (x : Int32) (v : VS) : sT (minS1 S x v) = sT v + 1 := (sT_pass _).trans (by rw [sT_try])
theorem sT_ev (S : LW) (cs : Nat → Int32) : ∀ (r k : Nat) (a : EV4 × VS), sT (fold (fun k a => evS1 S (cs k) k a) r k a).2 = sT a.2 + nI r := by
  intro r
  induction r with
  | zero => intro k a; exact (add_0 _).symm
  | succ r ih =>
    intro k a
    rw [fold, ih]
    have e : sT (evS1 S (cs k) k a).2 = sT a.2 + 1 := sT_min S (cs k) a.2
    rw [e, Int32.add_assoc, show (1 : Int32) + nI r = nI (1 + r) from nI_add 1 r, Nat.add_comm]
theorem ps_15 : PS_15 Rel := by
  rintro T c m v1 ⟨v, hs, h⟩
  have h6 := h.n6
  unfold f_X4_spend f_X5_spend
  by_cases h1 : ∃ k, k < 4 ∧ v1 = nI k
  · obtain ⟨s, hs4, rfl⟩ := h1
    rw [c_refusesEvening_yes h.cc.1 h6 h.hc hs4, m_eveningWrong_yes h.cm h.hm hs4, bnd_some, bnd_some]
    by_cases h0 : ewS (sN v) hs s = 0
    · rw [if_pos h0, if_pos h0]
      obtain ⟨-, hok⟩ := ewS_0 h0
      obtain ⟨k, hk, ek⟩ := h.tm
      have hz := (h.hc s hs4).2.2.1
      rw [chk_nI (by omega) (by omega), nI_clamp (by omega), ald_nI (by omega) (by omega), h.cc.1.2.1, h.cm.1.2.1, (h.hc s hs4).2.1, (h.hm s hs4).2.1, ek, nI_add]
      by_cases h9 : k + hs.2.1 s ≤ 999
      · rw [if_pos (c := nI (k + hs.2.1 s) ≤ (999 : Int32)) (nI_le (b := 999) h9 (by omega)), if_pos (c := nI (k + hs.2.1 s) ≤ (999 : Int32)) (nI_le (b := 999) h9 (by omega))]
        obtain ⟨c1, e1, d1, f1⟩ := c_spend_L (hs := hs) hs4 hok (hs.2.1 s) 1000 0 c ((0, 0, 0, -1), v) h.cc h.hc rfl (Nat.zero_add _) (by omega)
        obtain ⟨m1, e2, d2, w2, f2⟩ := m_goes h.cm h.hm hs4 hok
        rw [show f_X4_spend_L46 T 1000 (5 + s) 0 0 c = _ from e1, e2, bnd_some, ald_lit (by decide) (by decide), w2.1]
        exact Rel.mk (h.stepX f1 okC_2 g5_2 f2 okM_go g14_go d1 d2 (sX_ev _ _ _ _) ⟨k + hs.2.1 s, h9, (sT_ev _ _ _ _ _).trans (by rw [show sT (((0, 0, 0, -1), v) : EV4 × VS).2 = sT v from rfl, ek, nI_add])⟩).rel rfl rfl
      · rw [if_neg (c := nI (k + hs.2.1 s) ≤ (999 : Int32)) (nI_ge (a := 999) (by omega) (by omega)), if_neg (c := nI (k + hs.2.1 s) ≤ (999 : Int32)) (nI_ge (a := 999) (by omega) (by omega))]
        exact h.rel.same rfl rfl
    · rw [if_neg h0, if_neg h0]
      exact h.rel.same rfl rfl
  · rw [c_refusesEvening_no h1, m_eveningWrong_no h1, bnd_some, bnd_some, if_neg (by decide), if_neg (by decide)]
    exact h.rel.same rfl rfl
theorem ps_16 : PS_16 Rel := by
  rintro T c m v1 v2 v3 ⟨v, hs, h⟩
  have h6 := h.n6
  unfold f_X4_plan f_X5_plan f_X4_plan_L33 f_X5_plan_L30
  by_cases h1 : ∃ k, k < sN v ∧ v1 = nI k
  · obtain ⟨p, hp, rfl⟩ := h1
    rw [c_has_yes h.cc.1 h6 hp, m_isOne_yes h.cm hp, bnd_some, bnd_some, if_neg one_ne0, if_neg one_ne0]
    by_cases h2 : 0 ≤ v2 ∧ v2 ≤ 60
    · obtain ⟨M, hM, rfl⟩ := (in_nI (n := 60) (by omega)).mp h2
      rw [c_within_yes h2, m_in_yes m h2, bnd_some, bnd_some, if_neg one_ne0, if_neg one_ne0]
      by_cases h3 : 0 ≤ v3 ∧ v3 ≤ 1
      · rw [c_within_yes h3, m_in_yes m h3, bnd_some, bnd_some, if_neg one_ne0, if_neg one_ne0]
        obtain ⟨c1, e1, d1, f1⟩ := c_plan h.cc hp hM v3
        obtain ⟨m1, e2, d2, f2⟩ := m_plan h.cm h.iv hp hM v3
        rw [e1, e2]
        exact Rel.mk (h.keep f1 okC_bs g5_bs f2 okM_pl g14_pl d1 d2).rel rfl rfl
      · rw [c_within_no h3, m_in_no m h3, bnd_some, bnd_some, if_pos rfl, if_pos rfl]
        exact h.rel.same rfl rfl
    · rw [c_within_no h2, m_in_no m h2, bnd_some, bnd_some, if_pos rfl, if_pos rfl]
      exact h.rel.same rfl rfl
  · rw [c_has_no h.cc.1 h6 h1, m_isOne_no h.cm h1, bnd_some, bnd_some, if_pos rfl, if_pos rfl]
    exact h.rel.same rfl rfl
theorem ps_17 : PS_17 Rel := by
  rintro T c m v1 v2 ⟨v, hs, h⟩
  have h6 := h.n6
  unfold f_X4_which f_X5_which
  by_cases h1 : ∃ k, k < sN v ∧ v1 = nI k
  · obtain ⟨p, hp, rfl⟩ := h1
    rw [c_has_yes h.cc.1 h6 hp, m_isOne_yes h.cm hp, bnd_some, bnd_some, if_neg one_ne0, if_neg one_ne0]
    by_cases h3 : 0 ≤ v2 ∧ v2 ≤ 1
    · rw [c_within_yes h3, m_in_yes m h3, bnd_some, bnd_some, if_neg one_ne0, if_neg one_ne0, ald_nI (by omega) (by omega), iM8, ald_nI (by omega) (by omega), h.cc.1.wit (by omega), h.cm.1.row (by omega)]
      obtain ⟨c1, e1, f1⟩ := c_which_L hp v2 8 1000 0 c (-1, sR v (12 * p + 8)) h.cc (Or.inl rfl) (by omega) (by omega)
      obtain ⟨m1, e2, f2⟩ := m_which_L hp v2 8 1000 0 m (-1, sR v (12 * p + 8)) h.cm (by omega) (by omega)
      rw [show f_X4_which_L42 T 1000 (nI p) v2 (-1) (sR v (12 * p + 8)) 0 c = _ from e1, show f_X5_which_L42 1000 (nI p) v2 (-1) (sR v (12 * p + 8)) 0 m = _ from e2]
      exact Rel.mk (h.keep f1 okC_st g5_st f2 okM_say g14_say (h.cc.st f1) (h.cm.say f2)).rel rfl rfl
    · rw [c_within_no h3, m_in_no m h3, bnd_some, bnd_some, if_pos rfl, if_pos rfl]
      exact h.rel.same rfl rfl
  · rw [c_has_no h.cc.1 h6 h1, m_isOne_no h.cm h1, bnd_some, bnd_some, if_pos rfl, if_pos rfl]
    exact h.rel.same rfl rfl
def cntZ (x : Int32) : Nat → Nat → Nat
  | 0, _ => 0
  | r + 1, k => (if (x >>> (nI k &&& 31)) &&& 1 = 0 then 1 else 0) + cntZ x r (k + 1)
theorem cntS_Z (v : VS) (p : Nat) : ∀ r k, cntS v p r k = cntZ (sR v (12 * p + 9)) r k := by
  intro r
  induction r with
  | zero => intro k; rfl
  | succ r ih => intro k; rw [cntS, cntZ, ih]
theorem cntZ_tab : ∀ z, z < 256 → nI (cntZ (nI z) 8 0) = 8 - popS (nI z) := by decide +kernel
theorem cntZ_le (x : Int32) : ∀ r k, cntZ x r k ≤ r := by
  intro r
  induction r with
  | zero => intro k; exact Nat.le_refl _
  | succ r ih =>
    intro k
    rw [cntZ]
    have := ih (k + 1)
    split <;> omega
theorem ps_18 : PS_18 Rel := by
  rintro T c m v1 v2 ⟨v, hs, h⟩
  have h6 := h.n6
  unfold f_X4_tour f_X5_tour f_X5_tour_L38
  by_cases h1 : ∃ k, k < sN v ∧ v1 = nI k
  · obtain ⟨p, hp, rfl⟩ := h1
    rw [c_has_yes h.cc.1 h6 hp, m_isOne_yes h.cm hp, bnd_some, bnd_some, if_neg one_ne0, if_neg one_ne0]
    by_cases h3 : 0 ≤ v2 ∧ v2 ≤ 1
    · rw [c_within_yes h3, m_in_yes m h3, bnd_some, bnd_some, if_neg one_ne0, if_neg one_ne0]
      obtain ⟨a1, a2⟩ := c_tour_L (T := T) hp v2 h.cc.1 h.iv h6 8 1000 0 0 (by omega) (by omega)
      obtain ⟨b1, b2⟩ := m_unseen_L (p := p) (by omega) h.cm.1 8 1000 0 (by omega) (by omega)
      unfold f_X5_unseen
      by_cases hu : unseenS v p 8 0
      · rw [show f_X4_tour_L31 T 1000 (nI p) v2 0 0 c = _ from a1 hu, show f_X5_unseen_L2 1000 (nI p) 0 m = _ from b1 hu, bnd_some, if_pos rfl]
        refine h.rel.same rfl ?_
        split <;> rfl
      · obtain ⟨z, hz, ez⟩ := (h.iv p hp).2.2.1
        have hc8 : 8 - popS (sR v (12 * p + 9)) = nI (cntS v p 8 0) := by rw [cntS_Z, ez, cntZ_tab z hz]
        have hle : cntS v p 8 0 ≤ 8 := by rw [cntS_Z]; exact cntZ_le _ 8 0
        rw [show f_X4_tour_L31 T 1000 (nI p) v2 0 0 c = _ from a2 hu, show f_X5_unseen_L2 1000 (nI p) 0 m = _ from b2 hu, bnd_some, hc8, Nat.zero_add]
        unfold f_X4_tour_L80 f_X4_tour_L93
        by_cases h0 : v2 = 0
        · rw [if_pos h0, if_pos h0]
          exact h.rel.same rfl rfl
        · rw [if_neg h0, if_neg h0, if_neg (nI_ne_m1 (by omega))]
          obtain ⟨c1, e1, d1, d2, f1⟩ := c_think h.cc
          obtain ⟨c2, e2, f2⟩ := c_tourMinutes_L (p := p) 201 1000 0 c1 v d1 hp (by omega) (by omega)
          obtain ⟨m1, g1, k1, w1, l1⟩ := m_keeps h.cm
          obtain ⟨m2, v2', g2, k2, x2, l2⟩ := m_tourOf_L (p := p) 201 1000 0 m1 v k1 hp (by omega) (by omega)
          obtain ⟨m3, g3, k3, l3⟩ := m_lays k2 (w1.fr l2 (by unfold pRun; decide)) x2
          unfold f_X4_tourMinutes f_X5_tourOf
          rw [e1, bnd_some, show f_X4_tourMinutes_L13 T 1000 (nI p) 0 c1 = _ from e2, bnd_some, g1, bnd_some, show f_X5_tourOf_L2 1000 (nI p) 0 m1 = _ from g2, bnd_some, g3, bnd_some]
          have fc := f1.trans f2
          exact Rel.mk (h.keep fc okC_3 g5_3 (((l1.mono pKeep_al).trans (l2.mono pRun_al)).trans (l3.mono pPass_al)) okM_al g14_al (h.cc.k2 fc (fun k hk => pCo3_2 hk)) k3).rel rfl rfl
    · rw [c_within_no h3, m_in_no m h3, bnd_some, bnd_some, if_pos rfl, if_pos rfl]
      exact h.rel.same rfl rfl
  · rw [c_has_no h.cc.1 h6 h1, m_isOne_no h.cm h1, bnd_some, bnd_some, if_pos rfl, if_pos rfl]
    exact h.rel.same rfl rfl
theorem ps_19 : PS_19 Rel := by
  rintro T c m v1 v2 ⟨v, hs, h⟩
  have h6 := h.n6
  unfold f_X4_share f_X5_share f_X4_share_L16 f_X5_share_L16
  by_cases h1 : ∃ k, k < 8 ∧ v1 = nI k
  · obtain ⟨t, ht, rfl⟩ := h1
    rw [c_isSort_yes ht, m_isPlace_yes ht, bnd_some, bnd_some, if_neg one_ne0, if_neg one_ne0]
    by_cases h3 : 0 ≤ v2 ∧ v2 ≤ 1
    · rw [c_within_yes h3, m_in_yes m h3, bnd_some, bnd_some, if_neg one_ne0, if_neg one_ne0, c_allWit h.cc.1 h6, m_witAll h.cm, bnd_some, bnd_some]
      obtain ⟨c1, e1, d1, f1⟩ := c_share_L ht v2 (sN v) 1000 0 c (-1, witS v) h.cc (Or.inl rfl) (Nat.zero_add _) (by omega)
      obtain ⟨m1, g1, k1, w1, l1⟩ := m_keeps h.cm
      obtain ⟨m2, g2, k2, l2⟩ := m_share_L ht v2 (sN v) 1000 0 m1 (-1, witS v) k1 w1 (Nat.zero_add _) (by omega)
      rw [show f_X4_share_L33 T 1000 (nI t) v2 (-1) (witS v) 0 c = _ from e1, g1, bnd_some, show f_X5_share_L34 1000 (nI t) v2 (-1) (witS v) 0 m1 = _ from g2]
      exact Rel.mk (h.keep f1 okC_3 g5_3 ((l1.mono pKeep_al).trans (l2.mono pRun_al)) okM_al g14_al d1 k2).rel rfl rfl
    · rw [c_within_no h3, m_in_no m h3, bnd_some, bnd_some, if_pos rfl, if_pos rfl]
      exact h.rel.same rfl rfl
  · rw [c_isSort_no h1, m_isPlace_no h1, bnd_some, bnd_some, if_pos rfl, if_pos rfl]
    exact h.rel.same rfl rfl
/-! the box -/
def allS (v : VS) : Int32 := fold (fun q a => a + grS v q) (sN v) 0 0
theorem c_box_L (h : RC 2 c v) (h6 : sN v ≤ 6) (x1 x2 : Int32) : ∀ (r q k : Nat) (x : Int32), k + r = sN v → r < q → f_X4_box_L29 T q x1 x2 x (nI k) c = f_X4_box_L59 T x1 x2 (fold (fun q a => a + grS v q) r k x) c := by
  intro r
  induction r with
  | zero =>
    intro q k x hk hq
    obtain ⟨q, rfl⟩ : ∃ y, q = y + 1 := ⟨q - 1, (by omega)⟩
    rw [f_X4_box_L29, h.1, if_pos (nI_le (by omega) (by omega))]
    rfl
  | succ r ih =>
    intro q k x hk hq
    obtain ⟨q, rfl⟩ : ∃ y, q = y + 1 := ⟨q - 1, (by omega)⟩
    rw [f_X4_box_L29, h.1, if_neg (nI_ge (by omega) (by omega)), c_grainsOf h (by omega), bnd_some, nI_1, fold]
    exact ih q (k + 1) _ (by omega) (by omega)
theorem m_box_L {n : Nat} (h : CM S n m v) (x1 x2 : Int32) : ∀ (r q k : Nat) (x : Int32), k + r = sN v → r < q → f_X5_box_L5 q x1 x2 x (nI k) m = f_X5_box_L29 x1 x2 (fold (fun q a => a + grS v q) r k x) m := by
  have h6 := h.2.1
  intro r
  induction r with
  | zero =>
    intro q k x hk hq
    obtain ⟨q, rfl⟩ : ∃ y, q = y + 1 := ⟨q - 1, (by omega)⟩
    rw [f_X5_box_L5, h.1.1, if_pos (nI_le (by omega) (by omega))]
    rfl
  | succ r ih =>
    intro q k x hk hq
    obtain ⟨q, rfl⟩ : ∃ y, q = y + 1 := ⟨q - 1, (by omega)⟩
    rw [f_X5_box_L5, h.1.1, if_neg (nI_ge (by omega) (by omega)), m_grainsOf h (by omega), bnd_some, nI_1, fold]
    exact ih q (k + 1) _ (by omega) (by omega)
theorem grS_nI (iv : IV v) {p : Nat} (hp : p < sN v) : ∃ g, g ≤ 72 ∧ grS v p = nI g := by
  have key : ∀ r k x, k + r = 8 → x ≤ 9 * k → ∃ g, g ≤ 72 ∧ fold (fun k a => a + sR v (12 * p + k)) r k (nI x) = nI g := by
    intro r
    induction r with
    | zero => intro k x hk hx; exact ⟨x, (by omega), rfl⟩
    | succ r ih =>
      intro k x hk hx
      obtain ⟨a, ha, ea⟩ := (iv p hp).1 k (by omega)
      rw [fold, ea, nI_add]
      exact ih (k + 1) (x + a) (by omega) (by omega)
  exact key 8 0 0 rfl (Nat.le_refl _)
theorem allS_nI (iv : IV v) (h6 : sN v ≤ 6) : ∃ g, g ≤ 432 ∧ allS v = nI g := by
  have key : ∀ r k x, k + r = sN v → x ≤ 72 * k → ∃ g, g ≤ 432 ∧ fold (fun q a => a + grS v q) r k (nI x) = nI g := by
    intro r
    induction r with
    | zero => intro k x hk hx; exact ⟨x, (by omega), rfl⟩
    | succ r ih =>
      intro k x hk hx
      obtain ⟨a, ha, ea⟩ := grS_nI iv (show k < sN v by omega)
      rw [fold, ea, nI_add]
      exact ih (k + 1) (x + a) (by omega) (by omega)
  exact key (sN v) 0 0 (Nat.zero_add _) (Nat.le_refl _)
theorem ps_20 : PS_20 Rel := by
  rintro T c m v1 v2 ⟨v, hs, h⟩
  have h6 := h.n6
  unfold f_X4_box f_X5_box f_X4_box_L20
  obtain ⟨G, hG, eG⟩ := allS_nI h.iv h6
  rw [show f_X5_box_L5 1000 v1 v2 0 0 m = f_X5_box_L29 v1 v2 (allS v) m from m_box_L h.cm v1 v2 (sN v) 1000 0 0 (Nat.zero_add _) (by omega), eG]
  unfold f_X5_box_L29 f_X5_box_L65 f_X5_box_L68
  by_cases h1 : ∃ k, k < sN v ∧ v1 = nI k
  · obtain ⟨p, hp, rfl⟩ := h1
    rw [c_has_yes h.cc.1 h6 hp, m_isOne_yes h.cm hp, bnd_some, bnd_some, if_neg one_ne0, if_neg one_ne0]
    by_cases h3 : 0 ≤ v2 ∧ v2 ≤ 1
    · rw [c_within_yes h3, m_in_yes m h3, bnd_some, bnd_some, if_neg one_ne0, if_neg one_ne0, show f_X4_box_L29 T 1000 (nI p) v2 0 0 c = f_X4_box_L59 T (nI p) v2 (allS v) c from c_box_L h.cc.1 h6 _ v2 (sN v) 1000 0 0 (Nat.zero_add _) (by omega), eG]
      unfold f_X4_box_L59 f_X4_box_L82
      by_cases h0 : G = 0
      · rw [if_pos (c := nI G = 0) (by rw [h0]; rfl), if_pos (c := nI G ≤ 0) (by rw [h0]; decide)]
        exact h.rel.same rfl rfl
      · obtain ⟨g, hg, eg⟩ := grS_nI h.iv hp
        rw [if_neg (c := nI G = 0) (fun y => h0 ((nI_eq (a := G) (b := 0) (by omega) (by omega)).mp y)), if_neg (c := nI G ≤ 0) (nI_nle (by omega) (by omega)), c_grainsOf h.cc.1 (by omega), m_grainsOf h.cm (by omega), bnd_some, bnd_some, eg, nI_l (by omega), nI_l (by omega), c_lowest (a := g) (b := G) (by omega) (by omega) (by omega), m_lowest (a := g) (b := G) (by omega) (by omega) (by omega) (in01.mp h3), bnd_some, bnd_some]
        exact h.rel.same rfl rfl
    · rw [c_within_no h3, m_in_no m h3, bnd_some, bnd_some, if_pos rfl, if_pos rfl]
      exact h.rel.same rfl rfl
  · rw [c_has_no h.cc.1 h6 h1, m_isOne_no h.cm h1, bnd_some, bnd_some, if_pos rfl, if_pos rfl]
    exact h.rel.same rfl rfl
end PPs3
