section PPs4
variable {S : LW} {T : TX} {c m c1 m1 : ST} {v v' : VS} {hs hs' : HS}
theorem m_sheet_yes {u : Nat} (hu : u < 4) (m : ST) : f_X5_in (nI u) 0 3 m = some (1, m) := m_in_yes (b := 3) m ((in_nI (n := 3) (by omega)).mpr ⟨u, (by omega), rfl⟩)
theorem m_sheet_no {u : Int32} (hu : ¬ ∃ k, k < 4 ∧ u = nI k) (m : ST) : f_X5_in u 0 3 m = some (0, m) := m_in_no m (fun y => hu (by obtain ⟨k, hk, e⟩ := (in_nI (n := 3) (by omega)).mp y; exact ⟨k, (by omega), e⟩))
theorem neg2 : ¬ (-2 : Int32) = 0 ∧ ¬ (-11 : Int32) = 0 ∧ ¬ (-5 : Int32) = 0 := by decide
theorem refuse_told (h : RelV T c m v hs) (v1 v2 : Int32) : ∃ a : Int32, f_X4_refusesTold T v1 v2 c = some (a, c) ∧ f_X5_twoWrong v1 v2 m = some (a, m) ∧ (a = 0 → ∃ s u, s < 4 ∧ u < 4 ∧ v1 = nI s ∧ v2 = nI u ∧ hs.2.1 u ≤ hs.2.1 s ∧ ∀ i, i < hs.2.1 s → celOk (sN v) (hs.2.2 s i)) := by
  have h6 := h.n6
  unfold f_X4_refusesTold f_X5_twoWrong f_X4_refusesTold_L64 f_X5_twoWrong_L58
  by_cases h2 : ∃ k, k < 4 ∧ v2 = nI k
  · obtain ⟨u, hu, rfl⟩ := h2
    rw [c_isSheet_yes hu, m_sheet_yes hu, bnd_some, bnd_some, if_neg one_ne0, if_neg one_ne0]
    by_cases h1 : ∃ k, k < 4 ∧ v1 = nI k
    · obtain ⟨s, hs4, rfl⟩ := h1
      rw [c_refusesEvening_yes h.cc.1 h6 h.hc hs4, m_eveningWrong_yes h.cm h.hm hs4, bnd_some, bnd_some]
      by_cases h0 : ewS (sN v) hs s = 0
      · rw [if_pos h0, if_pos h0, chk_nI (by omega) (by omega), nI_clamp (by omega), nI_clamp (by omega), ald_nI (by omega) (by omega), (h.hm u hu).1]
        by_cases hm : hs.1 u = -1
        · rw [c_isMissing_yes h.hc hu hm, bnd_some, if_neg one_ne0, if_pos hm]
          exact ⟨_, rfl, rfl, fun e => absurd e (by decide)⟩
        · rw [c_isMissing_no h.hc hu hm, bnd_some, if_pos rfl, if_neg hm, chk_nI (by omega) (by omega), chk_nI (by omega) (by omega), ald_nI (by omega) (by omega), ald_nI (by omega) (by omega), (h.hc u hu).2.1, (h.hc s hs4).2.1, (h.hm u hu).2.1, (h.hm s hs4).2.1]
          have q1 := (h.hc u hu).2.2.1
          have q2 := (h.hc s hs4).2.2.1
          by_cases hl : hs.2.1 u ≤ hs.2.1 s
          · rw [if_pos (nI_le hl (by omega)), if_pos (nI_le hl (by omega))]
            exact ⟨_, rfl, rfl, fun _ => ⟨s, u, hs4, hu, rfl, rfl, hl, (ewS_0 h0).2⟩⟩
          · rw [if_neg (nI_ge (by omega) (by omega)), if_neg (nI_ge (by omega) (by omega))]
            exact ⟨_, rfl, rfl, fun e => absurd e (by decide)⟩
      · rw [if_neg h0, if_neg h0]
        exact ⟨_, rfl, rfl, fun e => absurd e h0⟩
    · rw [c_refusesEvening_no h1, m_eveningWrong_no h1, bnd_some, bnd_some, if_neg neg2.1, if_neg neg2.1]
      exact ⟨_, rfl, rfl, fun e => absurd e (by decide)⟩
  · rw [c_isSheet_no h2, m_sheet_no h2, bnd_some, bnd_some, if_pos rfl, if_pos rfl]
    exact ⟨_, rfl, rfl, fun e => absurd e (by decide)⟩
theorem refuse_judge (h : RelV T c m v hs) (v1 v2 v3 : Int32) : ∃ a : Int32, f_X4_refusesJudging T v1 v2 v3 c = some (a, c) ∧ f_X5_toldWrong v1 v2 v3 m = some (a, m) ∧ (a = 0 → ∃ s u p, s < 4 ∧ u < 4 ∧ p < sN v ∧ v1 = nI s ∧ v2 = nI u ∧ v3 = nI p ∧ hs.2.1 u ≤ hs.2.1 s ∧ ∀ i, i < hs.2.1 s → celOk (sN v) (hs.2.2 s i)) := by
  have h6 := h.n6
  obtain ⟨a, e1, e2, ha⟩ := refuse_told h v1 v2
  unfold f_X4_refusesJudging f_X5_toldWrong f_X4_refusesJudging_L33 f_X5_toldWrong_L32
  rw [e1, e2, bnd_some, bnd_some]
  by_cases h0 : a = 0
  · rw [if_pos h0, if_pos h0]
    obtain ⟨s, u, hs4, hu, q1, q2, q3, q4⟩ := ha h0
    by_cases h3 : ∃ k, k < sN v ∧ v3 = nI k
    · obtain ⟨p, hp, rfl⟩ := h3
      rw [c_has_yes h.cc.1 h6 hp, m_isOne_yes h.cm hp, bnd_some, bnd_some, if_neg one_ne0, if_neg one_ne0]
      exact ⟨_, rfl, rfl, fun _ => ⟨s, u, p, hs4, hu, hp, q1, q2, rfl, q3, q4⟩⟩
    · rw [c_has_no h.cc.1 h6 h3, m_isOne_no h.cm h3, bnd_some, bnd_some, if_pos rfl, if_pos rfl]
      exact ⟨_, rfl, rfl, fun e => absurd e (by decide)⟩
  · rw [if_neg h0, if_neg h0]
    exact ⟨_, rfl, rfl, fun e => absurd e h0⟩
theorem ps_21 : PS_21 Rel := by
  rintro T c m v1 v2 v3 ⟨v, hs, h⟩
  obtain ⟨a, e1, e2, ha⟩ := refuse_judge h v1 v2 v3
  unfold f_X4_judge f_X5_judge f_X5_judge_L26
  rw [e1, e2, bnd_some, bnd_some]
  by_cases h0 : a = 0
  · rw [if_pos h0, if_pos h0]
    obtain ⟨s, u, p, hs4, hu, hp, rfl, rfl, rfl, hle, hok⟩ := ha h0
    obtain ⟨c1, g1, d1, d2, f1⟩ := c_think h.cc
    obtain ⟨c2, g2, f2⟩ := c_otherwise d1 (h.hc.fr f1 g5_3) hs4 hu hp hle hok
    obtain ⟨m1, g3, d3, f3⟩ := m_unlike h.cm h.hm hs4 hu hp hle hok
    rw [g1, bnd_some, g2, bnd_some, g3, bnd_some]
    have fc := f1.trans f2
    exact Rel.mk (h.keep fc okC_3 g5_3 f3 okM_un g14_un (h.cc.k2 fc (fun k hk => pCo3_2 hk)) d3).rel rfl rfl
  · rw [if_neg h0, if_neg h0]
    exact h.rel.same rfl rfl
theorem ps_22 : PS_22 Rel := by
  rintro T c m v1 v2 v3 v4 ⟨v, hs, h⟩
  have h6 := h.n6
  obtain ⟨a, e1, e2, ha⟩ := refuse_judge h v1 v2 v3
  unfold f_X4_kinds f_X5_kinds f_X4_kinds_L44
  rw [e1, e2, bnd_some, bnd_some]
  by_cases h0 : a = 0
  · rw [if_pos h0, if_pos h0]
    obtain ⟨s, u, p, hs4, hu, hp, rfl, rfl, rfl, hle, hok⟩ := ha h0
    by_cases h4 : 0 ≤ v4 ∧ v4 ≤ 1
    · have hw := in01.mp h4
      rw [c_within_yes h4, m_in_yes m h4, bnd_some, bnd_some, if_neg one_ne0, if_neg one_ne0, ald_nI (by omega) (by omega), ald_nI (by omega) (by omega), (h.cm.1.2.2.2.2 p hp).1, (h.cm.1.2.2.2.2 p hp).2]
      have hr : (if v4 = 0 then 6 else 10) < 1000 := by split <;> omega
      obtain ⟨c1, g1, d1, f1⟩ := c_kinds_L hs4 hu hp hle hok hw (if v4 = 0 then 6 else 10) 1000 0 c 0 h.cc h.hc (Nat.zero_add _) hr
      have eV : wO p (sO v p) (wK p (sK v p) v) = v := by
        show (v.1, upd v.2.1 p (v.2.1 p), upd v.2.2.1 p (v.2.2.1 p), v.2.2.2) = v
        rw [fa_upd_same rfl, fa_upd_same rfl]
      obtain ⟨m1, g2, d2, f2⟩ := m_kinds_L hs4 hu hp hle hok hw (if v4 = 0 then 6 else 10) 1000 0 m 0 (sK v p) (sO v p) (by rw [eV]; exact h.cm) h.hm (Nat.zero_add _) hr
      have ec : (if v4 = 0 then f_X4_kinds_L49 T 1000 (nI s) (nI u) (nI p) v4 0 5 0 c else f_X4_kinds_L49 T 1000 (nI s) (nI u) (nI p) v4 0 9 0 c) = f_X4_kinds_L49 T 1000 (nI s) (nI u) (nI p) v4 0 (if v4 = 0 then 5 else 9) (nI 0) c := by
        by_cases hq : v4 = 0
        · rw [if_pos hq, if_pos hq]; rfl
        · rw [if_neg hq, if_neg hq]; rfl
      rw [ec, g1, show f_X5_kinds_L52 1000 (nI s) (nI u) (nI p) v4 (sK v p) (sO v p) 0 0 m = _ from g2]
      exact Rel.mk (h.keep f1 okC_3 g5_3 f2 okM_ki g14_ki d1 d2).rel rfl rfl
    · rw [c_within_no h4, m_in_no m h4, bnd_some, bnd_some, if_pos rfl, if_pos rfl]
      exact h.rel.same rfl rfl
  · rw [if_neg h0, if_neg h0]
    exact h.rel.same rfl rfl
theorem ps_23 : PS_23 Rel := by
  rintro T c m v1 v2 v3 v4 v5 ⟨v, hs, h⟩
  have h6 := h.n6
  obtain ⟨a, e1, e2, ha⟩ := refuse_judge h v1 v2 v3
  unfold f_X4_states f_X5_states f_X4_states_L61 f_X4_states_L38 f_X5_states_L38
  rw [e1, e2, bnd_some, bnd_some]
  by_cases h0 : a = 0
  · rw [if_pos h0, if_pos h0]
    obtain ⟨s, u, p, hs4, hu, hp, rfl, rfl, rfl, hle, hok⟩ := ha h0
    by_cases h4 : 0 ≤ v4 ∧ v4 ≤ 8
    · obtain ⟨t, ht, rfl⟩ := (in_nI (n := 8) (by omega)).mp h4
      rw [c_within_yes h4, m_in_yes m h4, bnd_some, bnd_some, if_neg one_ne0, if_neg one_ne0]
      by_cases h5 : 0 ≤ v5 ∧ v5 ≤ 1
      · rw [c_within_yes h5, m_in_yes m h5, bnd_some, bnd_some, if_neg one_ne0, if_neg one_ne0, iM, ald_nI (by omega) (by omega), h.cm.1.row (by omega)]
        have hr : (if t = 8 then 100 else 10) < 1000 := by split <;> omega
        obtain ⟨c1, g1, d1, f1⟩ := c_states_L hs4 hu hp (show t < 9 by omega) hle hok v5 (if t = 8 then 100 else 10) 1000 0 c (0, -1) h.cc h.hc (Or.inl rfl) (Nat.zero_add _) hr
        have eV : wR (12 * p + t) (sR v (12 * p + t)) v = v := by
          show (upd v.1 (12 * p + t) (v.1 (12 * p + t)), v.2) = v
          rw [fa_upd_same rfl]
        obtain ⟨m1, g2, d2, f2⟩ := m_states_L hs4 hu hp (show t < 9 by omega) hle hok v5 (if t = 8 then 100 else 10) 1000 0 m (0, -1) (sR v (12 * p + t)) (by rw [eV]; exact h.cm) h.hm (Nat.zero_add _) hr
        have ec : (if nI t = 8 then f_X4_states_L66 T 1000 (nI s) (nI u) (nI p) (nI t) v5 0 (-1) 99 0 c else f_X4_states_L66 T 1000 (nI s) (nI u) (nI p) (nI t) v5 0 (-1) 9 0 c) = f_X4_states_L66 T 1000 (nI s) (nI u) (nI p) (nI t) v5 0 (-1) (if t = 8 then 99 else 9) (nI 0) c := by
          by_cases hq : t = 8
          · rw [if_pos (show nI t = 8 by rw [hq]; rfl), if_pos hq]; rfl
          · rw [if_neg (c := nI t = 8) (fun y => hq ((nI_eq (by omega) (by omega)).mp (show nI t = nI 8 from y))), if_neg hq]; rfl
        rw [ec, g1, show f_X5_states_L64 1000 (nI s) (nI u) (nI p) (nI t) v5 (sR v (12 * p + t)) 0 (-1) 0 m = _ from g2]
        exact Rel.mk (h.keep f1 okC_3 g5_3 f2 okM_un g14_un d1 d2).rel rfl rfl
      · rw [c_within_no h5, m_in_no m h5, bnd_some, bnd_some, if_pos rfl, if_pos rfl]
        exact h.rel.same rfl rfl
    · rw [c_within_no h4, m_in_no m h4, bnd_some, bnd_some, if_pos rfl, if_pos rfl]
      exact h.rel.same rfl rfl
  · rw [if_neg h0, if_neg h0]
    exact h.rel.same rfl rfl
theorem ps_24 : PS_24 Rel := by
  rintro T c m v1 v2 ⟨v, hs, h⟩
  have h6 := h.n6
  obtain ⟨a, e1, e2, ha⟩ := refuse_told h v1 v2
  unfold f_X4_whose f_X5_whose
  rw [e1, e2, bnd_some, bnd_some]
  by_cases h0 : a = 0
  · rw [if_pos h0, if_pos h0]
    obtain ⟨s, u, hs4, hu, rfl, rfl, hle, hok⟩ := ha h0
    obtain ⟨c1, g1, d1, f1⟩ := c_whose_L hs4 hu hle hok (sN v) 1000 0 c 0 h.cc h.hc (Nat.zero_add _) (by omega)
    obtain ⟨m1, g2, d2, f2⟩ := m_whose_L hs4 hu hle hok (sN v) 1000 0 m 0 h.cm h.hm (Nat.zero_add _) (by omega)
    rw [show f_X4_whose_L19 T 1000 (nI s) (nI u) 0 0 c = _ from g1, show f_X5_whose_L19 1000 (nI s) (nI u) 0 0 m = _ from g2]
    exact Rel.mk (h.keep f1 okC_3 g5_3 f2 okM_un g14_un d1 d2).rel rfl rfl
  · rw [if_neg h0, if_neg h0]
    exact h.rel.same rfl rfl
theorem ps_25 : PS_25 Rel := by
  rintro T c m v1 v2 v3 ⟨v, hs, h⟩
  have ht6 := h.t6
  obtain ⟨a, e1, e2, ha⟩ := refuse_judge h v1 v2 v3
  unfold f_X4_laws f_X5_laws
  rw [e1, e2, bnd_some, bnd_some]
  by_cases h0 : a = 0
  · rw [if_pos h0, if_pos h0]
    obtain ⟨s, u, p, hs4, hu, hp, rfl, rfl, rfl, hle, hok⟩ := ha h0
    obtain ⟨c1, g1, d1, f1⟩ := c_laws_L hs4 hu hp hle hok (tN T) 1000 0 c 0 h.cc h.hc h.nc (Nat.zero_add _) (by omega)
    obtain ⟨m1, g2, d2, f2⟩ := m_laws_L hs4 hu hp h.cm.2.2.1 hle hok (tN T) 1000 0 m 0 (sL v) h.cm h.hm h.nm (Nat.zero_add _) (by omega)
    rw [h.cm.1.2.2.1, show f_X4_laws_L23 T 1000 (nI s) (nI u) (nI p) 0 0 c = _ from g1, show f_X5_laws_L29 1000 (nI s) (nI u) (nI p) (nI (sL v)) 0 0 m = _ from g2]
    exact Rel.mk (h.keep f1 okC_3 g5_3 f2 okM_la g14_la d1 d2).rel rfl rfl
  · rw [if_neg h0, if_neg h0]
    exact h.rel.same rfl rfl
/-! film -/
theorem hc_new {P : Nat → Nat → Prop} {u z : Nat} {x : Int32} {W : Nat → Int32} (h : HC c hs) (f : fr P c c1) (g : ∀ s k, s < 4 → s ≠ u → ¬ P (5 + s) k) (h1 : gs (5 + u) 1 c1 = x) (h2 : gs (5 + u) 2 c1 = nI z) (h3 : z ≤ 40) (h4 : ∀ i, i < z → ga (5 + u) 0 c1 i = W i) (h5 : x = -1 ∨ x = 0 ∨ x = 1 ∨ x = 2) : HC c1 (hsW hs u x z W) := by
  intro s hs4
  unfold hsW
  by_cases hsu : s = u
  · subst hsu
    simp only [if_true]
    exact ⟨h1, h2, h3, h4, h5⟩
  · simp only [if_neg hsu]
    rw [f.gs (g s 1 hs4 hsu), f.gs (g s 2 hs4 hsu), f.ga (g s 0 hs4 hsu)]
    exact h s hs4
theorem hm_new {u z : Nat} {x : Int32} {W : Nat → Int32} (h : HM m hs) (hu : u < 4) (e14 : ∀ s, s < 4 → ga 50 14 m1 s = if s = u then x else ga 50 14 m s) (e15 : ∀ s, s < 4 → ga 50 15 m1 s = if s = u then nI z else ga 50 15 m s) (hz : z ≤ 40) (e16 : ∀ i, i < z → ga 50 16 m1 (40 * u + i) = W i) (o16 : ∀ j, ¬ (40 * u ≤ j ∧ j < 40 * u + 40) → ga 50 16 m1 j = ga 50 16 m j) : HM m1 (hsW hs u x z W) := by
  intro s hs4
  unfold hsW
  rw [e14 s hs4, e15 s hs4]
  by_cases hsu : s = u
  · subst hsu
    simp only [if_true]
    exact ⟨trivial, trivial, hz, e16⟩
  · simp only [if_neg hsu]
    obtain ⟨q1, q2, q3, q4⟩ := h s hs4
    exact ⟨q1, q2, q3, fun i hi => by rw [o16 _ (by omega)]; exact q4 i hi⟩
def pFa (o k : Nat) : Prop := o = 50 ∧ (k = 3 ∨ k = 4 ∨ k = 14 ∨ k = 15 ∨ k = 16 ∨ k = 27 ∨ k = 28 ∨ k = 29)
theorem okM_fa : okM pFa := by
  unfold okM pFa
  refine ⟨?_, ?_, ?_, ?_, ?_, ?_, ?_, ?_, ?_⟩ <;> omega
theorem okC_fm {u : Nat} : okC (pFm u) := ⟨by unfold pFm; omega, by unfold pFm; omega, by unfold pFm; omega, by unfold pFm; omega, fun k => by unfold pFm; omega⟩
theorem ps_26 : PS_26 Rel := by
  rintro T c m v1 v2 v3 ⟨v, hs, h⟩
  have h6 := h.n6
  unfold f_X4_film f_X5_film f_X4_film_L12 f_X5_film_L14
  by_cases h2 : ∃ k, k < 4 ∧ v2 = nI k
  · obtain ⟨u, hu, rfl⟩ := h2
    rw [c_isSheet_yes hu, m_sheet_yes hu, bnd_some, bnd_some, if_neg one_ne0, if_neg one_ne0]
    by_cases he : nI u = v1
    · rw [if_pos he, if_pos he.symm]
      exact h.rel.same rfl rfl
    · rw [if_neg he, if_neg (fun g => he g.symm)]
      by_cases h1 : ∃ k, k < 4 ∧ v1 = nI k
      · obtain ⟨s, hs4, rfl⟩ := h1
        have hsu : s ≠ u := fun e => he (by rw [e])
        rw [c_refusesEvening_yes h.cc.1 h6 h.hc hs4, m_eveningWrong_yes h.cm h.hm hs4, bnd_some, bnd_some]
        by_cases h0 : ewS (sN v) hs s = 0
        · rw [if_pos h0, if_pos h0]
          obtain ⟨-, hok⟩ := ewS_0 h0
          by_cases h3 : ∃ k, k < sN v ∧ v3 = nI k
          · obtain ⟨p, hp, rfl⟩ := h3
            have hz := (h.hc s hs4).2.2.1
            rw [c_has_yes h.cc.1 h6 hp, m_isOne_yes h.cm hp, bnd_some, bnd_some, if_neg one_ne0, if_neg one_ne0, chk_nI (by omega) (by omega), chk_nI (by omega) (by omega), nI_clamp (by omega), nI_clamp (by omega), (h.hc s hs4).2.1]
            -- the class
            obtain ⟨c1, g1, a1, a2, a3, f1⟩ := c_shBecomes (T := T) (s := u) hz 0 c
            have k1 : CC (SofT T) T 2 c1 v := h.cc.k2 f1 (fun k _ => by unfold pSh; omega)
            obtain ⟨c2, g2, d1, d2, f2⟩ := c_think k1
            have w5 : ∀ a k, 5 ≤ a → ¬ pCo 3 a k := g5_3
            obtain ⟨c3, g3, b1, b2, b3, f3⟩ := c_film_L (T := T) (S := SofT T) (cs := hs.2.2 s) hs4 hu hsu hz (v0 := v) hp hok (hs.2.1 s) 1000 0 c2 d1 (by rw [f2.gs (w5 _ _ (by omega)), f1.gs (by unfold pSh; omega)]; exact (h.hc s hs4).2.1) (fun i hi => by rw [f2.ga (w5 _ _ (by omega)), f1.ga (by unfold pSh; omega)]; exact (h.hc s hs4).2.2.2.1 i hi) (by rw [f2.gs (w5 _ _ (by omega))]; exact a1) (by rw [f2.gs (w5 _ _ (by omega))]; exact a2) (fun i hi => absurd hi (Nat.not_lt_zero _)) (Nat.zero_add _) (by omega)
            have fc := ((f1.mono (pSh_fm u)).trans (f2.mono (pCo_fm u))).trans f3
            have hC : CC (SofT T) T 2 c3 v := h.cc.k2 fc (fun k hk => by unfold pFm; omega)
            have hc3 := hc_new h.hc fc (fun s k hs4 hne => by unfold pFm; omega) b1 b2 hz b3 (Or.inr (Or.inl rfl))
            -- the reference
            rw [ast_nI (by omega) (by omega), ald_nI (by omega) (by omega), ga_pa, if_neg (by decide), (h.hm s hs4).2.1, ast_nI (by omega) (by omega)]
            generalize hA : pa 50 15 _ _ = A
            have fA : fr (fun o k => o = 50 ∧ (k = 14 ∨ k = 15)) m A := by
              rw [← hA]
              exact (fr_pa (P := fun o k => o = 50 ∧ (k = 14 ∨ k = 15)) ⟨rfl, Or.inl rfl⟩ _ _).trans (fr_pa (P := fun o k => o = 50 ∧ (k = 14 ∨ k = 15)) ⟨rfl, Or.inr rfl⟩ _ _)
            have A14 : ga 50 14 A = upd (ga 50 14 m) u 0 := by rw [← hA]; simp only [ga_pa, gs_pa, ga_ps, gs_ps, reduceIte, Nat.reduceEqDiff, reduceCtorEq, and_true, true_and, and_false, false_and, and_self, eq_self]
            have A15 : ga 50 15 A = upd (ga 50 15 m) u (nI (hs.2.1 s)) := by rw [← hA]; simp only [ga_pa, gs_pa, ga_ps, gs_ps, reduceIte, Nat.reduceEqDiff, reduceCtorEq, and_true, true_and, and_false, false_and, and_self, eq_self]
            have cA : CM (SofT T) (tN T) A v := h.cm.fr4 (h.cm.1.fr fA (by decide)) rfl rfl fA (by decide) (by decide)
            obtain ⟨m1, g4, d3, w1, l1⟩ := m_keeps cA
            have l15 : ga 50 15 m1 = ga 50 15 A := l1.ga (by unfold pKeep; decide)
            have l16 : ga 50 16 m1 = ga 50 16 m := (l1.ga (by unfold pKeep; decide)).trans (fA.ga (by decide))
            obtain ⟨m2, g5, d4, b4, b5, l2⟩ := m_film_L (S := SofT T) (cs := hs.2.2 s) hs4 hu hsu hz (v0 := v) hp hok 40 1000 0 m1 (by rw [Nat.zero_min]; exact d3) w1 (by rw [l15, A15, upd_ne _ _ hsu]; exact (h.hm s hs4).2.1) (fun i hi => by rw [l16]; exact (h.hm s hs4).2.2.2 i hi) (fun i hi _ => absurd hi (Nat.not_lt_zero _)) rfl (by omega)
            rw [g1, bnd_some, g2, bnd_some, show f_X4_film_L85 T 1000 (nI p) (5 + s) (5 + u) 0 c2 = _ from g3, g4, bnd_some, show f_X5_film_L69 1000 (nI s) (nI u) (nI p) 0 m1 = _ from g5]
            have fm : fr pFa m m2 := ((fA.mono (fun o k y => ⟨y.1, by have := y.2; omega⟩)).trans (l1.mono (fun o k y => ⟨y.1, by have := y.2; omega⟩))).trans (l2.mono (fun o k y => ⟨y.1, by have := y.2; omega⟩))
            have hm3 := hm_new (W := fiW (SofT T) (hs.2.2 s) p v) (x := 0) (z := hs.2.1 s) (m1 := m2) h.hm hu (fun q hq => by
              rw [l2.ga (by unfold pFi; decide), l1.ga (by unfold pKeep; decide), A14, upd_at]) (fun q hq => by
              rw [l2.ga (by unfold pFi; decide), l15, A15, upd_at]) hz b4 (fun j hj => by rw [b5 j hj, l16])
            exact Rel.mk (h.step fc okC_fm fm okM_fa hC d4 (Nat.le_refl _) (fun _ _ => ⟨rfl, rfl⟩) h.tm hc3 hm3).rel rfl rfl
          · rw [c_has_no h.cc.1 h6 h3, m_isOne_no h.cm h3, bnd_some, bnd_some, if_pos rfl, if_pos rfl]
            exact h.rel.same rfl rfl
        · rw [if_neg h0, if_neg h0]
          exact h.rel.same rfl rfl
      · rw [c_refusesEvening_no h1, m_eveningWrong_no h1, bnd_some, bnd_some, if_neg neg2.1, if_neg neg2.1]
        exact h.rel.same rfl rfl
  · rw [c_isSheet_no h2, m_sheet_no h2, bnd_some, bnd_some, if_pos rfl, if_pos rfl]
    exact h.rel.same rfl rfl
theorem ps_27 : PS_27 Rel := by
  rintro T c m v1 v2 v3 ⟨v, hs, h⟩
  have h6 := h.n6
  unfold f_X4_drawn f_X5_drawn f_X4_drawn_L29 f_X5_drawn_L30 f_X4_drawn_L56 f_X5_drawn_L54
  by_cases h1 : 0 ≤ v1 ∧ v1 ≤ 99999
  · obtain ⟨sd, hsd, rfl⟩ := (in_nI (n := 99999) (by omega)).mp h1
    rw [c_within_yes h1, m_in_yes m h1, bnd_some, bnd_some, if_neg one_ne0, if_neg one_ne0]
    by_cases h2 : 0 ≤ v2 ∧ v2 ≤ 60
    · obtain ⟨N, hN, rfl⟩ := (in_nI (n := 60) (by omega)).mp h2
      rw [c_within_yes h2, m_in_yes m h2, bnd_some, bnd_some, if_neg one_ne0, if_neg one_ne0]
      by_cases h3 : 0 ≤ v3 ∧ v3 ≤ 1
      · rw [c_within_yes h3, m_in_yes m h3, bnd_some, bnd_some, if_neg one_ne0, if_neg one_ne0]
        obtain ⟨c1, e1, d1, d2, f1⟩ := c_drawEvening h.cc (seed := sd) (N := N) (by omega) hN
        obtain ⟨m1, e2, d3, d4, f2⟩ := m_lotEvening h.cm (seed := sd) (N := N) (by omega) hN
        rw [e1, bnd_some, e2, bnd_some, c_allWit d1.1 d1.2.1, bnd_some, d4]
        have R := (h.keep f1 okC_3 g5_3 f2 okM_lot g14_lot d2 d3).rel
        by_cases h0 : v3 = 0
        · rw [if_pos h0, if_pos h0]
          exact R.mk rfl rfl
        · rw [if_neg h0, if_neg h0]
          exact R.mk rfl rfl
      · rw [c_within_no h3, m_in_no m h3, bnd_some, bnd_some, if_pos rfl, if_pos rfl]
        exact h.rel.same rfl rfl
    · rw [c_within_no h2, m_in_no m h2, bnd_some, bnd_some, if_pos rfl, if_pos rfl]
      exact h.rel.same rfl rfl
  · rw [c_within_no h1, m_in_no m h1, bnd_some, bnd_some, if_pos rfl, if_pos rfl]
    exact h.rel.same rfl rfl
theorem odds_L {sd n : Nat} {x3 x4 : Int32} (hsd : sd ≤ 99999) (hn : n ≤ 40) (hn1 : 1 ≤ n) (h4 : x4 = 0 ∨ x4 = 1) : ∀ (r q k cnt : Nat) (c m : ST), RelV T c m v hs → k + r = n → r < q → cnt ≤ k → ∃ (a : Int64) (c1 m1 : ST), f_X4_odds_L51 T q (nI sd) (nI n) x3 x4 (nI cnt) (nI k) c = some (a, c1) ∧ f_X5_odds_L52 q (nI sd) (nI n) x3 x4 (lN cnt) (nI k) m = some (a, m1) ∧ RelV T c1 m1 v hs := by
  intro r
  induction r with
  | zero =>
    intro q k cnt c m h hk hq hc
    obtain ⟨q, rfl⟩ : ∃ y, q = y + 1 := ⟨q - 1, (by omega)⟩
    rw [f_X4_odds_L51, f_X5_odds_L52, if_pos (nI_le (by omega) (by omega)), if_pos (nI_le (by omega) (by omega))]
    unfold f_X4_odds_L88 f_X5_odds_L88
    rw [c_lowest (a := cnt) (b := n) (by omega) (by omega) (by omega), nI_l (by omega), m_lowest (a := cnt) (b := n) (by omega) (by omega) (by omega) h4, bnd_some, bnd_some]
    exact ⟨_, c, m, rfl, rfl, h⟩
  | succ r ih =>
    intro q k cnt c m h hk hq hc
    obtain ⟨q, rfl⟩ : ∃ y, q = y + 1 := ⟨q - 1, (by omega)⟩
    obtain ⟨c1, e1, d1, d2, f1⟩ := c_drawEvening h.cc (seed := sd + k) (N := 20) (by omega) (by omega)
    obtain ⟨m1, e2, d3, d4, f2⟩ := m_lotEvening h.cm (seed := sd + k) (N := 20) (by omega) (by omega)
    have R := h.keep f1 okC_3 g5_3 f2 okM_lot g14_lot d2 d3
    rw [f_X4_odds_L51, f_X5_odds_L52, if_neg (nI_ge (by omega) (by omega)), if_neg (nI_ge (by omega) (by omega)), nI_add, show f_X4_drawEvening T (nI (sd + k)) 20 c = _ from e1, show f_X5_lotEvening (nI (sd + k)) 20 m = _ from e2, bnd_some, bnd_some, c_allWit d1.1 d1.2.1, bnd_some]
    unfold f_X4_odds_L82 f_X5_odds_L79
    rw [nI_1, nI_1, lN_1, Int64.add_zero]
    by_cases hl : witS (loS (SofT T) 20 (sd + k + 1) (0, v)).2 < x3
    · rw [if_pos hl, if_pos hl]
      exact ih q (k + 1) cnt c1 m1 R (by omega) (by omega) (by omega)
    · rw [if_neg hl, if_neg hl]
      exact ih q (k + 1) (cnt + 1) c1 m1 R (by omega) (by omega) (by omega)
theorem ps_28 : PS_28 Rel := by
  rintro T c m v1 v2 v3 v4 ⟨v, hs, h⟩
  have h6 := h.n6
  unfold f_X4_odds f_X5_odds f_X4_odds_L41 f_X5_odds_L42
  by_cases h1 : 0 ≤ v1 ∧ v1 ≤ 99999
  · obtain ⟨sd, hsd, rfl⟩ := (in_nI (n := 99999) (by omega)).mp h1
    rw [c_within_yes h1, m_in_yes m h1, bnd_some, bnd_some, if_neg one_ne0, if_neg one_ne0]
    by_cases h2 : 1 ≤ v2 ∧ v2 ≤ 40
    · obtain ⟨n, hn, rfl⟩ := (in_nI (n := 40) (by omega)).mp ⟨Int32.le_trans (by decide) h2.1, h2.2⟩
      have hn1 : 1 ≤ n := (nI_leI (a := 1) (b := n) (by omega) (by omega)).mp h2.1
      rw [c_within_yes h2, m_in_yes m h2, bnd_some, bnd_some, if_neg one_ne0, if_neg one_ne0]
      by_cases h3 : 0 ≤ v3 ∧ v3 ≤ 999
      · rw [c_within_yes h3, m_in_yes m h3, bnd_some, bnd_some, if_neg one_ne0, if_neg one_ne0]
        by_cases h4 : 0 ≤ v4 ∧ v4 ≤ 1
        · rw [c_within_yes h4, m_in_yes m h4, bnd_some, bnd_some, if_neg one_ne0, if_neg one_ne0]
          obtain ⟨a, c1, m1, e1, e2, R⟩ := odds_L (x3 := v3) hsd hn hn1 (in01.mp h4) n 1000 0 0 c m h (Nat.zero_add _) (by omega) (Nat.le_refl _)
          exact ⟨a, c1, m1, e1, e2, R.rel⟩
        · rw [c_within_no h4, m_in_no m h4, bnd_some, bnd_some, if_pos rfl, if_pos rfl]
          exact h.rel.same rfl rfl
      · rw [c_within_no h3, m_in_no m h3, bnd_some, bnd_some, if_pos rfl, if_pos rfl]
        exact h.rel.same rfl rfl
    · rw [c_within_no h2, m_in_no m h2, bnd_some, bnd_some, if_pos rfl, if_pos rfl]
      exact h.rel.same rfl rfl
  · rw [c_within_no h1, m_in_no m h1, bnd_some, bnd_some, if_pos rfl, if_pos rfl]
    exact h.rel.same rfl rfl
end PPs4
