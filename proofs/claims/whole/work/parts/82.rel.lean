/-! THE RELATION that every call keeps -/
section PRel
variable {T : TX} {c m c1 m1 : ST} {v v' : VS} {hs hs' : HS}
def TmOk (v : VS) : Prop := ∃ k, k ≤ 999 ∧ sT v = nI k
def TPR (c m : ST) : Prop := ∃ z, z ≤ 160 ∧ gs 1 1 c = nI z ∧ gs 50 6 m = nI z ∧ (∀ i, i < 160 → ga 1 0 c i = ga 50 5 m i) ∧ MW m
def IMR (T : TX) (c m : ST) (v : VS) : Prop := (gs 0 6 c = 0 ∧ gs 50 11 m = 0) ∨ (gs 0 6 c = 1 ∧ gs 50 11 m = 1 ∧ ∃ w : VS, RC 4 c w ∧ (∀ j, j < 72 → ga 50 12 m j = sR w j) ∧ ga 50 13 m 0 = nI (sN w) ∧ ga 50 13 m 1 = sT w ∧ ga 50 13 m 2 = nI (sL w) ∧ IV w ∧ sN w ≤ sN v ∧ sL w < tN T ∧ TmOk w ∧ ∀ p, p < sN w → sK w p = sK v p ∧ sO w p = sO v p)
def RelV (T : TX) (c m : ST) (v : VS) (hs : HS) : Prop := TO T m ∧ CC (SofT T) T 2 c v ∧ CM (SofT T) (tN T) m v ∧ HC c hs ∧ HM m hs ∧ gs 0 1 c = nI (tN T) ∧ gs 50 9 m = nI (tN T) ∧ TPR c m ∧ IMR T c m v ∧ TmOk v
def Rel (T : TX) (c m : ST) : Prop := ∃ v hs, RelV T c m v hs
theorem RelV.to (h : RelV T c m v hs) : TO T m := h.1
theorem RelV.cc (h : RelV T c m v hs) : CC (SofT T) T 2 c v := h.2.1
theorem RelV.cm (h : RelV T c m v hs) : CM (SofT T) (tN T) m v := h.2.2.1
theorem RelV.hc (h : RelV T c m v hs) : HC c hs := h.2.2.2.1
theorem RelV.hm (h : RelV T c m v hs) : HM m hs := h.2.2.2.2.1
theorem RelV.nc (h : RelV T c m v hs) : gs 0 1 c = nI (tN T) := h.2.2.2.2.2.1
theorem RelV.nm (h : RelV T c m v hs) : gs 50 9 m = nI (tN T) := h.2.2.2.2.2.2.1
theorem RelV.tp (h : RelV T c m v hs) : TPR c m := h.2.2.2.2.2.2.2.1
theorem RelV.im (h : RelV T c m v hs) : IMR T c m v := h.2.2.2.2.2.2.2.2.1
theorem RelV.tm (h : RelV T c m v hs) : TmOk v := h.2.2.2.2.2.2.2.2.2
theorem RelV.n6 (h : RelV T c m v hs) : sN v ≤ 6 := h.cc.2.1
theorem RelV.t6 (h : RelV T c m v hs) : tN T ≤ 6 := h.cc.2.2.2.1
theorem RelV.iv (h : RelV T c m v hs) : IV v := h.cc.2.2.2.2.2
theorem RelV.rel (h : RelV T c m v hs) : Rel T c m := ⟨v, hs, h⟩
def okC (P : Nat → Nat → Prop) : Prop := ¬ P 0 1 ∧ ¬ P 0 6 ∧ ¬ P 1 0 ∧ ¬ P 1 1 ∧ ∀ k, ¬ P 4 k
def okM (P : Nat → Nat → Prop) : Prop := ¬ P 50 5 ∧ ¬ P 50 6 ∧ ¬ P 50 7 ∧ ¬ P 50 8 ∧ ¬ P 50 9 ∧ ¬ P 50 11 ∧ ¬ P 50 12 ∧ ¬ P 50 13 ∧ ¬ P 50 22
theorem TO.of {m1 : ST} (h : TO T m) (e7 : ga 50 7 m1 = ga 50 7 m) (e8 : ga 50 8 m1 = ga 50 8 m) : TO T m1 := by
  unfold TO MTx
  rw [e7, e8]
  exact h
theorem IMR.step {Pc Pm : Nat → Nat → Prop} (h : IMR T c m v) (fc : fr Pc c c1) (gc : ¬ Pc 0 6 ∧ ∀ k, ¬ Pc 4 k) (fm : fr Pm m m1) (gm : ¬ Pm 50 11 ∧ ¬ Pm 50 12 ∧ ¬ Pm 50 13) (hn : sN v ≤ sN v') (hk : ∀ p, p < sN v → sK v' p = sK v p ∧ sO v' p = sO v p) : IMR T c1 m1 v' := by
  unfold IMR
  rw [fc.gs gc.1, fm.gs gm.1, fm.ga gm.2.1, fm.ga gm.2.2]
  rcases h with h | ⟨h1, h2, w, r, a1, a2, a3, a4, a5, a6, a7, a8, a9⟩
  · exact Or.inl h
  · exact Or.inr ⟨h1, h2, w, r.fr fc (fun k _ => gc.2 k), a1, a2, a3, a4, a5, Nat.le_trans a6 hn, a7, a8, fun p hp => by
      have z := hk p (by omega)
      rw [z.1, z.2]
      exact a9 p hp⟩
theorem TPR.fr {Pc Pm : Nat → Nat → Prop} (h : TPR c m) (fc : fr Pc c c1) (gc : ¬ Pc 1 0 ∧ ¬ Pc 1 1) (fm : fr Pm m m1) (gm : ¬ Pm 50 5 ∧ ¬ Pm 50 6 ∧ ¬ Pm 50 22) : TPR c1 m1 := by
  unfold TPR MW
  rw [fc.gs gc.2, fc.ga gc.1, fm.gs gm.2.1, fm.ga gm.1, fm.ga gm.2.2]
  exact h
theorem RelV.step {Pc Pm : Nat → Nat → Prop} (h : RelV T c m v hs) (fc : fr Pc c c1) (gc : okC Pc) (fm : fr Pm m m1) (gm : okM Pm) (hC : CC (SofT T) T 2 c1 v') (hM : CM (SofT T) (tN T) m1 v') (hn : sN v ≤ sN v') (hk : ∀ p, p < sN v → sK v' p = sK v p ∧ sO v' p = sO v p) (ht : TmOk v') (hc1 : HC c1 hs') (hm1 : HM m1 hs') : RelV T c1 m1 v' hs' := by
  obtain ⟨c01, c06, c10, c11, c4⟩ := gc
  obtain ⟨m5, m6, m7, m8, m9, m11, m12, m13, m22⟩ := gm
  exact ⟨h.to.of (fm.ga m7) (fm.ga m8), hC, hM, hc1, hm1, (fc.gs c01).trans h.nc, (fm.gs m9).trans h.nm, h.tp.fr fc ⟨c10, c11⟩ fm ⟨m5, m6, m22⟩, h.im.step fc ⟨c06, c4⟩ fm ⟨m11, m12, m13⟩ hn hk, ht⟩
/-- nothing of the state is otherwise -/
theorem RelV.keep {Pc Pm : Nat → Nat → Prop} (h : RelV T c m v hs) (fc : fr Pc c c1) (gc : okC Pc) (g5 : ∀ a k, 5 ≤ a → ¬ Pc a k) (fm : fr Pm m m1) (gm : okM Pm) (g14 : ¬ Pm 50 14 ∧ ¬ Pm 50 15 ∧ ¬ Pm 50 16) (hC : CC (SofT T) T 2 c1 v) (hM : CM (SofT T) (tN T) m1 v) : RelV T c1 m1 v hs :=
  h.step fc gc fm gm hC hM (Nat.le_refl _) (fun _ _ => ⟨rfl, rfl⟩) h.tm (h.hc.fr fc g5) (h.hm.fr fm g14)
/-- rows and the minute may be otherwise -/
theorem RelV.stepX {Pc Pm : Nat → Nat → Prop} (h : RelV T c m v hs) (fc : fr Pc c c1) (gc : okC Pc) (g5 : ∀ a k, 5 ≤ a → ¬ Pc a k) (fm : fr Pm m m1) (gm : okM Pm) (g14 : ¬ Pm 50 14 ∧ ¬ Pm 50 15 ∧ ¬ Pm 50 16) (hC : CC (SofT T) T 2 c1 v') (hM : CM (SofT T) (tN T) m1 v') (hX : sX v' = sX v) (ht : TmOk v') : RelV T c1 m1 v' hs := by
  have eN := sX_N hX
  have eK : sK v' = sK v := congrArg (fun q => q.1) hX
  have eO : sO v' = sO v := congrArg (fun q => q.2.1) hX
  exact h.step fc gc fm gm hC hM (by rw [eN]; exact Nat.le_refl _) (fun p _ => by rw [eK, eO]; exact ⟨rfl, rfl⟩) ht (h.hc.fr fc g5) (h.hm.fr fm g14)
theorem Rel.same {β : Type} {a : β} {f g : Option (β × ST)} (h : Rel T c m) (e1 : f = some (a, c)) (e2 : g = some (a, m)) : ∃ (a : β) (c1 m1 : ST), f = some (a, c1) ∧ g = some (a, m1) ∧ Rel T c1 m1 := ⟨a, c, m, e1, e2, h⟩
theorem Rel.mk {β : Type} {a : β} {f g : Option (β × ST)} (h : Rel T c1 m1) (e1 : f = some (a, c1)) (e2 : g = some (a, m1)) : ∃ (a : β) (c1 m1 : ST), f = some (a, c1) ∧ g = some (a, m1) ∧ Rel T c1 m1 := ⟨a, c1, m1, e1, e2, h⟩
theorem okC_st : okC pSt := ⟨by unfold pSt; decide, by unfold pSt; decide, by unfold pSt; decide, by unfold pSt; decide, fun k => by unfold pSt; omega⟩
theorem okC_2 : okC (pCo 2) := ⟨by unfold pCo; decide, by unfold pCo; decide, by unfold pCo; decide, by unfold pCo; decide, fun k => by unfold pCo; omega⟩
theorem okC_3 : okC (pCo 3) := ⟨by unfold pCo; decide, by unfold pCo; decide, by unfold pCo; decide, by unfold pCo; decide, fun k => by unfold pCo; omega⟩
theorem okC_bs : okC pBs := ⟨by unfold pBs; decide, by unfold pBs; decide, by unfold pBs; decide, by unfold pBs; decide, fun k => by unfold pBs; omega⟩
theorem g5_st (a k : Nat) (h : 5 ≤ a) : ¬ pSt a k := by unfold pSt; omega
theorem g5_2 (a k : Nat) (h : 5 ≤ a) : ¬ pCo 2 a k := by unfold pCo; omega
theorem g5_3 (a k : Nat) (h : 5 ≤ a) : ¬ pCo 3 a k := by unfold pCo; omega
theorem g5_bs (a k : Nat) (h : 5 ≤ a) : ¬ pBs a k := by unfold pBs; omega
theorem okM_say : okM pSay := by unfold okM pSay; decide
theorem okM_take : okM pTake := by unfold okM pTake; decide
theorem okM_pass : okM pPass := by unfold okM pPass; decide
theorem okM_run : okM pRun := by unfold okM pRun; decide
theorem okM_go : okM pGo := by unfold okM pGo; decide
theorem okM_un : okM pUn := by unfold okM pUn; decide
theorem okM_lot : okM pLot := by
  unfold okM pLot
  refine ⟨?_, ?_, ?_, ?_, ?_, ?_, ?_, ?_, ?_⟩ <;> decide
theorem okM_pl : okM pPl := by unfold okM pPl; decide
theorem okM_ki : okM pKi := by
  unfold okM pKi
  refine ⟨?_, ?_, ?_, ?_, ?_, ?_, ?_, ?_, ?_⟩ <;> decide
theorem okM_la : okM pLa := by
  unfold okM pLa
  refine ⟨?_, ?_, ?_, ?_, ?_, ?_, ?_, ?_, ?_⟩ <;> decide
theorem okM_keep : okM pKeep := by unfold okM pKeep; decide
theorem g14_say : ¬ pSay 50 14 ∧ ¬ pSay 50 15 ∧ ¬ pSay 50 16 := by unfold pSay; decide
theorem g14_take : ¬ pTake 50 14 ∧ ¬ pTake 50 15 ∧ ¬ pTake 50 16 := by unfold pTake; decide
theorem g14_pass : ¬ pPass 50 14 ∧ ¬ pPass 50 15 ∧ ¬ pPass 50 16 := by unfold pPass; decide
theorem g14_run : ¬ pRun 50 14 ∧ ¬ pRun 50 15 ∧ ¬ pRun 50 16 := by unfold pRun; decide
theorem g14_go : ¬ pGo 50 14 ∧ ¬ pGo 50 15 ∧ ¬ pGo 50 16 := by unfold pGo; decide
theorem g14_un : ¬ pUn 50 14 ∧ ¬ pUn 50 15 ∧ ¬ pUn 50 16 := by unfold pUn; decide
theorem g14_lot : ¬ pLot 50 14 ∧ ¬ pLot 50 15 ∧ ¬ pLot 50 16 := by unfold pLot; decide
theorem g14_pl : ¬ pPl 50 14 ∧ ¬ pPl 50 15 ∧ ¬ pPl 50 16 := by unfold pPl; decide
theorem g14_ki : ¬ pKi 50 14 ∧ ¬ pKi 50 15 ∧ ¬ pKi 50 16 := by unfold pKi; decide
theorem g14_la : ¬ pLa 50 14 ∧ ¬ pLa 50 15 ∧ ¬ pLa 50 16 := by unfold pLa; decide
theorem g14_keep : ¬ pKeep 50 14 ∧ ¬ pKeep 50 15 ∧ ¬ pKeep 50 16 := by unfold pKeep; decide
theorem in01 {w : Int32} : (0 ≤ w ∧ w ≤ 1) ↔ w = 0 ∨ w = 1 := by
  rw [show (1 : Int32) = nI 1 from rfl, in_nI (n := 1) (by omega)]
  constructor
  · rintro ⟨k, hk, e⟩
    rcases (show k = 0 ∨ k = 1 by omega) with rfl | rfl
    · exact Or.inl e
    · exact Or.inr e
  · rintro (e | e)
    · exact ⟨0, (by omega), e⟩
    · exact ⟨1, (by omega), e⟩
/-! the first calls -/
theorem ps_0 : PS_0 Rel := by
  rintro T c m v1 ⟨v, hs, h⟩
  unfold f_X4_count f_X5_count
  rw [c_howManyHere h.cc.1 h.n6, m_hereSet h.cm, bnd_some, bnd_some, m_onesOf, bnd_some, h.cc.1.1, h.cc.1.2.1, h.cc.1.2.2.1, h.cm.1.1, h.cm.1.2.1, h.cm.1.2.2.1, h.nc, h.nm]
  obtain ⟨z, hz, e1, e2, -⟩ := h.tp
  rw [e1, e2]
  by_cases h0 : v1 = 0
  · rw [if_pos h0, if_pos h0]; exact h.rel.same rfl rfl
  rw [if_neg h0, if_neg h0]
  by_cases h0 : v1 = 1
  · rw [if_pos h0, if_pos h0]; exact h.rel.same rfl rfl
  rw [if_neg h0, if_neg h0]
  by_cases h0 : v1 = 2
  · rw [if_pos h0, if_pos h0]; exact h.rel.same rfl rfl
  rw [if_neg h0, if_neg h0]
  by_cases h0 : v1 = 3
  · rw [if_pos h0, if_pos h0]; exact h.rel.same rfl rfl
  rw [if_neg h0, if_neg h0]
  by_cases h0 : v1 = 4
  · rw [if_pos h0, if_pos h0]; exact h.rel.same rfl rfl
  rw [if_neg h0, if_neg h0]
  by_cases h0 : v1 = 5
  · rw [if_pos h0, if_pos h0]; exact h.rel.same rfl rfl
  rw [if_neg h0, if_neg h0]
  exact h.rel.same rfl rfl
theorem ps_1 : PS_1 Rel := by
  rintro T c m v1 ⟨v, hs, h⟩
  unfold f_X4_clock f_X5_clock
  by_cases h1 : 0 ≤ v1 ∧ v1 ≤ 999
  · obtain ⟨k, hk, rfl⟩ := (in_nI (n := 999) (by omega)).mp h1
    rw [c_within_yes h1, m_in_yes m h1, bnd_some, bnd_some, if_neg one_ne0, if_neg one_ne0, put_eq, put_eq, h.cc.1.2.1, h.cm.1.2.1]
    have fc := fr_ps (P := pCo 2) (o := 2) (k := 10) (Or.inl rfl) (nI k) c
    have fm := fr_ps pP4 (nI k) m
    have hC : CC (SofT T) T 2 (ps 2 10 (nI k) c) (wTm (nI k) v) := ⟨h.cc.1.wT _, h.cc.2⟩
    have hM : CM (SofT T) (tN T) (ps 50 4 (nI k) m) (wTm (nI k) v) := h.cm.fr4 (h.cm.1.wT _) rfl rfl fm (by unfold pPass; decide) (by unfold pPass; decide)
    exact Rel.mk (h.stepX fc okC_2 g5_2 fm okM_pass g14_pass hC hM rfl ⟨k, hk, rfl⟩).rel rfl rfl
  · rw [c_within_no h1, m_in_no m h1, bnd_some, bnd_some, if_pos rfl, if_pos rfl]
    exact h.rel.same rfl rfl
theorem ps_4 : PS_4 Rel := by
  rintro T c m v1 ⟨v, hs, h⟩
  have ht6 := h.t6
  unfold f_X4_force f_X5_force
  rw [h.nc, h.nm]
  by_cases h1 : 0 ≤ v1 ∧ v1 ≤ nI (tN T) - 1
  · obtain ⟨k, hk, rfl⟩ := (le_pred (by omega)).mp h1
    rw [c_within_yes h1, m_in_yes m h1, bnd_some, bnd_some, if_neg one_ne0, if_neg one_ne0, put_eq, put_eq, h.cc.1.2.2.1, h.cm.1.2.2.1]
    have fc := fr_ps (P := pCo 2) (o := 2) (k := 11) (Or.inl rfl) (nI k) c
    have fm := fr_ps pLa10 (nI k) m
    have hC : CC (SofT T) T 2 (ps 2 11 (nI k) c) (wL k v) := ⟨⟨h.cc.1.1, h.cc.1.2.1, rfl, h.cc.1.2.2.2.1, h.cc.1.2.2.2.2⟩, h.cc.2.1, hk, h.cc.2.2.2.1, h.cc.2.2.2.2.1, h.cc.2.2.2.2.2⟩
    exact Rel.mk (h.step fc okC_2 fm okM_la hC (h.cm.wL hk) (Nat.le_refl _) (fun _ _ => ⟨rfl, rfl⟩) h.tm (h.hc.fr fc g5_2) (h.hm.fr fm g14_la)).rel rfl rfl
  · rw [c_within_no h1, m_in_no m h1, bnd_some, bnd_some, if_pos rfl, if_pos rfl]
    exact h.rel.same rfl rfl
/-- one of gentlemen, and a sort, or not -/
theorem ps_5 : PS_5 Rel := by
  rintro T c m v1 v2 v3 ⟨v, hs, h⟩
  have h6 := h.n6
  unfold f_X4_asks f_X5_asks f_X4_asks_L27 f_X5_asks_L34 f_X5_asks_L37
  by_cases h1 : 0 ≤ v1 ∧ v1 ≤ 2
  · obtain ⟨part, hpart, rfl⟩ := (in_nI (n := 2) (by omega)).mp h1
    rw [c_within_yes h1, m_in_yes m h1, bnd_some, bnd_some, if_neg one_ne0, if_neg one_ne0]
    by_cases h2 : ∃ k, k < sN v ∧ v2 = nI k
    · obtain ⟨p, hp, rfl⟩ := h2
      rw [c_has_yes h.cc.1 h6 hp, m_isOne_yes h.cm hp, bnd_some, bnd_some, if_neg one_ne0, if_neg one_ne0]
      by_cases h3 : ∃ k, k < 8 ∧ v3 = nI k
      · obtain ⟨t, ht, rfl⟩ := h3
        obtain ⟨c1, e1, f1⟩ := c_lawSays h.cc h2c (part := part) (by omega) hp ht
        obtain ⟨m1, e2, f2⟩ := m_asksOf h.cm (part := part) (by omega) hp ht
        rw [c_isSort_yes ht, m_isPlace_yes ht, bnd_some, bnd_some, if_neg one_ne0, if_neg one_ne0, e1, e2, bnd_some, bnd_some]
        exact Rel.mk (h.keep f1 okC_st g5_st f2 okM_say g14_say (h.cc.st f1) (h.cm.say f2)).rel rfl rfl
      · rw [c_isSort_no h3, m_isPlace_no h3, bnd_some, bnd_some, if_pos rfl, if_pos rfl]
        exact h.rel.same rfl rfl
    · rw [c_has_no h.cc.1 h6 h2, m_isOne_no h.cm h2, bnd_some, bnd_some, if_pos rfl, if_pos rfl]
      exact h.rel.same rfl rfl
  · rw [c_within_no h1, m_in_no m h1, bnd_some, bnd_some, if_pos rfl, if_pos rfl]
    exact h.rel.same rfl rfl
theorem ps_9 : PS_9 Rel := by
  rintro T c m v1 v2 v3 ⟨v, hs, h⟩
  have h6 := h.n6
  unfold f_X4_pinches f_X5_pinches f_X4_pinches_L18 f_X5_pinches_L15
  by_cases h2 : ∃ k, k < sN v ∧ v1 = nI k
  · obtain ⟨p, hp, rfl⟩ := h2
    rw [c_has_yes h.cc.1 h6 hp, m_isOne_yes h.cm hp, bnd_some, bnd_some, if_neg one_ne0, if_neg one_ne0]
    by_cases h3 : ∃ k, k < 8 ∧ v2 = nI k
    · obtain ⟨t, ht, rfl⟩ := h3
      rw [c_isSort_yes ht, m_isPlace_yes ht, bnd_some, bnd_some, if_neg one_ne0, if_neg one_ne0]
      by_cases h0 : v3 = 0
      · obtain ⟨c1, e1, f1⟩ := c_gone h.cc h2c hp ht
        obtain ⟨m1, e2, f2⟩ := m_goneOf h.cm hp ht
        rw [if_pos h0, if_pos h0, e1, e2, bnd_some, bnd_some]
        exact Rel.mk (h.keep f1 okC_st g5_st f2 okM_say g14_say (h.cc.st f1) (h.cm.say f2)).rel rfl rfl
      rw [if_neg h0, if_neg h0]
      by_cases h0 : v3 = 1
      · obtain ⟨c1, e1, f1⟩ := c_gains h.cc h2c hp ht
        obtain ⟨m1, e2, f2⟩ := m_gainsOf h.cm hp ht
        rw [if_pos h0, if_pos h0, e1, e2, bnd_some, bnd_some]
        exact Rel.mk (h.keep f1 okC_st g5_st f2 okM_say g14_say (h.cc.st f1) (h.cm.say f2)).rel rfl rfl
      rw [if_neg h0, if_neg h0]
      by_cases h0 : v3 = 2
      · obtain ⟨c1, e1, f1⟩ := c_spills h.cc h2c hp ht
        obtain ⟨m1, e2, f2⟩ := m_spillsOf h.cm hp ht
        rw [if_pos h0, if_pos h0, e1, e2, bnd_some, bnd_some]
        exact Rel.mk (h.keep f1 okC_st g5_st f2 okM_say g14_say (h.cc.st f1) (h.cm.say f2)).rel rfl rfl
      rw [if_neg h0, if_neg h0]
      exact h.rel.same rfl rfl
    · rw [c_isSort_no h3, m_isPlace_no h3, bnd_some, bnd_some, if_pos rfl, if_pos rfl]
      exact h.rel.same rfl rfl
  · rw [c_has_no h.cc.1 h6 h2, m_isOne_no h.cm h2, bnd_some, bnd_some, if_pos rfl, if_pos rfl]
    exact h.rel.same rfl rfl
theorem TmOk.X (h : TmOk v) (e : sT v' = sT v) : TmOk v' := by
  unfold TmOk
  rw [e]
  exact h
theorem sT_take (S : LW) (v : VS) (p t : Nat) : sT (takeS S v p t) = sT v := by
  unfold takeS
  by_cases h : nxS v p = p
  · simp only [h, if_true]; rfl
  · simp only [h, if_false]; rfl
theorem sT_pass (v : VS) : sT (passS v).2 = sT v + 1 := by
  have eT : sT (fold pass1 (sN v) 0 (0, v)).2 = sT v := fold_inv (P := fun a : Int32 × VS => sT a.2 = sT v) (fun k a e => (pass1_T k a).trans e) (sN v) 0 (0, v) rfl
  rfl
theorem ps_10 : PS_10 Rel := by
  rintro T c m v1 v2 ⟨v, hs, h⟩
  have h6 := h.n6
  unfold f_X4_pinch f_X5_pinch
  by_cases h2 : ∃ k, k < sN v ∧ v1 = nI k
  · obtain ⟨p, hp, rfl⟩ := h2
    rw [c_has_yes h.cc.1 h6 hp, m_isOne_yes h.cm hp, bnd_some, bnd_some, if_neg one_ne0, if_neg one_ne0]
    by_cases h3 : ∃ k, k < 8 ∧ v2 = nI k
    · obtain ⟨t, ht, rfl⟩ := h3
      rw [c_isSort_yes ht, m_isPlace_yes ht, bnd_some, bnd_some, if_neg one_ne0, if_neg one_ne0]
      by_cases hc : canS v p t
      · obtain ⟨c1, e1, d1, f1⟩ := c_take h.cc h2c hp ht hc
        obtain ⟨m1, e2, d2, f2⟩ := m_pinchOf h.cm hp ht
        rw [c_can_yes h.cc.1 h6 hp ht hc, m_can_yes h.cm.1 (by omega) ht hc, bnd_some, bnd_some, if_neg one_ne0, if_neg one_ne0, e1, e2, bnd_some, bnd_some, ald_nI (by omega) (by omega), iM11, ald_nI (by omega) (by omega), d1.1.left (by omega), d2.1.row (by omega)]
        exact Rel.mk (h.stepX f1 okC_2 g5_2 f2 okM_take g14_take d1 d2 (sX_take _ _ _ _) (h.tm.X (sT_take _ _ _ _))).rel rfl rfl
      · rw [c_can_no h.cc.1 h6 hp ht hc, m_can_no h.cm.1 (by omega) ht hc, bnd_some, bnd_some, if_pos rfl, if_pos rfl]
        exact h.rel.same rfl rfl
    · rw [c_isSort_no h3, m_isPlace_no h3, bnd_some, bnd_some, if_pos rfl, if_pos rfl]
      exact h.rel.same rfl rfl
  · rw [c_has_no h.cc.1 h6 h2, m_isOne_no h.cm h2, bnd_some, bnd_some, if_pos rfl, if_pos rfl]
    exact h.rel.same rfl rfl
end PRel
