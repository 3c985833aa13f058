section PM6
variable {S : LW} {n : Nat} {m : ST} {v : VS} {hs : HS}
abbrev EV4 : Type := Int32 × Int32 × Int32 × Int32
def awS (v : VS) : Int32 := nI (sN v) - popS (whoS v (-1))
/-- a minute of an evening: how many taken, most away, together, the first left out -/
noncomputable def evS1 (S : LW) (x : Int32) (k : Nat) (a : EV4 × VS) : EV4 × VS :=
  ((a.1.1 + (tryS S x a.2).1, if awS (tryS S x a.2).2 ≤ a.1.2.1 then a.1.2.1 else awS (tryS S x a.2).2, a.1.2.2.1 + awS (tryS S x a.2).2, if (tryS S x a.2).1 = 0 ∧ x ≠ -1 ∧ a.1.2.2.2 = -1 then nI k else a.1.2.2.2), minS1 S x a.2)
noncomputable def evS (S : LW) (cs : Nat → Int32) (r : Nat) (v : VS) : EV4 × VS := fold (fun k a => evS1 S (cs k) k a) r 0 ((0, 0, 0, -1), v)
def EV (m : ST) (e : EV4) : Prop := ga 50 30 m 0 = e.1 ∧ ga 50 30 m 1 = e.2.1 ∧ ga 50 30 m 2 = e.2.2.1 ∧ ga 50 30 m 3 = e.2.2.2
def pGo (o k : Nat) : Prop := o = 50 ∧ (k = 3 ∨ k = 4 ∨ k = 27 ∨ k = 28 ∨ k = 30)
def pEv (o k : Nat) : Prop := o = 50 ∧ k = 30
theorem pE30 : pEv 50 30 := ⟨rfl, rfl⟩
theorem pEv_go (o k : Nat) (h : pEv o k) : pGo o k := ⟨h.1, by have := h.2; omega⟩
theorem pRun_go (o k : Nat) (h : pRun o k) : pGo o k := ⟨h.1, by have := h.2; omega⟩
theorem pTake_go (o k : Nat) (h : pTake o k) : pGo o k := ⟨h.1, by have := h.2; omega⟩
theorem pPass_go (o k : Nat) (h : pPass o k) : pGo o k := ⟨h.1, by have := h.2; omega⟩
theorem CM.ev {m' : ST} (h : CM S n m v) (f : fr pEv m m') : CM S n m' v := h.fr4 (h.1.fr f (by unfold pEv; decide)) rfl rfl f (by unfold pEv; decide) (by unfold pEv; decide)
theorem EV.fr {P : Nat → Nat → Prop} {m m' : ST} {e : EV4} (h : EV m e) (f : fr P m m') (g : ¬ P 50 30) : EV m' e := by
  unfold EV
  rw [f.ga g]
  exact h
theorem tryS_bool (S : LW) (x : Int32) (v : VS) : (tryS S x v).1 = 0 ∨ (tryS S x v).1 = 1 := by
  unfold tryS
  split
  · exact Or.inl rfl
  · split
    · exact Or.inr rfl
    · exact Or.inl rfl
/-- from the counting of who is away to the next minute -/
theorem m_goes_L110 {s : Nat} (h : CM S n m v) {e : EV4} (he : EV m e) (k : Nat) (K : Int32 → Int32 → ST → Option (Unit × ST)) : ∃ m', f_X5_goes_L110 K (nI s) (nI k) m = K (nI s) (nI (k + 1)) m' ∧ CM S n m' (passS v).2 ∧ EV m' (e.1, if awS v ≤ e.2.1 then e.2.1 else awS v, e.2.2.1 + awS v, e.2.2.2) ∧ fr pGo m m' := by
  unfold f_X5_goes_L110
  rw [m_hereSet h, bnd_some, m_onesOf, bnd_some, h.1.1, ald_lit (by decide) (by decide)]
  have key : ∀ z : Int32, ∃ m', f_X5_goes_L151 K (nI s) (nI k) (nI (sN v) - popS (whoS v (-1))) z 1 m = K (nI s) (nI (k + 1)) m' ∧ CM S n m' (passS v).2 ∧ EV m' (e.1, z, e.2.2.1 + awS v, e.2.2.2) ∧ fr pGo m m' := by
    intro z
    unfold f_X5_goes_L151
    rw [ast_lit (by decide) (by decide), ald_lit (by decide) (by decide), ast_lit (by decide) (by decide)]
    have f1 := fr_pa pE30 (upd (ga 50 30 m) 1 z) m
    have e1 : EV (pa 50 30 (upd (ga 50 30 m) 1 z) m) (e.1, z, e.2.2.1, e.2.2.2) := by
      unfold EV
      simp only [ga_pa, gs_pa, ga_ps, gs_ps, reduceIte, Nat.reduceEqDiff, reduceCtorEq, and_true, true_and, and_false, false_and, and_self, eq_self, upd_at]
      exact ⟨he.1, he.2.2.1, he.2.2.2⟩
    generalize pa 50 30 (upd (ga 50 30 m) 1 z) m = A1 at f1 e1 ⊢
    have f2 := fr_pa pE30 (upd (ga 50 30 A1) 2 (ga 50 30 A1 2 + (nI (sN v) - popS (whoS v (-1))))) A1
    have e2 : EV (pa 50 30 (upd (ga 50 30 A1) 2 (ga 50 30 A1 2 + (nI (sN v) - popS (whoS v (-1))))) A1) (e.1, z, e.2.2.1 + awS v, e.2.2.2) := by
      unfold EV
      simp only [ga_pa, gs_pa, ga_ps, gs_ps, reduceIte, Nat.reduceEqDiff, reduceCtorEq, and_true, true_and, and_false, false_and, and_self, eq_self, upd_at]
      exact ⟨e1.1, e1.2.1, by rw [e1.2.2.1]; rfl, e1.2.2.2⟩
    generalize pa 50 30 (upd (ga 50 30 A1) 2 (ga 50 30 A1 2 + (nI (sN v) - popS (whoS v (-1))))) A1 = A2 at f2 e2 ⊢
    have f12 := f1.trans f2
    obtain ⟨m', g1, g2, g3⟩ := m_minuteOf (h.ev f12)
    rw [g1, bnd_some, nI_1]
    exact ⟨m', rfl, g2, e2.fr g3 (by unfold pPass; decide), (f12.mono pEv_go).trans (g3.mono pPass_go)⟩
  by_cases hz : nI (sN v) - popS (whoS v (-1)) ≤ ga 50 30 m 1
  · rw [if_pos hz, ald_lit (by decide) (by decide)]
    have hz' : awS v ≤ e.2.1 := by rw [← he.2.1]; exact hz
    rw [if_pos hz']
    obtain ⟨m', g1, g2, g3, g4⟩ := key e.2.1
    refine ⟨m', ?_, g2, g3, g4⟩
    rw [← g1, ← he.2.1]
  · rw [if_neg hz]
    have hz' : ¬ awS v ≤ e.2.1 := by rw [← he.2.1]; exact hz
    rw [if_neg hz']
    exact key _
theorem m_goes_L {s : Nat} (hs4 : s < 4) {N0 : Nat} (hok : ∀ i, i < hs.2.1 s → celOk N0 (hs.2.2 s i)) : ∀ (r q k : Nat) (m : ST) (a : EV4 × VS), CM S n m a.2 → HM m hs → EV m a.1 → sN a.2 = N0 → k + r = hs.2.1 s → r < q → ∃ m', f_X5_goes_L30 q (nI s) (nI k) m = some ((), m') ∧ CM S n m' (fold (fun k a => evS1 S (hs.2.2 s k) k a) r k a).2 ∧ EV m' (fold (fun k a => evS1 S (hs.2.2 s k) k a) r k a).1 ∧ fr pGo m m' := by
  intro r
  induction r with
  | zero =>
    intro q k m a h hh he hN hk hq
    obtain ⟨q, rfl⟩ : ∃ z, q = z + 1 := ⟨q - 1, by omega⟩
    have h40 := (hh s hs4).2.2.1
    rw [f_X5_goes_L30, ald_nI (by omega) (by omega), (hh s hs4).2.1, if_pos (nI_le (by omega) (by omega))]
    exact ⟨m, rfl, h, he, fr.refl m⟩
  | succ r ih =>
    intro q k m a h hh he hN hk hq
    obtain ⟨q, rfl⟩ : ∃ z, q = z + 1 := ⟨q - 1, by omega⟩
    have h40 := (hh s hs4).2.2.1
    rw [f_X5_goes_L30, ald_nI (by omega) (by omega), (hh s hs4).2.1, if_neg (nI_ge (by omega) (by omega)), iS, ald_nI (by omega) (by omega), (hh s hs4).2.2.2 k (by omega)]
    generalize hx : hs.2.2 s k = x
    have ok : celOk (sN a.2) x := by rw [hN, ← hx]; exact hok k (by omega)
    obtain ⟨m1, g1, g2, g3⟩ := m_takesOne h ok
    have hh1 := hh.fr g3 (by unfold pTake; decide)
    have he1 := he.fr g3 (by unfold pTake; decide)
    rw [g1, bnd_some, ald_lit (by decide) (by decide), he1.1]
    have fin : ∀ m2 : ST, fr pGo m m2 → ∀ e : EV4, CM S n m2 (tryS S x a.2).2 → EV m2 e → HM m2 hs → e.1 = (evS1 S x k a).1.1 → e.2.1 = a.1.2.1 → e.2.2.1 = a.1.2.2.1 → e.2.2.2 = (evS1 S x k a).1.2.2.2 → ∃ m', f_X5_goes_L110 (fun v1 v2 σ => f_X5_goes_L30 q v1 v2 σ) (nI s) (nI k) m2 = some ((), m') ∧ CM S n m' (fold (fun k a => evS1 S (hs.2.2 s k) k a) (r + 1) k a).2 ∧ EV m' (fold (fun k a => evS1 S (hs.2.2 s k) k a) (r + 1) k a).1 ∧ fr pGo m m' := by
      intro m2 f2 e c2 ev2 hh2 q1 q2 q3 q4
      obtain ⟨m3, e3, c3, ev3, f3⟩ := m_goes_L110 (s := s) c2 ev2 k (fun v1 v2 σ => f_X5_goes_L30 q v1 v2 σ)
      rw [e3]
      have ev3' : EV m3 (evS1 S x k a).1 := by
        have z : (e.1, if awS (tryS S x a.2).2 ≤ e.2.1 then e.2.1 else awS (tryS S x a.2).2, e.2.2.1 + awS (tryS S x a.2).2, e.2.2.2) = (evS1 S x k a).1 := by
          rw [q1, q2, q3, q4]
          rfl
        rw [← z]
        exact ev3
      have hN1 : sN (evS1 S x k a).2 = N0 := (sX_N (sX_min S x a.2)).trans hN
      obtain ⟨m', g1, g2, g3, g4⟩ := ih q (k + 1) m3 (evS1 S x k a) c3 (hh2.fr f3 (by unfold pGo; decide)) ev3' hN1 (by omega) (by omega)
      have ef : fold (fun k a => evS1 S (hs.2.2 s k) k a) (r + 1) k a = fold (fun k a => evS1 S (hs.2.2 s k) k a) r (k + 1) (evS1 S x k a) := by
        rw [fold, hx]
      rw [ef]
      exact ⟨m', g1, g2, g3, (f2.trans f3).trans g4⟩
    have L72 : ∀ y : Int32, y = (tryS S x a.2).1 → ∃ m', f_X5_goes_L72 (fun v1 v2 σ => f_X5_goes_L30 q v1 v2 σ) (nI s) (nI k) y y a.1.1 0 m1 = some ((), m') ∧ CM S n m' (fold (fun k a => evS1 S (hs.2.2 s k) k a) (r + 1) k a).2 ∧ EV m' (fold (fun k a => evS1 S (hs.2.2 s k) k a) (r + 1) k a).1 ∧ fr pGo m m' := by
      intro y hy
      unfold f_X5_goes_L72
      rw [ast_lit (by decide) (by decide)]
      have f1 := fr_pa pE30 (upd (ga 50 30 m1) 0 (a.1.1 + y)) m1
      have e1 : EV (pa 50 30 (upd (ga 50 30 m1) 0 (a.1.1 + y)) m1) (a.1.1 + y, a.1.2.1, a.1.2.2.1, a.1.2.2.2) := by
        unfold EV
        simp only [ga_pa, gs_pa, ga_ps, gs_ps, reduceIte, Nat.reduceEqDiff, reduceCtorEq, and_true, true_and, and_false, false_and, and_self, eq_self, upd_at]
        exact ⟨he1.2.1, he1.2.2.1, he1.2.2.2⟩
      generalize pa 50 30 (upd (ga 50 30 m1) 0 (a.1.1 + y)) m1 = A1 at f1 e1 ⊢
      have c1 := g2.ev f1
      have hA := hh1.fr f1 (by unfold pEv; decide)
      have fA : fr pGo m A1 := (g3.mono pTake_go).trans (f1.mono pEv_go)
      have y1 : a.1.1 + y = (evS1 S x k a).1.1 := by rw [hy]; rfl
      by_cases hy0 : y = 0
      · rw [if_pos hy0, iS, ald_nI (by omega) (by omega), (hA s hs4).2.2.2 k (by omega), hx]
        by_cases hx1 : x = -1
        · rw [if_pos hx1]
          exact fin A1 fA _ c1 e1 hA y1 rfl rfl (by
            show a.1.2.2.2 = (if (tryS S x a.2).1 = 0 ∧ x ≠ -1 ∧ a.1.2.2.2 = -1 then nI k else a.1.2.2.2)
            rw [if_neg (fun z => z.2.1 hx1)])
        · rw [if_neg hx1, ald_lit (by decide) (by decide), e1.2.2.2]
          by_cases hf : a.1.2.2.2 = -1
          · rw [if_pos hf, ast_lit (by decide) (by decide)]
            have f2 := fr_pa pE30 (upd (ga 50 30 A1) 3 (nI k)) A1
            have e2 : EV (pa 50 30 (upd (ga 50 30 A1) 3 (nI k)) A1) (a.1.1 + y, a.1.2.1, a.1.2.2.1, nI k) := by
              unfold EV
              simp only [ga_pa, gs_pa, ga_ps, gs_ps, reduceIte, Nat.reduceEqDiff, reduceCtorEq, and_true, true_and, and_false, false_and, and_self, eq_self, upd_at]
              exact ⟨e1.1, e1.2.1, e1.2.2.1⟩
            generalize pa 50 30 (upd (ga 50 30 A1) 3 (nI k)) A1 = A2 at f2 e2 ⊢
            exact fin A2 (fA.trans (f2.mono pEv_go)) _ (c1.ev f2) e2 (hA.fr f2 (by unfold pEv; decide)) y1 rfl rfl (by
              show nI k = (if (tryS S x a.2).1 = 0 ∧ x ≠ -1 ∧ a.1.2.2.2 = -1 then nI k else a.1.2.2.2)
              rw [if_pos ⟨hy ▸ hy0, hx1, hf⟩])
          · rw [if_neg hf]
            exact fin A1 fA _ c1 e1 hA y1 rfl rfl (by
              show a.1.2.2.2 = (if (tryS S x a.2).1 = 0 ∧ x ≠ -1 ∧ a.1.2.2.2 = -1 then nI k else a.1.2.2.2)
              rw [if_neg (fun z => hf z.2.2)])
      · rw [if_neg hy0]
        exact fin A1 fA _ c1 e1 hA y1 rfl rfl (by
          show a.1.2.2.2 = (if (tryS S x a.2).1 = 0 ∧ x ≠ -1 ∧ a.1.2.2.2 = -1 then nI k else a.1.2.2.2)
          rw [if_neg (fun z => hy0 (hy ▸ z.1))])
    rcases tryS_bool S x a.2 with hb | hb
    · rw [hb, if_pos rfl]
      exact L72 0 hb.symm
    · rw [hb, if_neg one_ne0]
      exact L72 1 hb.symm
theorem m_goes (h : CM S n m v) (hh : HM m hs) {s : Nat} (hs4 : s < 4) (hok : ∀ i, i < hs.2.1 s → celOk (sN v) (hs.2.2 s i)) : ∃ m', f_X5_goes (nI s) m = some ((), m') ∧ CM S n m' (evS S (hs.2.2 s) (hs.2.1 s) v).2 ∧ EV m' (evS S (hs.2.2 s) (hs.2.1 s) v).1 ∧ fr pGo m m' := by
  unfold f_X5_goes
  rw [ast_lit (by decide) (by decide), ast_lit (by decide) (by decide), ast_lit (by decide) (by decide), ast_lit (by decide) (by decide)]
  generalize hX : pa 50 30 _ _ = X
  have fX : fr pEv m X := by
    rw [← hX]
    exact (((fr_pa pE30 _ _).trans (fr_pa pE30 _ _)).trans (fr_pa pE30 _ _)).trans (fr_pa pE30 _ _)
  have eX : EV X (0, 0, 0, -1) := by
    rw [← hX]
    unfold EV
    simp only [ga_pa, gs_pa, ga_ps, gs_ps, reduceIte, Nat.reduceEqDiff, reduceCtorEq, and_true, true_and, and_false, false_and, and_self, eq_self, upd_at]
  obtain ⟨m', g1, g2, g3, g4⟩ := m_goes_L hs4 hok (hs.2.1 s) 1000 0 X ((0, 0, 0, -1), v) (h.ev fX) (hh.fr fX (by unfold pEv; decide)) eX rfl (by omega) (by have := (hh s hs4).2.2.1; omega)
  exact ⟨m', g1, g2, g3, (fX.mono pEv_go).trans g4⟩
theorem sX_ev (S : LW) (cs : Nat → Int32) (r : Nat) (v : VS) : sX (evS S cs r v).2 = sX v := fold_inv (P := fun a : EV4 × VS => sX a.2 = sX v) (fun k a e => (sX_min S (cs k) a.2).trans e) r 0 _ rfl
end PM6
