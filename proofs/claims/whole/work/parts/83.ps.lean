section PPs2
variable {T : TX} {c m c1 m1 : ST} {v v' : VS} {hs hs' : HS}
theorem ga_pa_s (o k : Nat) (f : Nat → Int32) (σ : ST) : ga o k (pa o k f σ) = f := if_pos ⟨rfl, rfl⟩
/-! one who comes -/
theorem c_adm_L {p : Nat} (hp : p < 6) (x : Int32) : ∀ (r q k : Nat) (c : ST), k + r = 8 → r < q → ∃ c', f_X0_admit_L79 T q 2 x (nI p) (nI k) c = some (nI p, c') ∧ (∀ j, ga 2 8 c' j = if 8 * p + k ≤ j ∧ j < 8 * p + 8 then x else ga 2 8 c j) ∧ fr (fun a k => a = 2 ∧ k = 8) c c' := by
  intro r
  induction r with
  | zero =>
    intro q k c hk hq
    obtain ⟨q, rfl⟩ : ∃ y, q = y + 1 := ⟨q - 1, (by omega)⟩
    rw [f_X0_admit_L79, if_pos (c := (8 : Int32) ≤ nI k) (nI_le (a := 8) (by omega) (by omega))]
    exact ⟨c, rfl, fun j => by rw [if_neg (by omega)], fr.refl c⟩
  | succ r ih =>
    intro q k c hk hq
    obtain ⟨q, rfl⟩ : ∃ y, q = y + 1 := ⟨q - 1, (by omega)⟩
    rw [f_X0_admit_L79, if_neg (c := (8 : Int32) ≤ nI k) (nI_ge (b := 8) (by omega) (by omega)), iC, ast_nI (by omega) (by omega), nI_1]
    obtain ⟨c', g1, g2, g3⟩ := ih q (k + 1) (pa 2 8 (upd (ga 2 8 c) (8 * p + k) x) c) (by omega) (by omega)
    refine ⟨c', g1, fun j => ?_, (fr_pa (P := fun a k => a = 2 ∧ k = 8) ⟨rfl, rfl⟩ _ _).trans g3⟩
    rw [g2, ga_pa_s, upd_at]
    by_cases h1 : 8 * p + (k + 1) ≤ j ∧ j < 8 * p + 8
    · rw [if_pos h1, if_pos (by omega)]
    · rw [if_neg h1]
      by_cases h2 : j = 8 * p + k
      · rw [if_pos h2, if_pos (by omega)]
      · rw [if_neg h2, if_neg (by omega)]
theorem m_adm_L {p : Nat} (hp : p < 6) (x : Int32) : ∀ (r q k : Nat) (m : ST), gs 50 0 m = nI p → k + r = 8 → r < q → ∃ m', f_X5_gentleman_L63 q x (nI k) m = f_X5_gentleman_L90 m' ∧ (∀ j, ga 50 3 m' j = if 12 * p + k ≤ j ∧ j < 12 * p + 8 then x else ga 50 3 m j) ∧ fr (fun a k => a = 50 ∧ k = 3) m m' := by
  intro r
  induction r with
  | zero =>
    intro q k m h0 hk hq
    obtain ⟨q, rfl⟩ : ∃ y, q = y + 1 := ⟨q - 1, (by omega)⟩
    rw [f_X5_gentleman_L63, if_pos (c := (8 : Int32) ≤ nI k) (nI_le (a := 8) (by omega) (by omega))]
    exact ⟨m, rfl, fun j => by rw [if_neg (by omega)], fr.refl m⟩
  | succ r ih =>
    intro q k m h0 hk hq
    obtain ⟨q, rfl⟩ : ∃ y, q = y + 1 := ⟨q - 1, (by omega)⟩
    rw [f_X5_gentleman_L63, if_neg (c := (8 : Int32) ≤ nI k) (nI_ge (b := 8) (by omega) (by omega)), h0, iM, ast_nI (by omega) (by omega), nI_1]
    obtain ⟨m', g1, g2, g3⟩ := ih q (k + 1) (pa 50 3 (upd (ga 50 3 m) (12 * p + k) x) m) h0 (by omega) (by omega)
    refine ⟨m', g1, fun j => ?_, (fr_pa (P := fun a k => a = 50 ∧ k = 3) ⟨rfl, rfl⟩ _ _).trans g3⟩
    rw [g2, ga_pa_s, upd_at]
    by_cases h1 : 12 * p + (k + 1) ≤ j ∧ j < 12 * p + 8
    · rw [if_pos h1, if_pos (by omega)]
    · rw [if_neg h1]
      by_cases h2 : j = 12 * p + k
      · rw [if_pos h2, if_pos (by omega)]
      · rw [if_neg h2, if_neg (by omega)]
def admR (p : Nat) (x : Int32) (R : Nat → Int32) (j : Nat) : Int32 := if 12 * p ≤ j ∧ j < 12 * p + 8 then x else if j = 12 * p + 8 then 0 else if j = 12 * p + 9 then 0 else if j = 12 * p + 10 then -1 else if j = 12 * p + 11 then 0 else R j
def admS (x kd mo : Int32) (v : VS) : VS := (admR (sN v) x v.1, upd v.2.1 (sN v) kd, upd v.2.2.1 (sN v) mo, sN v + 1, v.2.2.2.2)
theorem admR_old {p q i : Nat} {x : Int32} {R : Nat → Int32} (h : q ≠ p) (hi : i < 12) : admR p x R (12 * q + i) = R (12 * q + i) := by
  unfold admR
  rw [if_neg (by omega), if_neg (by omega), if_neg (by omega), if_neg (by omega), if_neg (by omega)]
theorem admR_g {p i : Nat} {x : Int32} {R : Nat → Int32} (hi : i < 8) : admR p x R (12 * p + i) = x := by
  unfold admR
  rw [if_pos (by omega)]
theorem admR_8 {p : Nat} {x : Int32} {R : Nat → Int32} : admR p x R (12 * p + 8) = 0 := by
  unfold admR
  rw [if_neg (by omega), if_pos rfl]
theorem admR_9 {p : Nat} {x : Int32} {R : Nat → Int32} : admR p x R (12 * p + 9) = 0 := by
  unfold admR
  rw [if_neg (by omega), if_neg (by omega), if_pos rfl]
theorem admR_10 {p : Nat} {x : Int32} {R : Nat → Int32} : admR p x R (12 * p + 10) = -1 := by
  unfold admR
  rw [if_neg (by omega), if_neg (by omega), if_neg (by omega), if_pos rfl]
theorem admR_11 {p : Nat} {x : Int32} {R : Nat → Int32} : admR p x R (12 * p + 11) = 0 := by
  unfold admR
  rw [if_neg (by omega), if_neg (by omega), if_neg (by omega), if_neg (by omega), if_pos rfl]
theorem iv_adm {e kd mo : Nat} (iv : IV v) (he : e ≤ 9) (hk : kd < 6) (hm : mo ≤ 9) : IV (admS (nI e) (nI kd) (nI mo) v) := by
  intro q hq
  have hq : q < sN v + 1 := hq
  have eR : ∀ j, sR (admS (nI e) (nI kd) (nI mo) v) j = admR (sN v) (nI e) (sR v) j := fun _ => rfl
  have eK : sK (admS (nI e) (nI kd) (nI mo) v) q = if q = sN v then nI kd else sK v q := rfl
  have eO : sO (admS (nI e) (nI kd) (nI mo) v) q = if q = sN v then nI mo else sO v q := rfl
  rw [eK, eO]
  by_cases hqp : q = sN v
  · rw [if_pos hqp, if_pos hqp, hqp]
    refine ⟨fun t ht => ⟨e, he, by rw [eR, admR_g ht]⟩, ⟨0, (by omega), by rw [eR, admR_8]; rfl⟩, ⟨0, (by omega), by rw [eR, admR_9]; rfl⟩, Or.inl (by rw [eR, admR_10]), ⟨0, (by omega), by rw [eR, admR_11]; rfl, Or.inl (by rw [eR, admR_10])⟩, ⟨kd, hk, rfl⟩, ⟨mo, hm, rfl⟩⟩
  · rw [if_neg hqp, if_neg hqp]
    obtain ⟨h1, h2, h3, h4, h5, h6, h7⟩ := iv q (by omega)
    refine ⟨fun t ht => ?_, ?_, ?_, ?_, ?_, h6, h7⟩
    · rw [eR, admR_old hqp (by omega)]; exact h1 t ht
    · rw [eR, admR_old hqp (by omega)]; exact h2
    · rw [eR, admR_old hqp (by omega)]; exact h3
    · rw [eR, admR_old hqp (by omega)]; exact h4
    · rw [eR, eR, admR_old hqp (by omega), admR_old hqp (by omega)]; exact h5
theorem c_admit (h : RC 2 c v) (h6 : sN v < 6) (x kd mo : Int32) : ∃ c', f_X0_admit T 2 kd mo x c = some (nI (sN v), c') ∧ RC 2 c' (admS x kd mo v) ∧ fr (pCo 2) c c' := by
  unfold f_X0_admit
  rw [h.1, if_pos (c := nI (sN v) < (6 : Int32)) (nI_lt (b := 6) h6 (by omega)), put_eq, ast_nI (by omega) (by omega), ast_nI (by omega) (by omega), ast_nI (by omega) (by omega), ast_nI (by omega) (by omega), ast_nI (by omega) (by omega), ast_nI (by omega) (by omega), nI_1, show (0 : Int32) = nI 0 from rfl]
  generalize hA : pa 2 7 _ _ = A
  have fA : fr (pCo 2) c A := by
    rw [← hA]
    exact (((((((fr_ps (pCo_o 2 9) _ _).trans (fr_pa (pCo_o 2 2) _ _)).trans (fr_pa (pCo_o 2 3) _ _)).trans (fr_pa (pCo_o 2 4) _ _)).trans (fr_pa (pCo_o 2 5) _ _)).trans (fr_pa (pCo_o 2 6) _ _)).trans (fr_pa (pCo_o 2 7) _ _))
  have a9 : gs 2 9 A = nI (sN v + 1) := by rw [← hA]; simp only [ga_pa, gs_pa, ga_ps, gs_ps, reduceIte, Nat.reduceEqDiff, reduceCtorEq, and_true, true_and, and_false, false_and, and_self, eq_self]
  have a10 : gs 2 10 A = gs 2 10 c := by rw [← hA]; simp only [ga_pa, gs_pa, ga_ps, gs_ps, reduceIte, Nat.reduceEqDiff, reduceCtorEq, and_true, true_and, and_false, false_and, and_self, eq_self]
  have a11 : gs 2 11 A = gs 2 11 c := by rw [← hA]; simp only [ga_pa, gs_pa, ga_ps, gs_ps, reduceIte, Nat.reduceEqDiff, reduceCtorEq, and_true, true_and, and_false, false_and, and_self, eq_self]
  have a2 : ga 2 2 A = upd (ga 2 2 c) (sN v) kd := by rw [← hA]; simp only [ga_pa, gs_pa, ga_ps, gs_ps, reduceIte, Nat.reduceEqDiff, reduceCtorEq, and_true, true_and, and_false, false_and, and_self, eq_self]
  have a3 : ga 2 3 A = upd (ga 2 3 c) (sN v) mo := by rw [← hA]; simp only [ga_pa, gs_pa, ga_ps, gs_ps, reduceIte, Nat.reduceEqDiff, reduceCtorEq, and_true, true_and, and_false, false_and, and_self, eq_self]
  have a4 : ga 2 4 A = upd (ga 2 4 c) (sN v) (nI 0) := by rw [← hA]; simp only [ga_pa, gs_pa, ga_ps, gs_ps, reduceIte, Nat.reduceEqDiff, reduceCtorEq, and_true, true_and, and_false, false_and, and_self, eq_self]
  have a5 : ga 2 5 A = upd (ga 2 5 c) (sN v) (nI 0) := by rw [← hA]; simp only [ga_pa, gs_pa, ga_ps, gs_ps, reduceIte, Nat.reduceEqDiff, reduceCtorEq, and_true, true_and, and_false, false_and, and_self, eq_self]
  have a6 : ga 2 6 A = upd (ga 2 6 c) (sN v) (-1) := by rw [← hA]; simp only [ga_pa, gs_pa, ga_ps, gs_ps, reduceIte, Nat.reduceEqDiff, reduceCtorEq, and_true, true_and, and_false, false_and, and_self, eq_self]
  have a7 : ga 2 7 A = upd (ga 2 7 c) (sN v) (nI 0) := by rw [← hA]; simp only [ga_pa, gs_pa, ga_ps, gs_ps, reduceIte, Nat.reduceEqDiff, reduceCtorEq, and_true, true_and, and_false, false_and, and_self, eq_self]
  have a8 : ga 2 8 A = ga 2 8 c := by rw [← hA]; simp only [ga_pa, gs_pa, ga_ps, gs_ps, reduceIte, Nat.reduceEqDiff, reduceCtorEq, and_true, true_and, and_false, false_and, and_self, eq_self]
  obtain ⟨c', e, g8, f⟩ := c_adm_L (T := T) h6 x 8 1000 0 A (by omega) (by omega)
  refine ⟨c', e, ⟨?_, ?_, ?_, fun q hq => ?_, fun q hq => ?_⟩, fA.trans (f.mono (fun a k y => Or.inl y.1))⟩
  · rw [f.gs (by decide), a9]; rfl
  · rw [f.gs (by decide), a10]; exact h.2.1
  · rw [f.gs (by decide), a11]; exact h.2.2.1
  · rw [f.ga (k := 4) (by decide), f.ga (k := 5) (by decide), f.ga (k := 6) (by decide), f.ga (k := 7) (by decide), a4, a5, a6, a7]
    have eR : ∀ j, sR (admS x kd mo v) j = admR (sN v) x (sR v) j := fun _ => rfl
    by_cases hqp : q = sN v
    · rw [hqp]
      refine ⟨fun t ht => ?_, ?_, ?_, ?_, ?_⟩
      · rw [g8, if_pos (by omega), eR, admR_g ht]
      · rw [upd_eq, eR, admR_8]; rfl
      · rw [upd_eq, eR, admR_9]; rfl
      · rw [upd_eq, eR, admR_10]
      · rw [upd_eq, eR, admR_11]; rfl
    · refine ⟨fun t ht => ?_, ?_, ?_, ?_, ?_⟩
      · rw [g8, if_neg (by omega), a8, eR, admR_old hqp (by omega)]; exact h.g hq ht
      · rw [upd_ne _ _ hqp, eR, admR_old hqp (by omega)]; exact h.wit hq
      · rw [upd_ne _ _ hqp, eR, admR_old hqp (by omega)]; exact h.sand hq
      · rw [upd_ne _ _ hqp, eR, admR_old hqp (by omega)]; exact h.place hq
      · rw [upd_ne _ _ hqp, eR, admR_old hqp (by omega)]; exact h.left hq
  · have hq : q < sN v + 1 := hq
    rw [f.ga (k := 2) (by decide), f.ga (k := 3) (by decide), a2, a3]
    show upd (ga 2 2 c) (sN v) kd q = upd (sK v) (sN v) kd q ∧ upd (ga 2 3 c) (sN v) mo q = upd (sO v) (sN v) mo q
    by_cases hqp : q = sN v
    · rw [hqp, upd_eq, upd_eq, upd_eq, upd_eq]
      exact ⟨rfl, rfl⟩
    · rw [upd_ne _ _ hqp, upd_ne _ _ hqp, upd_ne _ _ hqp, upd_ne _ _ hqp]
      exact h.2.2.2.2 q (by omega)
def pGe (o k : Nat) : Prop := o = 50 ∧ (k = 0 ∨ k = 1 ∨ k = 2 ∨ k = 3)
theorem pG_0 : pGe 50 0 := ⟨rfl, (by decide)⟩
theorem pG_1 : pGe 50 1 := ⟨rfl, (by decide)⟩
theorem pG_2 : pGe 50 2 := ⟨rfl, (by decide)⟩
theorem pG_3 : pGe 50 3 := ⟨rfl, (by decide)⟩
theorem okM_ge : okM pGe := by unfold okM pGe; decide
theorem g14_ge : ¬ pGe 50 14 ∧ ¬ pGe 50 15 ∧ ¬ pGe 50 16 := by unfold pGe; decide
theorem m_admit {S : LW} {n : Nat} (h : RM m v) (h6 : sN v < 6) (x kd mo : Int32) : ∃ m', ast 50 1 6 (gs 50 0 m) kd m (fun t47 => ast 50 2 6 (gs 50 0 t47) mo t47 (fun t60 => f_X5_gentleman_L63 1000 x (0 : Int32) t60)) = some (nI (sN v), m') ∧ RM m' (admS x kd mo v) ∧ fr pGe m m' := by
  rw [h.1, ast_nI (by omega) (by omega), gs_pa, h.1, ast_nI (by omega) (by omega)]
  generalize hA : pa 50 2 _ _ = A
  have fA : fr pGe m A := by
    rw [← hA]
    exact (fr_pa pG_1 _ _).trans (fr_pa pG_2 _ _)
  have a0 : gs 50 0 A = nI (sN v) := by rw [← hA]; simp only [ga_pa, gs_pa, ga_ps, gs_ps, reduceIte, Nat.reduceEqDiff, reduceCtorEq, and_true, true_and, and_false, false_and, and_self, eq_self]; exact h.1
  have a4 : gs 50 4 A = sT v := by rw [← hA]; simp only [ga_pa, gs_pa, ga_ps, gs_ps, reduceIte, Nat.reduceEqDiff, reduceCtorEq, and_true, true_and, and_false, false_and, and_self, eq_self]; exact h.2.1
  have a10 : gs 50 10 A = nI (sL v) := by rw [← hA]; simp only [ga_pa, gs_pa, ga_ps, gs_ps, reduceIte, Nat.reduceEqDiff, reduceCtorEq, and_true, true_and, and_false, false_and, and_self, eq_self]; exact h.2.2.1
  have a1 : ga 50 1 A = upd (ga 50 1 m) (sN v) kd := by rw [← hA]; simp only [ga_pa, gs_pa, ga_ps, gs_ps, reduceIte, Nat.reduceEqDiff, reduceCtorEq, and_true, true_and, and_false, false_and, and_self, eq_self]
  have a2 : ga 50 2 A = upd (ga 50 2 m) (sN v) mo := by rw [← hA]; simp only [ga_pa, gs_pa, ga_ps, gs_ps, reduceIte, Nat.reduceEqDiff, reduceCtorEq, and_true, true_and, and_false, false_and, and_self, eq_self]
  have a3 : ga 50 3 A = ga 50 3 m := by rw [← hA]; simp only [ga_pa, gs_pa, ga_ps, gs_ps, reduceIte, Nat.reduceEqDiff, reduceCtorEq, and_true, true_and, and_false, false_and, and_self, eq_self]
  obtain ⟨A2, e, g3, f⟩ := m_adm_L h6 x 8 1000 0 A a0 (by omega) (by omega)
  rw [show f_X5_gentleman_L63 1000 x 0 A = f_X5_gentleman_L63 1000 x (nI 0) A from rfl, e]
  unfold f_X5_gentleman_L90
  have b0 : gs 50 0 A2 = nI (sN v) := (f.gs (by decide)).trans a0
  rw [b0, iM8, ast_nI (by omega) (by omega), gs_pa, b0, iM9, ast_nI (by omega) (by omega), gs_pa, gs_pa, b0, iM10, ast_nI (by omega) (by omega), gs_pa, gs_pa, gs_pa, b0, iM11, ast_nI (by omega) (by omega), put_eq, gs_pa, gs_pa, gs_pa, gs_pa, b0, nI_1, gs_ps, if_pos ⟨rfl, rfl⟩, nI_pred]
  refine ⟨_, rfl, ⟨?_, ?_, ?_, fun j hj => ?_, fun q hq => ?_⟩, ((((fA.trans (f.mono (fun a k y => ⟨y.1, Or.inr (Or.inr (Or.inr y.2))⟩))).trans (fr_pa pG_3 _ _)).trans (fr_pa pG_3 _ _)).trans (fr_pa pG_3 _ _)).trans ((fr_pa pG_3 _ _).trans (fr_ps pG_0 _ _))⟩
  · rw [gs_ps, if_pos ⟨rfl, rfl⟩]; rfl
  · rw [gs_ps, if_neg (by decide), gs_pa, gs_pa, gs_pa, gs_pa, f.gs (by decide)]; exact a4
  · rw [gs_ps, if_neg (by decide), gs_pa, gs_pa, gs_pa, gs_pa, f.gs (by decide)]; exact a10
  · rw [ga_ps]
    simp only [ga_pa, and_self, reduceIte]
    rw [upd_at, upd_at, upd_at, upd_at, g3, a3]
    show _ = admR (sN v) x (sR v) j
    unfold admR
    rw [← h.row hj, Nat.add_zero]
    repeat' split
    all_goals first
      | rfl
      | (exfalso; omega)
  · have hq : q < sN v + 1 := hq
    simp only [ga_ps, ga_pa, and_true, true_and, Nat.reduceEqDiff, reduceIte]
    rw [f.ga (k := 1) (by decide), f.ga (k := 2) (by decide), a1, a2]
    show upd (ga 50 1 m) (sN v) kd q = upd (sK v) (sN v) kd q ∧ upd (ga 50 2 m) (sN v) mo q = upd (sO v) (sN v) mo q
    by_cases hqp : q = sN v
    · rw [hqp, upd_eq, upd_eq, upd_eq, upd_eq]
      exact ⟨rfl, rfl⟩
    · rw [upd_ne _ _ hqp, upd_ne _ _ hqp, upd_ne _ _ hqp, upd_ne _ _ hqp]
      exact h.2.2.2.2 q (by omega)
theorem gent (h : RelV T c m v hs) (v1 v2 : Int32) : ∃ (a : Int32) (c1 m1 : ST) (v' : VS), f_X4_gentleman T v1 v2 c = some (a, c1) ∧ f_X5_gentleman v1 v2 m = some (a, m1) ∧ RelV T c1 m1 v' hs ∧ (a < 0 ∨ ∃ k, k < 6 ∧ a = nI k) := by
  have h6 := h.n6
  unfold f_X4_gentleman f_X5_gentleman f_X4_gentleman_L20 f_X5_gentleman_L20
  by_cases h1 : 0 ≤ v1 ∧ v1 ≤ 59
  · obtain ⟨k, hk, rfl⟩ := (in_nI (n := 59) (by omega)).mp h1
    rw [c_within_yes h1, m_in_yes m h1, bnd_some, bnd_some, if_neg one_ne0, if_neg one_ne0]
    by_cases h2 : 0 ≤ v2 ∧ v2 ≤ 9
    · obtain ⟨e, he, rfl⟩ := (in_nI (n := 9) (by omega)).mp h2
      rw [c_within_yes h2, m_in_yes m h2, bnd_some, bnd_some, if_neg one_ne0, if_neg one_ne0, h.cc.1.1, h.cm.1.1]
      by_cases hN : sN v < 6
      · have d1 : nI k / 10 = nI (k / 10) := pk_div (a := k) (d := 10) (by omega) (by omega) (by omega)
        have d2 : nI k - nI k / 10 * 10 = nI (k % 10) := pk_rem (a := k) (d := 10) (by omega) (by omega) (by omega)
        obtain ⟨c1, e1, r1, f1⟩ := c_admit (T := T) h.cc.1 hN (nI e) (nI (k / 10)) (nI (k % 10))
        obtain ⟨m1, e2, r2, f2⟩ := m_admit (S := SofT T) (n := tN T) h.cm.1 hN (nI e) (nI (k / 10)) (nI (k % 10))
        rw [h.cm.1.1] at e2
        rw [if_pos (c := nI (sN v) < (6 : Int32)) (nI_lt (b := 6) hN (by omega)), if_neg (fun g => by have := (nI_eq (a := sN v) (b := 6) (by omega) (by omega)).mp g; omega), d2, d1, e1, bnd_some, e2]
        have hC : CC (SofT T) T 2 c1 (admS (nI e) (nI (k / 10)) (nI (k % 10)) v) := ⟨r1, show sN v + 1 ≤ 6 by omega, h.cc.2.2.1, h.cc.2.2.2.1, h.cc.2.2.2.2.1, iv_adm h.iv he (by omega) (by omega)⟩
        have hM : CM (SofT T) (tN T) m1 (admS (nI e) (nI (k / 10)) (nI (k % 10)) v) := ⟨r2, show sN v + 1 ≤ 6 by omega, h.cm.2.2.1, h.cm.2.2.2.1, h.cm.2.2.2.2.fr f2 (by unfold pGe; decide) (by unfold pGe; decide)⟩
        refine ⟨_, c1, m1, _, rfl, rfl, h.step f1 okC_2 f2 okM_ge hC hM (Nat.le_succ _) (fun p hp => ?_) h.tm (h.hc.fr f1 g5_2) (h.hm.fr f2 g14_ge), Or.inr ⟨sN v, hN, rfl⟩⟩
        exact ⟨upd_ne _ _ (by omega), upd_ne _ _ (by omega)⟩
      · rw [if_neg (c := nI (sN v) < (6 : Int32)) (nI_nlt (b := 6) (by omega) (by omega)), if_pos (c := nI (sN v) = (6 : Int32)) (by rw [show sN v = 6 by omega]; rfl)]
        exact ⟨_, c, m, v, rfl, rfl, h, Or.inl (by decide)⟩
    · rw [c_within_no h2, m_in_no m h2, bnd_some, bnd_some, if_pos rfl, if_pos rfl]
      exact ⟨_, c, m, v, rfl, rfl, h, Or.inl (by decide)⟩
  · rw [c_within_no h1, m_in_no m h1, bnd_some, bnd_some, if_pos rfl, if_pos rfl]
    exact ⟨_, c, m, v, rfl, rfl, h, Or.inl (by decide)⟩
theorem ps_6 : PS_6 Rel := by
  rintro T c m v1 v2 ⟨v, hs, h⟩
  obtain ⟨a, c1, m1, v', e1, e2, h', -⟩ := gent h v1 v2
  exact ⟨a, c1, m1, e1, e2, v', hs, h'⟩
theorem ps_7 : PS_7 Rel := by
  rintro T c m v1 v2 v3 ⟨v, hs, h⟩
  have h6 := h.n6
  unfold f_X4_put f_X5_put f_X4_put_L45 f_X5_put_L42 f_X4_put_L39 f_X5_put_L36
  by_cases h2 : ∃ k, k < sN v ∧ v1 = nI k
  · obtain ⟨p, hp, rfl⟩ := h2
    rw [c_has_yes h.cc.1 h6 hp, m_isOne_yes h.cm hp, bnd_some, bnd_some, if_neg one_ne0, if_neg one_ne0]
    by_cases h3 : 0 ≤ v2 ∧ v2 ≤ 8
    · obtain ⟨t, ht, rfl⟩ := (in_nI (n := 8) (by omega)).mp h3
      rw [c_within_yes h3, m_in_yes m h3, bnd_some, bnd_some, if_neg one_ne0, if_neg one_ne0]
      have go : ∀ b : Nat, b = (if t = 8 then 99 else 9) → ∃ (a : Int32) (c1 m1 : ST), bnd (f_X4_within T v3 0 (nI b) c) (fun y39 t39 => (if y39 = 0 then some ((-7 : Int32), t39) else bnd (f_X0_setState T 2 (nI p) (nI t) v3 t39) (fun y55 t55 => some (y55, t55)))) = some (a, c1) ∧ bnd (f_X5_in v3 0 (nI b) m) (fun y36 t36 => (if y36 = 0 then some ((-7 : Int32), t36) else ald (ga 50 3 t36) 72 (((12 : Int32) * nI p) + nI t) (fun x55 => ast 50 3 72 (((12 : Int32) * nI p) + nI t) v3 t36 (fun t69 => some (x55, t69))))) = some (a, m1) ∧ Rel T c1 m1 := by
        intro b hb
        have hb99 : b ≤ 99 := by rw [hb]; split <;> omega
        by_cases h4 : 0 ≤ v3 ∧ v3 ≤ nI b
        · obtain ⟨k, hk, rfl⟩ := (in_nI (n := b) (by omega)).mp h4
          obtain ⟨c1, e1, d1, f1⟩ := c_setState h.cc (t := t) hp (by omega) (show k ≤ (if t = 8 then 99 else 9) by rw [← hb]; exact hk)
          rw [c_within_yes h4, m_in_yes m h4, bnd_some, bnd_some, if_neg one_ne0, if_neg one_ne0, e1, bnd_some, iM, ald_nI (by omega) (by omega), ast_nI (by omega) (by omega), h.cm.1.row (by omega)]
          exact Rel.mk (h.stepX f1 okC_2 g5_2 (fr_pa pT3 _ _) okM_take g14_take d1 (h.cm.wr _) rfl h.tm).rel rfl rfl
        · rw [c_within_no h4, m_in_no m h4, bnd_some, bnd_some, if_pos rfl, if_pos rfl]
          exact h.rel.same rfl rfl
      by_cases h8 : t = 8
      · rw [if_pos (show nI t = 8 by rw [h8]; rfl), if_pos (show nI t = 8 by rw [h8]; rfl)]
        exact go 99 (by rw [if_pos h8])
      · rw [if_neg (c := nI t = 8) (fun y => h8 ((nI_eq (by omega) (by omega)).mp (show nI t = nI 8 from y))), if_neg (c := nI t = 8) (fun y => h8 ((nI_eq (by omega) (by omega)).mp (show nI t = nI 8 from y)))]
        exact go 9 (by rw [if_neg h8])
    · rw [c_within_no h3, m_in_no m h3, bnd_some, bnd_some, if_pos rfl, if_pos rfl]
      exact h.rel.same rfl rfl
  · rw [c_has_no h.cc.1 h6 h2, m_isOne_no h.cm h2, bnd_some, bnd_some, if_pos rfl, if_pos rfl]
    exact h.rel.same rfl rfl
theorem ps_8 : PS_8 Rel := by
  rintro T c m v1 v2 ⟨v, hs, h⟩
  have h6 := h.n6
  unfold f_X4_told f_X5_told
  by_cases h2 : ∃ k, k < sN v ∧ v1 = nI k
  · obtain ⟨p, hp, rfl⟩ := h2
    rw [c_has_yes h.cc.1 h6 hp, m_isOne_yes h.cm hp, bnd_some, bnd_some, if_neg one_ne0, if_neg one_ne0]
    by_cases h3 : ∃ k, k < 8 ∧ v2 = nI k
    · obtain ⟨t, ht, rfl⟩ := h3
      rw [c_isSort_yes ht, m_in_yes (b := 8) m ((in_nI (n := 8) (by omega)).mpr ⟨t, (by omega), rfl⟩), bnd_some, bnd_some, if_neg one_ne0, if_neg one_ne0, iC, iM, ald_nI (by omega) (by omega), ald_nI (by omega) (by omega), h.cc.1.g (by omega) ht, h.cm.1.row (by omega)]
      exact h.rel.same rfl rfl
    · rw [c_isSort_no h3, bnd_some, if_pos rfl, ald_nI (by omega) (by omega), ald_nI (by omega) (by omega), ald_nI (by omega) (by omega), ald_nI (by omega) (by omega), ald_nI (by omega) (by omega), ald_nI (by omega) (by omega), h.cc.1.wit (by omega), h.cc.1.sand (by omega), h.cc.1.place (by omega), h.cc.1.left (by omega), (h.cc.1.2.2.2.2 p hp).1, (h.cc.1.2.2.2.2 p hp).2]
      by_cases h8 : v2 = 8
      · subst h8
        rw [if_pos rfl, m_in_yes (b := 8) m (by decide), bnd_some, if_neg one_ne0, iM8, ald_nI (by omega) (by omega), h.cm.1.row (by omega)]
        exact h.rel.same rfl rfl
      · have hn : ¬ (0 ≤ v2 ∧ v2 ≤ 8) := fun g => by
          obtain ⟨k, hk, e⟩ := (in_nI (n := 8) (by omega)).mp g
          by_cases hk8 : k = 8
          · exact h8 (by rw [e, hk8]; rfl)
          · exact h3 ⟨k, (by omega), e⟩
        rw [if_neg h8, m_in_no m hn, bnd_some, if_pos rfl, ald_nI (by omega) (by omega), ald_nI (by omega) (by omega), (h.cm.1.2.2.2.2 p hp).1, (h.cm.1.2.2.2.2 p hp).2]
        by_cases h9 : v2 = 9
        · rw [if_pos h9, if_pos h9]; exact h.rel.same rfl rfl
        rw [if_neg h9, if_neg h9]
        by_cases h9 : v2 = 10
        · rw [if_pos h9, if_pos h9]; exact h.rel.same rfl rfl
        rw [if_neg h9, if_neg h9]
        have row : ∀ i, 9 ≤ i → i < 12 → (12 : Int32) * nI p + nI (i + 2) - 2 = nI (12 * p + i) := fun i h1 h2 => by
          rw [iM]
          show nI (12 * p + (i + 2)) - nI 2 = _
          rw [nI_sub (by omega)]
          congr 1
        by_cases h9 : v2 = 11
        · rw [if_pos h9, if_pos h9, h9, show (12 : Int32) * nI p + 11 - 2 = nI (12 * p + 9) from row 9 (by omega) (by omega), ald_nI (by omega) (by omega), h.cm.1.row (by omega)]; exact h.rel.same rfl rfl
        rw [if_neg h9, if_neg h9]
        by_cases h9 : v2 = 12
        · rw [if_pos h9, if_pos h9, h9, show (12 : Int32) * nI p + 12 - 2 = nI (12 * p + 10) from row 10 (by omega) (by omega), ald_nI (by omega) (by omega), h.cm.1.row (by omega)]; exact h.rel.same rfl rfl
        rw [if_neg h9, if_neg h9]
        by_cases h9 : v2 = 13
        · rw [if_pos h9, if_pos h9, h9, show (12 : Int32) * nI p + 13 - 2 = nI (12 * p + 11) from row 11 (by omega) (by omega), ald_nI (by omega) (by omega), h.cm.1.row (by omega)]; exact h.rel.same rfl rfl
        rw [if_neg h9, if_neg h9]
        exact h.rel.same rfl rfl
  · rw [c_has_no h.cc.1 h6 h2, m_isOne_no h.cm h2, bnd_some, bnd_some, if_pos rfl, if_pos rfl]
    exact h.rel.same rfl rfl
theorem ps_11 : PS_11 Rel := by
  rintro T c m v1 v2 v3 ⟨v, hs, h⟩
  have h6 := h.n6
  unfold f_X4_give f_X5_give f_X4_give_L27 f_X5_give_L21 f_X4_give_L84 f_X5_give_L64
  by_cases h1 : ∃ k, k < sN v ∧ v1 = nI k
  · obtain ⟨p, hp, rfl⟩ := h1
    rw [c_has_yes h.cc.1 h6 hp, m_isOne_yes h.cm hp, bnd_some, bnd_some, if_neg one_ne0, if_neg one_ne0]
    by_cases h2 : ∃ k, k < sN v ∧ v2 = nI k
    · obtain ⟨q, hq, rfl⟩ := h2
      rw [c_has_yes h.cc.1 h6 hq, m_isOne_yes h.cm hq, bnd_some, bnd_some, if_neg one_ne0, if_neg one_ne0]
      by_cases hpq : nI p = nI q
      · rw [if_pos hpq, if_pos hpq]
        exact h.rel.same rfl rfl
      · have hne : q ≠ p := fun e => hpq (by rw [e])
        rw [if_neg hpq, if_neg hpq]
        by_cases h3 : ∃ k, k < 8 ∧ v3 = nI k
        · obtain ⟨t, ht, rfl⟩ := h3
          obtain ⟨a, ha, ea⟩ := (h.iv p hp).1 t ht
          obtain ⟨b, hb, eb⟩ := (h.iv q hq).1 t ht
          rw [c_isSort_yes ht, m_isPlace_yes ht, bnd_some, bnd_some, if_neg one_ne0, if_neg one_ne0, iC, iC, iM, iM, ald_nI (by omega) (by omega), ald_nI (by omega) (by omega), ald_nI (by omega) (by omega), ald_nI (by omega) (by omega), ald_nI (by omega) (by omega), ald_nI (by omega) (by omega), h.cc.1.g (by omega) ht, h.cc.1.g (by omega) ht, h.cm.1.row (by omega), h.cm.1.row (by omega), ea, eb]
          by_cases h0 : a = 0
          · rw [if_pos (c := nI a ≤ 0) (by rw [h0]; decide), if_pos (c := nI a = 0) (by rw [h0]; rfl)]
            exact h.rel.same rfl rfl
          · rw [if_neg (c := nI a ≤ 0) (nI_nle (by omega) (by omega)), if_neg (c := nI a = 0) (fun g => h0 ((nI_eq (a := a) (b := 0) (by omega) (by omega)).mp g))]
            by_cases h9 : b < 9
            · rw [if_pos (c := nI b < (9 : Int32)) (nI_lt (b := 9) h9 (by omega)), if_neg (c := nI b = (9 : Int32)) (fun g => by have := (nI_eq (a := b) (b := 9) (by omega) (by omega)).mp g; omega)]
              have es : nI a - 1 = nI (a - 1) := nI_sub (b := 1) (by omega)
              rw [es, ast_nI (by omega) (by omega), ast_nI (by omega) (by omega)]
              have d1 := h.cc.wG (p := p) ht (show a - 1 ≤ 9 by omega)
              have e1 := h.cm.wr (i := 12 * p + t) (nI (a - 1))
              have f1 := fr_pa (pCo_o 2 8) (upd (ga 2 8 c) (8 * p + t) (nI (a - 1))) c
              have g1 := fr_pa pT3 (upd (ga 50 3 m) (12 * p + t) (nI (a - 1))) m
              generalize pa 2 8 (upd (ga 2 8 c) (8 * p + t) (nI (a - 1))) c = A at d1 f1 ⊢
              generalize pa 50 3 (upd (ga 50 3 m) (12 * p + t) (nI (a - 1))) m = A' at e1 g1 ⊢
              have er : sR (wR (12 * p + t) (nI (a - 1)) v) (12 * q + t) = nI b := (upd_ne _ _ (by omega)).trans eb
              rw [ald_nI (by omega) (by omega), ald_nI (by omega) (by omega), d1.1.g (by omega) ht, e1.1.row (by omega), er, nI_1, ast_nI (by omega) (by omega), ast_nI (by omega) (by omega)]
              have d2 := d1.wG (p := q) ht (show b + 1 ≤ 9 by omega)
              have e2 := e1.wr (i := 12 * q + t) (nI (b + 1))
              have f2 := fr_pa (pCo_o 2 8) (upd (ga 2 8 A) (8 * q + t) (nI (b + 1))) A
              have g2 := fr_pa pT3 (upd (ga 50 3 A') (12 * q + t) (nI (b + 1))) A'
              generalize pa 2 8 (upd (ga 2 8 A) (8 * q + t) (nI (b + 1))) A = A2 at d2 f2 ⊢
              generalize pa 50 3 (upd (ga 50 3 A') (12 * q + t) (nI (b + 1))) A' = A2' at e2 g2 ⊢
              rw [ald_nI (by omega) (by omega), ald_nI (by omega) (by omega), d2.1.g (by omega) ht, e2.1.row (by omega)]
              exact Rel.mk (h.stepX (f1.trans f2) okC_2 g5_2 (g1.trans g2) okM_take g14_take d2 e2 rfl h.tm).rel rfl rfl
            · rw [if_neg (c := nI b < (9 : Int32)) (nI_nlt (b := 9) (by omega) (by omega)), if_pos (c := nI b = (9 : Int32)) (by rw [show b = 9 by omega]; rfl)]
              exact h.rel.same rfl rfl
        · rw [c_isSort_no h3, m_isPlace_no h3, bnd_some, bnd_some, if_pos rfl, if_pos rfl]
          exact h.rel.same rfl rfl
    · rw [c_has_no h.cc.1 h6 h2, m_isOne_no h.cm h2, bnd_some, bnd_some, if_pos rfl, if_pos rfl]
      exact h.rel.same rfl rfl
  · rw [c_has_no h.cc.1 h6 h1, m_isOne_no h.cm h1, bnd_some, bnd_some, if_pos rfl, if_pos rfl]
    exact h.rel.same rfl rfl
theorem ps_12 : PS_12 Rel := by
  rintro T c m ⟨v, hs, h⟩
  unfold f_X4_minute f_X5_minute f_X5_minute_L19
  obtain ⟨k, hk, ek⟩ := h.tm
  rw [h.cc.1.2.1, h.cm.1.2.1, ek]
  by_cases h9 : k < 999
  · rw [if_pos (c := nI k < (999 : Int32)) (nI_lt (b := 999) h9 (by omega)), if_neg (c := nI k = (999 : Int32)) (fun g => by have := (nI_eq (a := k) (b := 999) (by omega) (by omega)).mp g; omega)]
    obtain ⟨c1, e1, d1, f1⟩ := c_pass h.cc
    obtain ⟨m1, e2, d2, f2⟩ := m_minuteOf h.cm
    rw [e1, e2, bnd_some, bnd_some]
    exact Rel.mk (h.stepX f1 okC_2 g5_2 f2 okM_pass g14_pass d1 d2 (sX_pass v) ⟨k + 1, (by omega), by rw [sT_pass, ek, nI_1]⟩).rel rfl rfl
  · rw [if_neg (c := nI k < (999 : Int32)) (nI_nlt (b := 999) (by omega) (by omega)), if_pos (c := nI k = (999 : Int32)) (by rw [show k = 999 by omega]; rfl)]
    exact h.rel.same rfl rfl
theorem ps_13 : PS_13 Rel := by
  rintro T c m v1 ⟨v, hs, h⟩
  have h6 := h.n6
  unfold f_X4_room f_X5_room f_X4_room_L52 f_X5_room_L44
  rw [c_whoIsIn h.cc.1 h6, bnd_some]
  by_cases h0 : v1 = 0
  · subst h0
    rw [if_pos rfl, m_in_yes m (by decide), bnd_some, if_neg one_ne0, if_pos rfl, m_hereSet h.cm, bnd_some]
    exact h.rel.same rfl rfl
  · rw [if_neg h0]
    by_cases h1 : 1 ≤ v1 ∧ v1 ≤ 8
    · have h9 : 0 ≤ v1 ∧ v1 ≤ 9 := ⟨Int32.le_trans (by decide) h1.1, Int32.le_trans h1.2 (by decide)⟩
      have n9 : ¬ v1 = 9 := fun e => by rw [e] at h1; exact absurd h1 (by decide)
      rw [c_within_yes h1, m_in_yes m h9, bnd_some, bnd_some, if_neg one_ne0, if_neg one_ne0, if_neg h0, if_neg n9, c_whoIsIn h.cc.1 h6, m_whoIn h.cm, bnd_some, bnd_some]
      exact h.rel.same rfl rfl
    · rw [c_within_no h1, bnd_some, if_pos rfl]
      by_cases h9 : v1 = 9
      · subst h9
        rw [if_pos rfl, m_in_yes m (by decide), bnd_some, if_neg one_ne0, if_neg h0, if_pos rfl, c_mostLeft h.cc.1 h6, m_longest h.cm, bnd_some, bnd_some]
        exact h.rel.same rfl rfl
      · have hn : ¬ (0 ≤ v1 ∧ v1 ≤ 9) := fun g => by
          obtain ⟨k, hk, e⟩ := (in_nI (n := 9) (by omega)).mp g
          have k0 : k ≠ 0 := fun z => h0 (by rw [e, z]; rfl)
          have k9 : k ≠ 9 := fun z => h9 (by rw [e, z]; rfl)
          exact h1 (by rw [e]; exact ⟨nI_le (a := 1) (by omega) (by omega), nI_le (b := 8) (by omega) (by omega)⟩)
        rw [if_neg h9, m_in_no m hn, bnd_some, if_pos rfl]
        exact h.rel.same rfl rfl
end PPs2
