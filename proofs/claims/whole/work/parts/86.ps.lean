section PPs5
variable {S : LW} {T : TX} {c m c1 m1 : ST} {v v' : VS} {hs hs' : HS}
/-! the tape -/
def pT0 (o k : Nat) : Prop := o = 1 ∧ (k = 0 ∨ k = 1)
def pT5 (o k : Nat) : Prop := o = 50 ∧ (k = 5 ∨ k = 6)
theorem RelV.tape (h : RelV T c m v hs) (fc : fr pT0 c c1) (fm : fr pT5 m m1) (ht : TPR c1 m1) : RelV T c1 m1 v hs := by
  have hC : CC (SofT T) T 2 c1 v := h.cc.k2 fc (fun k _ => by unfold pT0; omega)
  have hM : CM (SofT T) (tN T) m1 v := h.cm.fr4 (h.cm.1.fr fm (by unfold pT5; decide)) rfl rfl fm (by unfold pT5; decide) (by unfold pT5; decide)
  exact ⟨h.to.of (fm.ga (by unfold pT5; decide)) (fm.ga (by unfold pT5; decide)), hC, hM, h.hc.fr fc (fun a k _ => by unfold pT0; omega), h.hm.fr fm (by unfold pT5; decide), (fc.gs (by unfold pT0; decide)).trans h.nc, (fm.gs (by unfold pT5; decide)).trans h.nm, ht, h.im.step fc ⟨by unfold pT0; decide, fun k => by unfold pT0; omega⟩ fm (by unfold pT5; decide) (Nat.le_refl _) (fun _ _ => ⟨rfl, rfl⟩), h.tm⟩
theorem feed_L {n z0 : Nat} (hn : n ≤ 5) (hz0 : z0 + n ≤ 160) (b0 b1 b2 b3 b4 : Int32) : ∀ (r q k : Nat) (c m : ST), RelV T c m v hs → gs 1 1 c = nI (z0 + k) → gs 50 6 m = nI (z0 + k) → k + r = n → r < q → ∃ (a : Int32) (c1 m1 : ST), f_X4_feed_L71 T q (nI n) b0 b1 b2 b3 b4 (nI k) c = some (a, c1) ∧ f_X5_feed_L68 q (nI n) b0 b1 b2 b3 b4 (nI k) m = some (a, m1) ∧ RelV T c1 m1 v hs := by
  intro r
  induction r with
  | zero =>
    intro q k c m h e1 e2 hk hq
    obtain ⟨q, rfl⟩ : ∃ y, q = y + 1 := ⟨q - 1, (by omega)⟩
    rw [f_X4_feed_L71, f_X5_feed_L68, if_pos (nI_le (by omega) (by omega)), if_pos (nI_le (by omega) (by omega))]
    unfold f_X4_feed_L133 f_X5_feed_L142
    rw [e1, e2]
    exact ⟨_, c, m, rfl, rfl, h⟩
  | succ r ih =>
    intro q k c m h e1 e2 hk hq
    obtain ⟨q, rfl⟩ : ∃ y, q = y + 1 := ⟨q - 1, (by omega)⟩
    rw [f_X4_feed_L71, f_X5_feed_L68, if_neg (nI_ge (by omega) (by omega)), if_neg (nI_ge (by omega) (by omega))]
    unfold f_X4_feed_L124 f_X5_feed_L125 f_X2_add f_X2_add_L30
    rw [e1, e2, nI_1]
    have go : ∀ x : Int32, ∃ (a : Int32) (c1 m1 : ST), bnd (if (160 : Int32) ≤ nI (z0 + k) then some ((), c) else ast 1 0 160 (nI (z0 + k)) x c (fun t19 => put 1 1 ((gs 1 1 t19) + (1 : Int32)) t19 (fun t27 => some ((), t27)))) (fun _ t124 => f_X4_feed_L71 T q (nI n) b0 b1 b2 b3 b4 (nI (k + 1)) t124) = some (a, c1) ∧ ast 50 5 160 (nI (z0 + k)) x m (fun t125 => put 50 6 ((gs 50 6 t125) + (1 : Int32)) t125 (fun t133 => f_X5_feed_L68 q (nI n) b0 b1 b2 b3 b4 (nI (k + 1)) t133)) = some (a, m1) ∧ RelV T c1 m1 v hs := by
      intro x
      rw [if_neg (c := (160 : Int32) ≤ nI (z0 + k)) (nI_ge (b := 160) (by omega) (by omega)), ast_nI (by omega) (by omega), ast_nI (by omega) (by omega), put_eq, put_eq, bnd_some, gs_pa, gs_pa, e1, e2, nI_1]
      have fc := (fr_pa (P := pT0) (o := 1) (k := 0) ⟨rfl, (by decide)⟩ (upd (ga 1 0 c) (z0 + k) x) c).trans (fr_ps (P := pT0) (o := 1) (k := 1) ⟨rfl, (by decide)⟩ (nI (z0 + k + 1)) _)
      have fm := (fr_pa (P := pT5) (o := 50) (k := 5) ⟨rfl, (by decide)⟩ (upd (ga 50 5 m) (z0 + k) x) m).trans (fr_ps (P := pT5) (o := 50) (k := 6) ⟨rfl, (by decide)⟩ (nI (z0 + k + 1)) _)
      obtain ⟨z, hz, w1, w2, w3, w4⟩ := h.tp
      have ht : TPR (ps 1 1 (nI (z0 + k + 1)) (pa 1 0 (upd (ga 1 0 c) (z0 + k) x) c)) (ps 50 6 (nI (z0 + k + 1)) (pa 50 5 (upd (ga 50 5 m) (z0 + k) x) m)) := by
        refine ⟨z0 + k + 1, (by omega), by rw [gs_ps, if_pos ⟨rfl, rfl⟩], by rw [gs_ps, if_pos ⟨rfl, rfl⟩], fun i hi => ?_, ?_⟩
        · rw [ga_ps, ga_ps, ga_pa_s, ga_pa_s, upd_at, upd_at, w3 i hi]
        · unfold MW
          rw [fm.ga (by unfold pT5; decide)]
          exact w4
      exact ih q (k + 1) _ _ (h.tape fc fm ht) (by rw [gs_ps, if_pos ⟨rfl, rfl⟩]; rfl) (by rw [gs_ps, if_pos ⟨rfl, rfl⟩]; rfl) (by omega) (by omega)
    by_cases h0 : nI k = 0
    · rw [if_pos h0, if_pos h0]; exact go b0
    rw [if_neg h0, if_neg h0]
    by_cases h0 : nI k = 1
    · rw [if_pos h0, if_pos h0]; exact go b1
    rw [if_neg h0, if_neg h0]
    by_cases h0 : nI k = 2
    · rw [if_pos h0, if_pos h0]; exact go b2
    rw [if_neg h0, if_neg h0]
    by_cases h0 : nI k = 3
    · rw [if_pos h0, if_pos h0]; exact go b3
    rw [if_neg h0, if_neg h0]
    exact go b4
theorem c_byte (x : Int32) : f_X4_isByte T x c = some (if 0 ≤ x ∧ x ≤ 255 then 1 else 0, c) := by
  unfold f_X4_isByte
  by_cases h : 0 ≤ x ∧ x ≤ 255
  · rw [c_within_yes h, if_pos h]; rfl
  · rw [c_within_no h, if_neg h]; rfl
theorem m_byte (x : Int32) : f_X5_isByte x m = some (if 0 ≤ x ∧ x ≤ 255 then 1 else 0, m) := by
  unfold f_X5_isByte
  by_cases h : 0 ≤ x ∧ x ≤ 255
  · rw [m_in_yes m h, if_pos h]; rfl
  · rw [m_in_no m h, if_neg h]; rfl
theorem ps_2 : PS_2 Rel := by
  rintro T c m v1 v2 v3 v4 v5 v6 ⟨v, hs, h⟩
  unfold f_X4_feed f_X5_feed f_X4_feed_L47 f_X5_feed_L47
  by_cases h1 : 1 ≤ v1 ∧ v1 ≤ 5
  · obtain ⟨n, hn, rfl⟩ := (in_nI (n := 5) (by omega)).mp ⟨Int32.le_trans (by decide) h1.1, h1.2⟩
    rw [c_within_yes h1, m_in_yes m h1, bnd_some, bnd_some, if_neg one_ne0, if_neg one_ne0, c_byte, bnd_some, m_byte, bnd_some]
    by_cases h2 : 0 ≤ v2 ∧ v2 ≤ 255
    · rw [if_pos h2, if_neg one_ne0, if_neg one_ne0, c_byte, bnd_some, m_byte, bnd_some]
      by_cases h3 : 0 ≤ v3 ∧ v3 ≤ 255
      · rw [if_pos h3, if_neg one_ne0, if_neg one_ne0, c_byte, bnd_some, m_byte, bnd_some]
        by_cases h4 : 0 ≤ v4 ∧ v4 ≤ 255
        · rw [if_pos h4, if_neg one_ne0, if_neg one_ne0, c_byte, bnd_some, m_byte, bnd_some]
          by_cases h5 : 0 ≤ v5 ∧ v5 ≤ 255
          · rw [if_pos h5, if_neg one_ne0, if_neg one_ne0, c_byte, bnd_some, m_byte, bnd_some]
            by_cases h6 : 0 ≤ v6 ∧ v6 ≤ 255
            · obtain ⟨z, hz, w1, w2, w3, w4⟩ := h.tp
              rw [if_pos h6, if_neg one_ne0, if_neg one_ne0, w1, w2, nI_add]
              by_cases h9 : z + n ≤ 160
              · rw [if_pos (c := nI (z + n) ≤ (160 : Int32)) (nI_le (b := 160) h9 (by omega)), if_pos (c := nI (z + n) ≤ (160 : Int32)) (nI_le (b := 160) h9 (by omega))]
                obtain ⟨a, c1, m1, e1, e2, R⟩ := feed_L (n := n) (z0 := z) (by omega) h9 v2 v3 v4 v5 v6 n 1000 0 c m h w1 w2 (Nat.zero_add _) (by omega)
                exact ⟨a, c1, m1, e1, e2, R.rel⟩
              · rw [if_neg (c := nI (z + n) ≤ (160 : Int32)) (nI_ge (a := 160) (by omega) (by omega)), if_neg (c := nI (z + n) ≤ (160 : Int32)) (nI_ge (a := 160) (by omega) (by omega))]
                exact h.rel.same rfl rfl
            · rw [if_neg h6, if_pos rfl, if_pos rfl]; exact h.rel.same rfl rfl
          · rw [if_neg h5, if_pos rfl, if_pos rfl]; exact h.rel.same rfl rfl
        · rw [if_neg h4, if_pos rfl, if_pos rfl]; exact h.rel.same rfl rfl
      · rw [if_neg h3, if_pos rfl, if_pos rfl]; exact h.rel.same rfl rfl
    · rw [if_neg h2, if_pos rfl, if_pos rfl]; exact h.rel.same rfl rfl
  · rw [c_within_no h1, m_in_no m h1, bnd_some, bnd_some, if_pos rfl, if_pos rfl]
    exact h.rel.same rfl rfl
/-! the image -/
theorem m_img_L {R : Nat → Int32} : ∀ (r q k : Nat) (m : ST), (∀ j, j < 72 → ga 50 3 m j = R j) → (∀ j, j < k → ga 50 12 m j = R j) → k + r = 72 → r < q → ∃ m', f_X5_image_L7 q (nI k) m = f_X5_image_L31 m' ∧ (∀ j, j < 72 → ga 50 12 m' j = R j) ∧ fr (fun o k => o = 50 ∧ k = 12) m m' := by
  intro r
  induction r with
  | zero =>
    intro q k m h hd hk hq
    obtain ⟨q, rfl⟩ : ∃ y, q = y + 1 := ⟨q - 1, (by omega)⟩
    rw [f_X5_image_L7, if_pos (c := (72 : Int32) ≤ nI k) (nI_le (a := 72) (by omega) (by omega))]
    exact ⟨m, rfl, fun j hj => hd j (by omega), fr.refl m⟩
  | succ r ih =>
    intro q k m h hd hk hq
    obtain ⟨q, rfl⟩ : ∃ y, q = y + 1 := ⟨q - 1, (by omega)⟩
    rw [f_X5_image_L7, if_neg (c := (72 : Int32) ≤ nI k) (nI_ge (b := 72) (by omega) (by omega)), ald_nI (by omega) (by omega), ast_nI (by omega) (by omega), nI_1]
    obtain ⟨m', g1, g2, g3⟩ := ih q (k + 1) (pa 50 12 (upd (ga 50 12 m) k (ga 50 3 m k)) m) h (fun j hj => by
      rw [ga_pa_s, upd_at]
      by_cases e : j = k
      · rw [if_pos e, e, h k (by omega)]
      · rw [if_neg e]; exact hd j (by omega)) (by omega) (by omega)
    exact ⟨m', g1, g2, (fr_pa (P := fun o k => o = 50 ∧ k = 12) ⟨rfl, rfl⟩ _ _).trans g3⟩
def pIc (a k : Nat) : Prop := (a = 4 ∧ 2 ≤ k) ∨ (a = 0 ∧ k = 6)
def pImM (o k : Nat) : Prop := o = 50 ∧ (k = 11 ∨ k = 12 ∨ k = 13)
theorem ps_29 : PS_29 Rel := by
  rintro T c m ⟨v, hs, h⟩
  unfold f_X4_image f_X5_image
  obtain ⟨c1, e1, r1, f1⟩ := c_becomes (T := T) (o := 4) (o1 := 2) (by decide) h.cc.1 h.n6
  rw [e1, bnd_some, put_eq, put_eq]
  have fc : fr pIc c (ps 0 6 1 c1) := (f1.mono (fun a k y => Or.inl y)).trans (fr_ps (P := pIc) (Or.inr ⟨rfl, rfl⟩) 1 c1)
  obtain ⟨m1, e2, g2, f2⟩ := m_img_L (R := sR v) 72 1000 0 (ps 50 11 1 m) (fun j hj => h.cm.1.row hj) (fun j hj => absurd hj (Nat.not_lt_zero _)) rfl (by omega)
  rw [show f_X5_image_L7 1000 0 (ps 50 11 1 m) = _ from e2]
  unfold f_X5_image_L31
  have b0 : gs 50 0 m1 = nI (sN v) := (f2.gs (by decide)).trans h.cm.1.1
  have b4 : gs 50 4 m1 = sT v := (f2.gs (by decide)).trans h.cm.1.2.1
  have b10 : gs 50 10 m1 = nI (sL v) := (f2.gs (by decide)).trans h.cm.1.2.2.1
  rw [ast_lit (by decide) (by decide), ast_lit (by decide) (by decide), ast_lit (by decide) (by decide)]
  simp only [gs_pa]
  rw [b0, b4, b10]
  generalize hB : pa 50 13 _ _ = B
  have fB : fr (fun o k => o = 50 ∧ k = 13) m1 B := by
    rw [← hB]
    exact ((fr_pa (P := fun o k => o = 50 ∧ k = 13) ⟨rfl, rfl⟩ _ _).trans (fr_pa (P := fun o k => o = 50 ∧ k = 13) ⟨rfl, rfl⟩ _ _)).trans (fr_pa (P := fun o k => o = 50 ∧ k = 13) ⟨rfl, rfl⟩ _ _)
  have B0 : ga 50 13 B 0 = nI (sN v) := by rw [← hB]; simp only [ga_pa, gs_pa, ga_ps, gs_ps, reduceIte, Nat.reduceEqDiff, reduceCtorEq, and_true, true_and, and_false, false_and, and_self, eq_self, upd_at]
  have B1 : ga 50 13 B 1 = sT v := by rw [← hB]; simp only [ga_pa, gs_pa, ga_ps, gs_ps, reduceIte, Nat.reduceEqDiff, reduceCtorEq, and_true, true_and, and_false, false_and, and_self, eq_self, upd_at]
  have B2 : ga 50 13 B 2 = nI (sL v) := by rw [← hB]; simp only [ga_pa, gs_pa, ga_ps, gs_ps, reduceIte, Nat.reduceEqDiff, reduceCtorEq, and_true, true_and, and_false, false_and, and_self, eq_self, upd_at]
  have fm : fr pImM m B := (((fr_ps (P := pImM) (o := 50) (k := 11) ⟨rfl, (by decide)⟩ 1 m).trans (f2.mono (fun o k y => ⟨y.1, Or.inr (Or.inl y.2)⟩)))).trans (fB.mono (fun o k y => ⟨y.1, Or.inr (Or.inr y.2)⟩))
  have hC : CC (SofT T) T 2 (ps 0 6 1 c1) v := h.cc.k2 fc (fun k _ => by unfold pIc; omega)
  have hM : CM (SofT T) (tN T) B v := h.cm.fr4 (h.cm.1.fr fm (by unfold pImM; decide)) rfl rfl fm (by unfold pImM; decide) (by unfold pImM; decide)
  have R4 : RC 4 (ps 0 6 1 c1) v := r1.fr (fr_ps (P := fun a k => a = 0 ∧ k = 6) ⟨rfl, rfl⟩ 1 c1) (fun k _ => by omega)
  refine Rel.mk (a := nI (sN v)) ⟨v, hs, h.to.of (fm.ga (by unfold pImM; decide)) (fm.ga (by unfold pImM; decide)), hC, hM, h.hc.fr fc (fun a k _ => by unfold pIc; omega), h.hm.fr fm (by unfold pImM; decide), (fc.gs (by unfold pIc; decide)).trans h.nc, (fm.gs (by unfold pImM; decide)).trans h.nm, h.tp.fr fc (by unfold pIc; decide) fm (by unfold pImM; decide), Or.inr ⟨by rw [gs_ps, if_pos ⟨rfl, rfl⟩], ?_, v, R4, fun j hj => by rw [fB.ga (by decide)]; exact g2 j hj, B0, B1, B2, h.iv, Nat.le_refl _, h.cc.2.2.1, h.tm, fun _ _ => ⟨rfl, rfl⟩⟩, h.tm⟩ ?_ ?_
  · rw [fB.gs (by decide), f2.gs (by decide), gs_ps, if_pos ⟨rfl, rfl⟩]
  · rw [hC.1.1]
  · rfl
theorem m_back_L {R : Nat → Int32} : ∀ (r q k : Nat) (m : ST), (∀ j, j < 72 → ga 50 12 m j = R j) → (∀ j, j < k → ga 50 3 m j = R j) → k + r = 72 → r < q → ∃ m', f_X5_back_L12 q (nI k) m = f_X5_back_L36 m' ∧ (∀ j, j < 72 → ga 50 3 m' j = R j) ∧ fr (fun o k => o = 50 ∧ k = 3) m m' := by
  intro r
  induction r with
  | zero =>
    intro q k m h hd hk hq
    obtain ⟨q, rfl⟩ : ∃ y, q = y + 1 := ⟨q - 1, (by omega)⟩
    rw [f_X5_back_L12, if_pos (c := (72 : Int32) ≤ nI k) (nI_le (a := 72) (by omega) (by omega))]
    exact ⟨m, rfl, fun j hj => hd j (by omega), fr.refl m⟩
  | succ r ih =>
    intro q k m h hd hk hq
    obtain ⟨q, rfl⟩ : ∃ y, q = y + 1 := ⟨q - 1, (by omega)⟩
    rw [f_X5_back_L12, if_neg (c := (72 : Int32) ≤ nI k) (nI_ge (b := 72) (by omega) (by omega)), ald_nI (by omega) (by omega), ast_nI (by omega) (by omega), nI_1]
    obtain ⟨m', g1, g2, g3⟩ := ih q (k + 1) (pa 50 3 (upd (ga 50 3 m) k (ga 50 12 m k)) m) h (fun j hj => by
      rw [ga_pa_s, upd_at]
      by_cases e : j = k
      · rw [if_pos e, e, h k (by omega)]
      · rw [if_neg e]; exact hd j (by omega)) (by omega) (by omega)
    exact ⟨m', g1, g2, (fr_pa (P := fun o k => o = 50 ∧ k = 3) ⟨rfl, rfl⟩ _ _).trans g3⟩
def pBk (o k : Nat) : Prop := o = 50 ∧ (k = 0 ∨ k = 3 ∨ k = 4 ∨ k = 10)
theorem ps_30 : PS_30 Rel := by
  rintro T c m ⟨v, hs, h⟩
  unfold f_X4_back f_X5_back
  rcases h.im with ⟨i1, i2⟩ | ⟨i1, i2, w, r4, a1, a2, a3, a4, a5, a6, a7, a8, a9⟩
  · rw [i1, i2, if_pos rfl, if_pos rfl]
    exact h.rel.same rfl rfl
  · have w6 : sN w ≤ 6 := Nat.le_trans a6 h.n6
    rw [i1, i2, if_neg one_ne0, if_neg one_ne0]
    obtain ⟨c1, e1, r1, f1⟩ := c_becomes (T := T) (o := 2) (o1 := 4) (by decide) r4 w6
    obtain ⟨m1, e2, g2, f2⟩ := m_back_L (R := sR w) 72 1000 0 m a1 (fun j hj => absurd hj (Nat.not_lt_zero _)) rfl (by omega)
    rw [e1, bnd_some, show f_X5_back_L12 1000 0 m = _ from e2]
    unfold f_X5_back_L36
    rw [ald_lit (by decide) (by decide), put_eq, ald_lit (by decide) (by decide), put_eq, ald_lit (by decide) (by decide), put_eq]
    simp only [ga_ps]
    rw [f2.ga (k := 13) (by decide), a2, a3, a4]
    generalize hB : ps 50 10 _ _ = B
    have fB : fr (fun o k => o = 50 ∧ (k = 0 ∨ k = 4 ∨ k = 10)) m1 B := by
      rw [← hB]
      exact ((fr_ps (P := fun o k => o = 50 ∧ (k = 0 ∨ k = 4 ∨ k = 10)) (o := 50) (k := 0) ⟨rfl, (by decide)⟩ _ _).trans (fr_ps (P := fun o k => o = 50 ∧ (k = 0 ∨ k = 4 ∨ k = 10)) (o := 50) (k := 4) ⟨rfl, (by decide)⟩ _ _)).trans (fr_ps (P := fun o k => o = 50 ∧ (k = 0 ∨ k = 4 ∨ k = 10)) (o := 50) (k := 10) ⟨rfl, (by decide)⟩ _ _)
    have B0 : gs 50 0 B = nI (sN w) := by rw [← hB]; simp only [ga_pa, gs_pa, ga_ps, gs_ps, reduceIte, Nat.reduceEqDiff, reduceCtorEq, and_true, true_and, and_false, false_and, and_self, eq_self]
    have B4 : gs 50 4 B = sT w := by rw [← hB]; simp only [ga_pa, gs_pa, ga_ps, gs_ps, reduceIte, Nat.reduceEqDiff, reduceCtorEq, and_true, true_and, and_false, false_and, and_self, eq_self]
    have B10 : gs 50 10 B = nI (sL w) := by rw [← hB]; simp only [ga_pa, gs_pa, ga_ps, gs_ps, reduceIte, Nat.reduceEqDiff, reduceCtorEq, and_true, true_and, and_false, false_and, and_self, eq_self]
    have fm : fr pBk m B := (f2.mono (fun o k y => ⟨y.1, Or.inr (Or.inl y.2)⟩)).trans (fB.mono (fun o k y => ⟨y.1, by have := y.2; omega⟩))
    have hC : CC (SofT T) T 2 c1 w := ⟨r1, w6, a7, h.cc.2.2.2.1, h.cc.2.2.2.2.1, a5⟩
    have hR : RM B w := ⟨B0, B4, B10, fun j hj => by rw [fB.ga (by decide)]; exact g2 j hj, fun p hp => by
      rw [fm.ga (by unfold pBk; decide), fm.ga (by unfold pBk; decide), (a9 p hp).1, (a9 p hp).2]
      exact h.cm.1.2.2.2.2 p (by omega)⟩
    have hM : CM (SofT T) (tN T) B w := ⟨hR, w6, a7, h.cm.2.2.2.1, h.cm.2.2.2.2.fr fm (by unfold pBk; decide) (by unfold pBk; decide)⟩
    have R4 : RC 4 c1 w := r4.fr f1 (fun k _ => by unfold pTo; omega)
    refine Rel.mk (a := nI (sN w)) ⟨w, hs, h.to.of (fm.ga (by unfold pBk; decide)) (fm.ga (by unfold pBk; decide)), hC, hM, h.hc.fr f1 (fun a k _ => by unfold pTo; omega), h.hm.fr fm (by unfold pBk; decide), (f1.gs (by unfold pTo; decide)).trans h.nc, (fm.gs (by unfold pBk; decide)).trans h.nm, h.tp.fr f1 (by unfold pTo; decide) fm (by unfold pBk; decide), Or.inr ⟨(f1.gs (by unfold pTo; decide)).trans i1, (fm.gs (by unfold pBk; decide)).trans i2, w, R4, fun j hj => by rw [fm.ga (by unfold pBk; decide)]; exact a1 j hj, by rw [fm.ga (by unfold pBk; decide)]; exact a2, by rw [fm.ga (by unfold pBk; decide)]; exact a3, by rw [fm.ga (by unfold pBk; decide)]; exact a4, a5, Nat.le_refl _, a7, a8, fun _ _ => ⟨rfl, rfl⟩⟩, a8⟩ ?_ ?_
    · rw [hC.1.1]
    · rw [hM.1.1]
/-! the host -/
theorem m_sheet_L70 {u : Nat} (hu : u < 4) : ∀ (r q k : Nat) (m : ST), k + r = 40 → r < q → ∃ m', f_X5_sheet_L70 q (nI u) (nI k) m = some (1, m') ∧ (∀ j, ga 50 16 m' j = if 40 * u + k ≤ j ∧ j < 40 * u + 40 then 0 else ga 50 16 m j) ∧ fr (fun o k => o = 50 ∧ k = 16) m m' := by
  intro r
  induction r with
  | zero =>
    intro q k m hk hq
    obtain ⟨q, rfl⟩ : ∃ y, q = y + 1 := ⟨q - 1, (by omega)⟩
    rw [f_X5_sheet_L70, if_pos (c := (40 : Int32) ≤ nI k) (nI_le (a := 40) (by omega) (by omega))]
    exact ⟨m, rfl, fun j => by rw [if_neg (by omega)], fr.refl m⟩
  | succ r ih =>
    intro q k m hk hq
    obtain ⟨q, rfl⟩ : ∃ y, q = y + 1 := ⟨q - 1, (by omega)⟩
    rw [f_X5_sheet_L70, if_neg (c := (40 : Int32) ≤ nI k) (nI_ge (b := 40) (by omega) (by omega)), iS, ast_nI (by omega) (by omega), nI_1]
    obtain ⟨m', g1, g2, g3⟩ := ih q (k + 1) (pa 50 16 (upd (ga 50 16 m) (40 * u + k) 0) m) (by omega) (by omega)
    refine ⟨m', g1, fun j => ?_, (fr_pa (P := fun o k => o = 50 ∧ k = 16) ⟨rfl, rfl⟩ _ _).trans g3⟩
    rw [g2, ga_pa_s, upd_at]
    by_cases h1 : 40 * u + (k + 1) ≤ j ∧ j < 40 * u + 40
    · rw [if_pos h1, if_pos (by omega)]
    · rw [if_neg h1]
      by_cases h2 : j = 40 * u + k
      · rw [if_pos h2, if_pos (by omega)]
      · rw [if_neg h2, if_neg (by omega)]
theorem okC_sh {u : Nat} : okC (pSh u) := ⟨by unfold pSh; omega, by unfold pSh; omega, by unfold pSh; omega, by unfold pSh; omega, fun k => by unfold pSh; omega⟩
def pH3 (o k : Nat) : Prop := o = 50 ∧ (k = 14 ∨ k = 15 ∨ k = 16)
theorem okM_h3 : okM pH3 := by
  unfold okM pH3
  refine ⟨?_, ?_, ?_, ?_, ?_, ?_, ?_, ?_, ?_⟩ <;> decide
/-- a sheet is written on both sides -/
theorem RelV.sheet {u z : Nat} {x : Int32} {W : Nat → Int32} (h : RelV T c m v hs) (hu : u < 4) (fc : fr (pSh u) c c1) (h1 : gs (5 + u) 1 c1 = x) (h2 : gs (5 + u) 2 c1 = nI z) (hz : z ≤ 40) (h4 : ∀ i, i < z → ga (5 + u) 0 c1 i = W i) (h5 : x = -1 ∨ x = 0 ∨ x = 1 ∨ x = 2) (fm : fr pH3 m m1) (e14 : ∀ s, s < 4 → ga 50 14 m1 s = if s = u then x else ga 50 14 m s) (e15 : ∀ s, s < 4 → ga 50 15 m1 s = if s = u then nI z else ga 50 15 m s) (e16 : ∀ i, i < z → ga 50 16 m1 (40 * u + i) = W i) (o16 : ∀ j, ¬ (40 * u ≤ j ∧ j < 40 * u + 40) → ga 50 16 m1 j = ga 50 16 m j) : RelV T c1 m1 v (hsW hs u x z W) := by
  have hC : CC (SofT T) T 2 c1 v := h.cc.k2 fc (fun k _ => by unfold pSh; omega)
  have hM : CM (SofT T) (tN T) m1 v := h.cm.fr4 (h.cm.1.fr fm (by unfold pH3; decide)) rfl rfl fm (by unfold pH3; decide) (by unfold pH3; decide)
  exact h.step fc okC_sh fm okM_h3 hC hM (Nat.le_refl _) (fun _ _ => ⟨rfl, rfl⟩) h.tm (hc_new h.hc fc (fun s k _ hne => by unfold pSh; omega) h1 h2 hz h4 h5) (hm_new h.hm hu e14 e15 hz e16 o16)
theorem sort_in {x : Int32} (h : -1 ≤ x ∧ x ≤ 2) (hn : ¬ x = -1) : ∃ k, k ≤ 2 ∧ x = nI k := by
  refine (in_nI (n := 2) (by omega)).mp ⟨?_, h.2⟩
  have h1 := Int32.le_iff_toInt_le.mp h.1
  have e1 : (-1 : Int32).toInt = -1 := by decide
  have e0 : (0 : Int32).toInt = 0 := by decide
  refine Int32.le_iff_toInt_le.mpr ?_
  have h2 : x.toInt ≠ -1 := fun g => hn (Int32.toInt_inj.mp (g.trans e1.symm))
  omega
theorem m_sheet_go (h : RelV T c m v hs) {u z : Nat} {x : Int32} (hu : u < 4) (hz : z ≤ 40) : ∃ m1, ast 50 14 4 (nI u) x m (fun t50 => ast 50 15 4 (nI u) (nI z) t50 (fun t66 => f_X5_sheet_L70 1000 (nI u) (0 : Int32) t66)) = some (1, m1) ∧ fr pH3 m m1 ∧ (∀ s, s < 4 → ga 50 14 m1 s = if s = u then x else ga 50 14 m s) ∧ (∀ s, s < 4 → ga 50 15 m1 s = if s = u then nI z else ga 50 15 m s) ∧ (∀ i, i < z → ga 50 16 m1 (40 * u + i) = 0) ∧ ∀ j, ¬ (40 * u ≤ j ∧ j < 40 * u + 40) → ga 50 16 m1 j = ga 50 16 m j := by
  rw [ast_nI (by omega) (by omega), ast_nI (by omega) (by omega), ga_pa, if_neg (by decide)]
  generalize hA : pa 50 15 _ _ = A
  have fA : fr (fun o k => o = 50 ∧ (k = 14 ∨ k = 15)) m A := by
    rw [← hA]
    exact (fr_pa (P := fun o k => o = 50 ∧ (k = 14 ∨ k = 15)) ⟨rfl, Or.inl rfl⟩ _ _).trans (fr_pa (P := fun o k => o = 50 ∧ (k = 14 ∨ k = 15)) ⟨rfl, Or.inr rfl⟩ _ _)
  have A14 : ga 50 14 A = upd (ga 50 14 m) u x := by rw [← hA]; simp only [ga_pa, gs_pa, ga_ps, gs_ps, reduceIte, Nat.reduceEqDiff, reduceCtorEq, and_true, true_and, and_false, false_and, and_self, eq_self]
  have A15 : ga 50 15 A = upd (ga 50 15 m) u (nI z) := by rw [← hA]; simp only [ga_pa, gs_pa, ga_ps, gs_ps, reduceIte, Nat.reduceEqDiff, reduceCtorEq, and_true, true_and, and_false, false_and, and_self, eq_self]
  obtain ⟨m1, e, g, f⟩ := m_sheet_L70 hu 40 1000 0 A rfl (by omega)
  refine ⟨m1, e, (fA.mono (fun o k y => ⟨y.1, by have := y.2; omega⟩)).trans (f.mono (fun o k y => ⟨y.1, by have := y.2; omega⟩)), fun s hs => ?_, fun s hs => ?_, fun i hi => ?_, fun j hj => ?_⟩
  · rw [f.ga (by decide), A14, upd_at]
  · rw [f.ga (by decide), A15, upd_at]
  · rw [g, if_pos (by omega)]
  · rw [g, if_neg (by omega), fA.ga (by decide)]
theorem ps_31 : PS_31 Rel := by
  rintro T c m v1 v2 v3 ⟨v, hs, h⟩
  unfold f_X4_sheet f_X5_sheet f_X4_sheet_L16 f_X5_sheet_L29 f_X5_sheet_L32 f_X5_sheet_L44 f_X5_sheet_L66
  by_cases h1 : ∃ k, k < 4 ∧ v1 = nI k
  · obtain ⟨u, hu, rfl⟩ := h1
    rw [c_isSheet_yes hu, m_sheet_yes hu, bnd_some, bnd_some, if_neg one_ne0, if_neg one_ne0]
    by_cases h2 : -1 ≤ v2 ∧ v2 ≤ 2
    · rw [c_within_yes h2, m_in_yes m h2, bnd_some, bnd_some, if_neg one_ne0, if_neg one_ne0]
      by_cases hm : v2 = -1
      · obtain ⟨c1, e1, a1, a2, a3, f1⟩ := c_shBecomes (T := T) (s := u) (z := 0) (Nat.zero_le _) (-1) c
        obtain ⟨m1, e2, fm, e14, e15, e16, o16⟩ := m_sheet_go h (z := 0) (x := -1) hu (Nat.zero_le _)
        rw [if_pos hm, if_pos hm, hm, chk_nI (by omega) (by omega), nI_clamp (by omega), show f_X1_becomes T (5 + u) (-1) 0 c = _ from e1, bnd_some]
        exact Rel.mk (h.sheet (W := fun _ => 0) hu f1 a1 a2 (Nat.zero_le _) a3 (Or.inl rfl) fm e14 e15 e16 o16).rel rfl (by simp only [eq_self, reduceIte]; exact e2)
      · obtain ⟨k, hk, rfl⟩ := sort_in h2 hm
        simp only [hm, reduceIte]
        by_cases h40 : v3 ≤ 40
        · rw [if_pos h40, if_pos h40]
          by_cases h0 : 0 ≤ v3
          · obtain ⟨z, hz, rfl⟩ := (in_nI (n := 40) (by omega)).mp ⟨h0, h40⟩
            obtain ⟨c1, e1, a1, a2, a3, f1⟩ := c_shBecomes (T := T) (s := u) (z := z) hz (nI k) c
            obtain ⟨m1, e2, fm, e14, e15, e16, o16⟩ := m_sheet_go h (z := z) (x := nI k) hu hz
            rw [if_pos h0, if_pos h0, chk_nI (by omega) (by omega), nI_clamp (by omega), e1, bnd_some]
            refine Rel.mk (h.sheet (W := fun _ => 0) hu f1 a1 a2 hz a3 ?_ fm e14 e15 e16 o16).rel rfl e2
            rcases (show k = 0 ∨ k = 1 ∨ k = 2 by omega) with rfl | rfl | rfl
            · exact Or.inr (Or.inl rfl)
            · exact Or.inr (Or.inr (Or.inl rfl))
            · exact Or.inr (Or.inr (Or.inr rfl))
          · rw [if_neg h0, if_neg h0]
            exact h.rel.same rfl rfl
        · rw [if_neg h40, if_neg h40]
          exact h.rel.same rfl rfl
    · rw [c_within_no h2, m_in_no m h2, bnd_some, bnd_some, if_pos rfl, if_pos rfl]
      exact h.rel.same rfl rfl
  · rw [c_isSheet_no h1, m_sheet_no h1, bnd_some, bnd_some, if_pos rfl, if_pos rfl]
    exact h.rel.same rfl rfl
theorem c_shHas_yes {u z i : Nat} (hz : gs (5 + u) 2 c = nI z) (hz4 : z ≤ 40) (hi : i < z) : f_X1_has T (5 + u) (nI i) c = some (1, c) := by
  unfold f_X1_has
  rw [if_neg (nI_pos (by omega)), hz, if_neg (nI_ge (by omega) (by omega))]
  rfl
theorem c_shHas_no {u z : Nat} {x : Int32} (hz : gs (5 + u) 2 c = nI z) (hz4 : z ≤ 40) (hi : ¬ ∃ i, i < z ∧ x = nI i) : f_X1_has T (5 + u) x c = some (0, c) := by
  unfold f_X1_has f_X1_has_L16
  by_cases h0 : x < 0
  · rw [if_pos h0]; rfl
  · rw [if_neg h0, hz]
    obtain ⟨j, hj, e⟩ := i32_of h0
    by_cases h1 : nI z ≤ x
    · rw [if_pos h1]; rfl
    · exfalso
      rw [e] at h1
      exact hi ⟨j, Nat.not_le.mp (fun y => h1 (nI_le y hj)), e⟩
theorem ps_32 : PS_32 Rel := by
  rintro T c m v1 v2 v3 ⟨v, hs, h⟩
  unfold f_X4_cell f_X5_cell f_X5_cell_L84
  by_cases h1 : ∃ k, k < 4 ∧ v1 = nI k
  · obtain ⟨u, hu, rfl⟩ := h1
    obtain ⟨q1, q2, q3, q4, q5⟩ := h.hc u hu
    obtain ⟨w1, w2, w3, w4⟩ := h.hm u hu
    rw [c_isSheet_yes hu, m_sheet_yes hu, bnd_some, bnd_some, if_neg one_ne0, if_neg one_ne0, chk_nI (by omega) (by omega), nI_clamp (by omega), ald_nI (by omega) (by omega), w1]
    by_cases hm : hs.1 u = -1
    · rw [c_isMissing_yes h.hc hu hm, bnd_some, if_neg one_ne0, if_pos hm]
      exact h.rel.same rfl rfl
    · rw [c_isMissing_no h.hc hu hm, bnd_some, if_pos rfl, if_neg hm, chk_nI (by omega) (by omega), ald_nI (by omega) (by omega), w2]
      by_cases hi : ∃ i, i < hs.2.1 u ∧ v2 = nI i
      · obtain ⟨i, hi, rfl⟩ := hi
        rw [c_shHas_yes q2 q3 hi, m_in_yes m ((le_pred (by omega)).mpr ⟨i, hi, rfl⟩), bnd_some, bnd_some, if_neg one_ne0, if_neg one_ne0, chk_nI (by omega) (by omega), ald_nI (by omega) (by omega), w1]
        obtain ⟨c1, e1, ec⟩ := c_write (T := T) (x := v3) q2 q3 hi
        have f1 : fr (pSh u) c c1 := by rw [ec]; exact fr_pa (P := pSh u) rfl _ _
        rw [e1, bnd_some, iS]
        rw [q1] at ec
        have fin : ∀ y : Int32, y = nrS (hs.1 u) v3 → ∃ (a : Int32) (c1' m1 : ST), (some ((1 : Int32), c1) : Option (Int32 × ST)) = some (a, c1') ∧ ast 50 16 160 (nI (40 * u + i)) y m (fun t84 => some ((1 : Int32), t84)) = some (a, m1) ∧ Rel T c1' m1 := by
          intro y hy
          rw [ast_nI (by omega) (by omega)]
          have fm := fr_pa (P := pH3) (o := 50) (k := 16) ⟨rfl, (by decide)⟩ (upd (ga 50 16 m) (40 * u + i) y) m
          refine Rel.mk (h.sheet (x := hs.1 u) (z := hs.2.1 u) (W := upd (hs.2.2 u) i y) hu f1 ?_ ?_ q3 (fun j hj => ?_) q5 fm (fun s hs => ?_) (fun s hs => ?_) (fun j hj => ?_) (fun j hj => ?_)).rel rfl rfl
          · rw [ec, gs_pa]; exact q1
          · rw [ec, gs_pa]; exact q2
          · rw [ec, ga_pa_s, upd_at, upd_at, ← hy, q4 j hj]
          · rw [ga_pa, if_neg (by decide)]
            by_cases e : s = u
            · rw [if_pos e, e, w1]
            · rw [if_neg e]
          · rw [ga_pa, if_neg (by decide)]
            by_cases e : s = u
            · rw [if_pos e, e, w2]
            · rw [if_neg e]
          · rw [ga_pa_s, upd_at, upd_at, w4 j hj]
            exact if_iff (by omega) _ _
          · rw [ga_pa_s, upd_ne _ _ (by omega)]
        by_cases h0 : hs.1 u = 0
        · rw [if_pos h0]
          exact fin _ (by unfold nrS; rw [if_pos h0])
        · rw [if_neg h0, ald_nI (by omega) (by omega), w1]
          by_cases h0' : hs.1 u = 1
          · rw [if_pos h0']
            exact fin _ (by unfold nrS; rw [if_neg h0, if_pos h0'])
          · rw [if_neg h0']
            exact fin _ (by unfold nrS; rw [if_neg h0, if_neg h0'])
      · rw [c_shHas_no q2 q3 hi, m_in_no m (fun y => hi ((le_pred (by omega)).mp y)), bnd_some, bnd_some, if_pos rfl, if_pos rfl]
        exact h.rel.same rfl rfl
  · rw [c_isSheet_no h1, m_sheet_no h1, bnd_some, bnd_some, if_pos rfl, if_pos rfl]
    exact h.rel.same rfl rfl
end PPs5
