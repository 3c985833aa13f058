section PPs6
variable {S : LW} {T : TX} {c m c1 m1 : ST} {v v' : VS} {hs hs' : HS}
theorem c_holds_yes {u z i n : Nat} (hz : gs (5 + u) 2 c = nI z) (hz4 : z ≤ 40) (hi : i + n ≤ z) : f_X1_holds T (5 + u) (nI i) (nI n) c = some (1, c) := by
  unfold f_X1_holds f_X1_holds_L31
  rw [if_neg (nI_pos (by omega)), if_neg (nI_pos (by omega)), hz, if_neg (nI_nlt (by omega) (by omega)), nI_sub (by omega), if_neg (nI_nlt (by omega) (by omega))]
  rfl
theorem c_holds_no {u z : Nat} {x y : Int32} (hz : gs (5 + u) 2 c = nI z) (hz4 : z ≤ 40) (hi : ¬ ∃ i n, i + n ≤ z ∧ x = nI i ∧ y = nI n) : f_X1_holds T (5 + u) x y c = some (0, c) := by
  unfold f_X1_holds f_X1_holds_L30 f_X1_holds_L31
  by_cases hx : x < 0
  · rw [if_pos hx]; rfl
  rw [if_neg hx]
  by_cases hy : y < 0
  · rw [if_pos hy]; rfl
  rw [if_neg hy, hz]
  obtain ⟨i, bi, rfl⟩ := i32_of hx
  obtain ⟨n, bn, rfl⟩ := i32_of hy
  by_cases h1 : z < n
  · rw [if_pos (nI_lt h1 bn)]; rfl
  · rw [if_neg (nI_nlt (by omega) (by omega)), nI_sub (by omega)]
    by_cases h2 : z - n < i
    · rw [if_pos (nI_lt h2 bi)]; rfl
    · exact absurd ⟨i, n, (by omega), rfl, rfl⟩ hi
theorem m_cp_yes {α : Type} {K N : α} {zs zo i j n : Nat} (hs : zs ≤ 40) (ho : zo ≤ 40) (h1 : i + n ≤ zs) (h2 : j + n ≤ zo) : (if nI n < 0 then N else if nI i < 0 then N else if nI j < 0 then N else if nI zs < nI i then N else if nI zo < nI j then N else if nI zs - nI i < nI n then N else if nI n ≤ nI zo - nI j then K else N) = K := by
  rw [if_neg (nI_pos (by omega)), if_neg (nI_pos (by omega)), if_neg (nI_pos (by omega)), if_neg (nI_nlt (by omega) (by omega)), if_neg (nI_nlt (by omega) (by omega)), nI_sub (by omega), if_neg (nI_nlt (by omega) (by omega)), nI_sub (by omega), if_pos (nI_le (by omega) (by omega))]
theorem m_cp_no {α : Type} {K N : α} {zs zo : Nat} {x2 x4 x5 : Int32} (hs : zs ≤ 40) (ho : zo ≤ 40) (hn : ¬ ∃ i j n, i + n ≤ zs ∧ j + n ≤ zo ∧ x2 = nI i ∧ x4 = nI j ∧ x5 = nI n) : (if x5 < 0 then N else if x2 < 0 then N else if x4 < 0 then N else if nI zs < x2 then N else if nI zo < x4 then N else if nI zs - x2 < x5 then N else if x5 ≤ nI zo - x4 then K else N) = N := by
  by_cases h5 : x5 < 0
  · rw [if_pos h5]
  rw [if_neg h5]
  by_cases h2 : x2 < 0
  · rw [if_pos h2]
  rw [if_neg h2]
  by_cases h4 : x4 < 0
  · rw [if_pos h4]
  rw [if_neg h4]
  obtain ⟨n, bn, rfl⟩ := i32_of h5
  obtain ⟨i, bi, rfl⟩ := i32_of h2
  obtain ⟨j, bj, rfl⟩ := i32_of h4
  by_cases g1 : zs < i
  · rw [if_pos (nI_lt g1 bi)]
  rw [if_neg (nI_nlt (by omega) (by omega))]
  by_cases g2 : zo < j
  · rw [if_pos (nI_lt g2 bj)]
  rw [if_neg (nI_nlt (by omega) (by omega)), nI_sub (by omega)]
  by_cases g3 : zs - i < n
  · rw [if_pos (nI_lt g3 bn)]
  rw [if_neg (nI_nlt (by omega) (by omega)), nI_sub (by omega)]
  by_cases g4 : n ≤ zo - j
  · exact absurd ⟨i, j, n, (by omega), (by omega), rfl, rfl, rfl⟩ hn
  · rw [if_neg (nI_ge (by omega) bn)]
theorem m_cp_f {n a b : Nat} {W : Nat → Int32} (ha : a + n ≤ 160) (hb : b + n ≤ 160) (hab : b ≤ a) : ∀ (r q k : Nat) (m : ST), (∀ x, ga 50 16 m x = if b ≤ x ∧ x < b + k then W (a + (x - b)) else W x) → k + r = n → r < q → ∃ m', f_X5_copy_L147 q (nI n) (nI a) (nI b) (nI k) m = some (nI n, m') ∧ (∀ x, ga 50 16 m' x = if b ≤ x ∧ x < b + n then W (a + (x - b)) else W x) ∧ fr (fun o k => o = 50 ∧ k = 16) m m' := by
  intro r
  induction r with
  | zero =>
    intro q k m h hk hq
    obtain ⟨q, rfl⟩ : ∃ y, q = y + 1 := ⟨q - 1, (by omega)⟩
    obtain rfl : k = n := (by omega)
    rw [f_X5_copy_L147, if_pos (nI_le (by omega) (by omega))]
    exact ⟨m, rfl, h, fr.refl m⟩
  | succ r ih =>
    intro q k m h hk hq
    obtain ⟨q, rfl⟩ : ∃ y, q = y + 1 := ⟨q - 1, (by omega)⟩
    rw [f_X5_copy_L147, if_neg (nI_ge (by omega) (by omega)), if_pos (nI_le hab (by omega))]
    unfold f_X5_copy_L173
    rw [nI_add a k, nI_add b k, nI_1, ald_nI (by omega) (by omega), ast_nI (by omega) (by omega)]
    obtain ⟨m', g1, g2, g3⟩ := ih q (k + 1) (pa 50 16 (upd (ga 50 16 m) (b + k) (ga 50 16 m (a + k))) m) (fun x => by
      rw [ga_pa_s, upd_at, h (a + k), if_neg (c := b ≤ a + k ∧ a + k < b + k) (by omega), h x]
      by_cases e : x = b + k
      · rw [if_pos e, if_pos (by omega), e, Nat.add_sub_cancel_left]
      · rw [if_neg e]
        exact if_iff (by omega) _ _) (by omega) (by omega)
    exact ⟨m', g1, g2, (fr_pa (P := fun o k => o = 50 ∧ k = 16) ⟨rfl, rfl⟩ _ _).trans g3⟩
theorem m_cp_b {n a b : Nat} {W : Nat → Int32} (ha : a + n ≤ 160) (hb : b + n ≤ 160) (hab : a < b) : ∀ (r q k : Nat) (m : ST), (∀ x, ga 50 16 m x = if b + n - k ≤ x ∧ x < b + n then W (a + (x - b)) else W x) → k + r = n → r < q → ∃ m', f_X5_copy_L147 q (nI n) (nI a) (nI b) (nI k) m = some (nI n, m') ∧ (∀ x, ga 50 16 m' x = if b ≤ x ∧ x < b + n then W (a + (x - b)) else W x) ∧ fr (fun o k => o = 50 ∧ k = 16) m m' := by
  intro r
  induction r with
  | zero =>
    intro q k m h hk hq
    obtain ⟨q, rfl⟩ : ∃ y, q = y + 1 := ⟨q - 1, (by omega)⟩
    obtain rfl : k = n := (by omega)
    rw [f_X5_copy_L147, if_pos (nI_le (by omega) (by omega))]
    exact ⟨m, rfl, fun x => by rw [h x, Nat.add_sub_cancel], fr.refl m⟩
  | succ r ih =>
    intro q k m h hk hq
    obtain ⟨q, rfl⟩ : ∃ y, q = y + 1 := ⟨q - 1, (by omega)⟩
    rw [f_X5_copy_L147, if_neg (nI_ge (by omega) (by omega)), if_neg (nI_ge hab (by omega))]
    unfold f_X5_copy_L173
    rw [show nI n - 1 = nI (n - 1) from nI_sub (b := 1) (by omega), nI_sub (by omega), nI_add a, nI_add b, nI_1, ald_nI (by omega) (by omega), ast_nI (by omega) (by omega)]
    obtain ⟨m', g1, g2, g3⟩ := ih q (k + 1) (pa 50 16 (upd (ga 50 16 m) (b + (n - 1 - k)) (ga 50 16 m (a + (n - 1 - k)))) m) (fun x => by
      rw [ga_pa_s, upd_at, h (a + (n - 1 - k)), if_neg (c := b + n - k ≤ a + (n - 1 - k) ∧ a + (n - 1 - k) < b + n) (by omega), h x]
      by_cases e : x = b + (n - 1 - k)
      · rw [if_pos e, if_pos (by omega), e, Nat.add_sub_cancel_left]
      · rw [if_neg e]
        exact if_iff (by omega) _ _) (by omega) (by omega)
    exact ⟨m', g1, g2, (fr_pa (P := fun o k => o = 50 ∧ k = 16) ⟨rfl, rfl⟩ _ _).trans g3⟩
theorem m_cp {n a b : Nat} (ha : a + n ≤ 160) (hb : b + n ≤ 160) (m : ST) : ∃ m', f_X5_copy_L147 1000 (nI n) (nI a) (nI b) 0 m = some (nI n, m') ∧ (∀ x, ga 50 16 m' x = if b ≤ x ∧ x < b + n then ga 50 16 m (a + (x - b)) else ga 50 16 m x) ∧ fr (fun o k => o = 50 ∧ k = 16) m m' := by
  by_cases hab : b ≤ a
  · exact m_cp_f ha hb hab n 1000 0 m (fun x => by rw [if_neg (by omega)]) (Nat.zero_add _) (by omega)
  · exact m_cp_b ha hb (by omega) n 1000 0 m (fun x => by rw [if_neg (by omega)]) (Nat.zero_add _) (by omega)
theorem ps_33 : PS_33 Rel := by
  rintro T c m v1 v2 v3 v4 v5 ⟨v, hs, h⟩
  unfold f_X4_copy f_X5_copy f_X4_copy_L14 f_X5_copy_L18 f_X4_copy_L49 f_X5_copy_L41 f_X4_copy_L91 f_X5_copy_L124
  by_cases h1 : ∃ k, k < 4 ∧ v1 = nI k
  · obtain ⟨s, hs4, rfl⟩ := h1
    rw [c_isSheet_yes hs4, m_sheet_yes hs4, bnd_some, bnd_some, if_neg one_ne0, if_neg one_ne0]
    by_cases h3 : ∃ k, k < 4 ∧ v3 = nI k
    · obtain ⟨o, ho, rfl⟩ := h3
      obtain ⟨q1, q2, q3, q4, q5⟩ := h.hc s hs4
      obtain ⟨w1, w2, w3, w4⟩ := h.hm s hs4
      obtain ⟨r1, r2, r3, r4, r5⟩ := h.hc o ho
      obtain ⟨x1, x2, x3, x4⟩ := h.hm o ho
      rw [c_isSheet_yes ho, m_sheet_yes ho, bnd_some, bnd_some, if_neg one_ne0, if_neg one_ne0, chk_nI (by omega) (by omega), chk_nI (by omega) (by omega), nI_clamp (n := s) (by omega), nI_clamp (n := o) (by omega), ald_nI (by omega) (by omega), w1]
      by_cases n1 : hs.1 s = -1
      · rw [c_isMissing_yes h.hc hs4 n1, bnd_some, if_neg one_ne0, if_pos n1]
        exact h.rel.same rfl rfl
      rw [c_isMissing_no h.hc hs4 n1, bnd_some, if_pos rfl, if_neg n1, ald_nI (by omega) (by omega), x1]
      by_cases n2 : hs.1 o = -1
      · rw [c_isMissing_yes h.hc ho n2, bnd_some, if_neg one_ne0, if_pos n2]
        exact h.rel.same rfl rfl
      rw [c_isMissing_no h.hc ho n2, bnd_some, if_pos rfl, if_neg n2, ald_nI (by omega) (by omega), ald_nI (by omega) (by omega), w1, x1, q1, r1]
      by_cases e : hs.1 s = hs.1 o
      · rw [if_pos e, if_pos e, ald_nI (by omega) (by omega), w2, ald_nI (by omega) (by omega), x2, ald_nI (by omega) (by omega), w2, ald_nI (by omega) (by omega), x2]
        by_cases Hs : ∃ i n, i + n ≤ hs.2.1 s ∧ v2 = nI i ∧ v5 = nI n
        · obtain ⟨i, n, hi, rfl, rfl⟩ := Hs
          rw [c_holds_yes q2 q3 hi, bnd_some, if_neg one_ne0]
          by_cases Ho : ∃ j n', j + n' ≤ hs.2.1 o ∧ v4 = nI j ∧ nI n = nI n'
          · obtain ⟨j, n', hj, rfl, en⟩ := Ho
            obtain rfl : n = n' := (nI_eq (by omega) (by omega)).mp en
            rw [c_holds_yes r2 r3 hj, bnd_some, if_neg one_ne0, m_cp_yes q3 r3 hi hj, iS, iS]
            obtain ⟨m1, e1, g, f⟩ := m_cp (n := n) (a := 40 * s + i) (b := 40 * o + j) (by omega) (by omega) m
            rw [show f_X5_copy_L147 1000 (nI n) (nI (40 * s + i)) (nI (40 * o + j)) 0 m = _ from e1]
            unfold acp
            rw [nI_clamp (n := i) (by omega), nI_clamp (n := j) (by omega), nI_clamp (n := n) (by omega), if_neg (by
              rintro (y | y | y | y | y)
              · exact nI_pos (by omega) y
              · exact nI_pos (by omega) y
              · exact nI_pos (by omega) y
              · omega
              · omega)]
            refine Rel.mk (h.sheet (u := o) (x := hs.1 o) (z := hs.2.1 o) (W := fun x => if j ≤ x ∧ x < j + n then hs.2.2 s (i + (x - j)) else hs.2.2 o x) ho (fr_pa (P := pSh o) (o := 5 + o) (k := 0) rfl _ _) r1 r2 r3 (fun x hx => ?_) r5 (f.mono (fun o k y => ⟨y.1, Or.inr (Or.inr y.2)⟩)) (fun u hu => ?_) (fun u hu => ?_) (fun x hx => ?_) (fun x hx => ?_)).rel rfl rfl
            · rw [ga_pa_s]
              unfold va_cpy
              by_cases y : j ≤ x ∧ x < j + n
              · simp only [y, and_self, reduceIte]
                rw [q4 _ (by omega)]
              · simp only [y, reduceIte]
                rw [r4 _ hx]
            · rw [f.ga (by decide)]
              by_cases y : u = o
              · rw [if_pos y, y, x1]
              · rw [if_neg y]
            · rw [f.ga (by decide)]
              by_cases y : u = o
              · rw [if_pos y, y, x2]
              · rw [if_neg y]
            · rw [g]
              by_cases y : j ≤ x ∧ x < j + n
              · rw [if_pos (by omega), show 40 * s + i + (40 * o + x - (40 * o + j)) = 40 * s + (i + (x - j)) by omega, w4 _ (by omega)]
                simp only [y, and_self, reduceIte]
              · rw [if_neg (by omega), x4 _ hx]
                simp only [y, reduceIte]
            · rw [g, if_neg (by omega)]
          · rw [c_holds_no r2 r3 Ho, bnd_some, if_pos rfl, m_cp_no q3 r3 (fun ⟨i', j', n', y1, y2, y3, y4, y5⟩ => Ho ⟨j', n', y2, y4, y5⟩)]
            exact h.rel.same rfl rfl
        · rw [c_holds_no q2 q3 Hs, bnd_some, if_pos rfl, m_cp_no q3 r3 (fun ⟨i', j', n', y1, y2, y3, y4, y5⟩ => Hs ⟨i', n', y1, y3, y5⟩)]
          exact h.rel.same rfl rfl
      · rw [if_neg e, if_neg e]
        exact h.rel.same rfl rfl
    · rw [c_isSheet_no h3, m_sheet_no h3, bnd_some, bnd_some, if_pos rfl, if_pos rfl]
      exact h.rel.same rfl rfl
  · rw [c_isSheet_no h1, m_sheet_no h1, bnd_some, bnd_some, if_pos rfl, if_pos rfl]
    exact h.rel.same rfl rfl
theorem le_pred2 {a z : Nat} (ha : a < 2147483648) (hz : z ≤ 40) : nI a ≤ nI z - 2 ↔ a + 2 ≤ z := by
  have e2 : (2 : Int32).toInt = 2 := by decide
  have ez : (nI z).toInt = z := nI_toInt (by omega)
  have ea : (nI a).toInt = a := nI_toInt (by omega)
  rw [Int32.le_iff_toInt_le, i32_sub (by rw [ez, e2]; omega) (by rw [ez, e2]; omega), ez, ea, e2]
  omega
theorem sb_L {s n : Nat} (hs4 : s < 4) (hn : n ≤ 6) (x3 : Int32) : ∀ (r q k : Nat) (cnt : Int32) (c m : ST) (v : VS), RelV T c m v hs → (k = 0 ∨ ∃ f, x3 = nI f ∧ f + 2 * k ≤ hs.2.1 s) → k + r = n → r < q → ∃ (a : Int32) (c1 m1 : ST), f_X4_setBy_L67 T q x3 (nI n) (5 + s) cnt (nI k) c = some (a, c1) ∧ f_X5_setBy_L64 q (nI s) x3 (nI n) cnt (nI k) m = some (a, m1) ∧ Rel T c1 m1 := by
  intro r
  induction r with
  | zero =>
    intro q k cnt c m v h hf hk hq
    obtain ⟨q, rfl⟩ : ∃ y, q = y + 1 := ⟨q - 1, (by omega)⟩
    rw [f_X4_setBy_L67, f_X5_setBy_L64, if_pos (nI_le (by omega) (by omega)), if_pos (nI_le (by omega) (by omega))]
    exact h.rel.same rfl rfl
  | succ r ih =>
    intro q k cnt c m v h hf hk hq
    obtain ⟨q, rfl⟩ : ∃ y, q = y + 1 := ⟨q - 1, (by omega)⟩
    obtain ⟨q1, q2, q3, q4, q5⟩ := h.hc s hs4
    obtain ⟨w1, w2, w3, w4⟩ := h.hm s hs4
    rw [f_X4_setBy_L67, f_X5_setBy_L64, if_neg (nI_ge (by omega) (by omega)), if_neg (nI_ge (by omega) (by omega))]
    unfold f_X4_setBy_L104 f_X5_setBy_L102 f_X4_setBy_L135 f_X5_setBy_L144
    by_cases h0 : x3 < 0
    · have hk0 : k = 0 := by
        rcases hf with y | ⟨f, rfl, y⟩
        · exact y
        · exact absurd h0 (nI_pos (by omega))
      subst hk0
      have e0 : x3 + (2 : Int32) * nI 0 = x3 := Int32.add_zero x3
      rw [if_pos h0, e0, c_shHas_no q2 q3 (fun ⟨i, hi, y⟩ => absurd h0 (by rw [y]; exact nI_pos (by omega))), bnd_some, if_pos rfl]
      exact h.rel.same rfl rfl
    obtain ⟨f, bf, rfl⟩ := i32_of h0
    have hat : f + 2 * k < 2147483648 := by
      rcases hf with y | ⟨f', e', y⟩
      · omega
      · have := (nI_eq (a := f) (b := f') bf (by omega)).mp e'
        omega
    rw [if_neg h0, show (2 : Int32) * nI k = nI (2 * k) from nI_mul 2 k, nI_add f (2 * k), if_neg (nI_nlt (by omega) hat), ald_nI (by omega) (by omega), w2, nI_1]
    by_cases g2 : f + 2 * k + 2 ≤ hs.2.1 s
    · rw [if_pos ((le_pred2 hat w3).mpr g2), c_shHas_yes q2 q3 (i := f + 2 * k) (by omega), bnd_some, if_neg one_ne0, c_shHas_yes q2 q3 (i := f + 2 * k + 1) (by omega), bnd_some, if_neg one_ne0, iS, nI_1 (40 * s + (f + 2 * k)), ald_nI (by omega) (by omega), ald_nI (by omega) (by omega), ald_nI (by omega) (by omega), ald_nI (by omega) (by omega), q4 _ (by omega), q4 _ (by omega), w4 _ (by omega), Nat.add_assoc (40 * s), w4 _ (by omega)]
      obtain ⟨a, c1, m1, v', e1, e2, h', _⟩ := gent h (hs.2.2 s (f + 2 * k)) (hs.2.2 s (f + 2 * k + 1))
      rw [e1, e2, bnd_some, bnd_some, nI_1]
      by_cases ha : a < 0
      · rw [if_pos ha, if_pos ha, Int32.add_zero]
        exact ih q (k + 1) cnt c1 m1 v' h' (Or.inr ⟨f, rfl, (by omega)⟩) (by omega) (by omega)
      · rw [if_neg ha, if_neg ha]
        exact ih q (k + 1) (cnt + 1) c1 m1 v' h' (Or.inr ⟨f, rfl, (by omega)⟩) (by omega) (by omega)
    · rw [if_neg (fun y => g2 ((le_pred2 hat w3).mp y))]
      by_cases g1 : f + 2 * k < hs.2.1 s
      · rw [c_shHas_yes q2 q3 g1, bnd_some, if_neg one_ne0, c_shHas_no q2 q3 (fun ⟨i, hi, y⟩ => g2 (by have := (nI_eq (a := f + 2 * k + 1) (b := i) (by omega) (by omega)).mp y; omega)), bnd_some, if_pos rfl]
        exact h.rel.same rfl rfl
      · rw [c_shHas_no q2 q3 (fun ⟨i, hi, y⟩ => g1 (by have := (nI_eq (a := f + 2 * k) (b := i) hat (by omega)).mp y; omega)), bnd_some, if_pos rfl]
        exact h.rel.same rfl rfl
theorem ps_34 : PS_34 Rel := by
  rintro T c m v1 v2 v3 v4 ⟨v, hs, h⟩
  unfold f_X4_setBy f_X5_setBy f_X4_setBy_L27 f_X5_setBy_L29
  by_cases h1 : ∃ k, k < 4 ∧ v1 = nI k
  · obtain ⟨s, hs4, rfl⟩ := h1
    rw [c_isSheet_yes hs4, m_sheet_yes hs4, bnd_some, bnd_some, if_neg one_ne0, if_neg one_ne0]
    by_cases h2 : 0 ≤ v2 ∧ v2 ≤ 2
    · rw [c_within_yes h2, m_in_yes m h2, bnd_some, bnd_some, if_neg one_ne0, if_neg one_ne0]
      by_cases h4 : 0 ≤ v4 ∧ v4 ≤ 6
      · obtain ⟨n, hn, rfl⟩ := (in_nI (n := 6) (by omega)).mp h4
        obtain ⟨q1, q2, q3, q4, q5⟩ := h.hc s hs4
        obtain ⟨w1, w2, w3, w4⟩ := h.hm s hs4
        rw [c_within_yes h4, m_in_yes m h4, bnd_some, bnd_some, if_neg one_ne0, if_neg one_ne0, chk_nI (by omega) (by omega), nI_clamp (by omega), ald_nI (by omega) (by omega), w1]
        by_cases n1 : hs.1 s = -1
        · rw [c_isMissing_yes h.hc hs4 n1, bnd_some, if_neg one_ne0, if_pos n1]
          exact h.rel.same rfl rfl
        rw [c_isMissing_no h.hc hs4 n1, bnd_some, if_pos rfl, if_neg n1, ald_nI (by omega) (by omega), w1, q1]
        by_cases e : hs.1 s = v2
        · rw [if_pos e, if_pos e]
          exact sb_L hs4 hn v3 n 1000 0 0 c m v h (Or.inl rfl) (Nat.zero_add _) (by omega)
        · rw [if_neg e, if_neg e]
          exact h.rel.same rfl rfl
      · rw [c_within_no h4, m_in_no m h4, bnd_some, bnd_some, if_pos rfl, if_pos rfl]
        exact h.rel.same rfl rfl
    · rw [c_within_no h2, m_in_no m h2, bnd_some, bnd_some, if_pos rfl, if_pos rfl]
      exact h.rel.same rfl rfl
  · rw [c_isSheet_no h1, m_sheet_no h1, bnd_some, bnd_some, if_pos rfl, if_pos rfl]
    exact h.rel.same rfl rfl
def isAg (x y : Int32) : Int32 := if x = y then 1 else if y = 0 then 1 else if x = 3 then (if y = 1 then 1 else if x = 4 then (if y = 2 then 1 else 0) else 0) else if x = 4 then (if y = 2 then 1 else 0) else 0
def isUg (x y : Int32) : Int32 := if y = 0 then 1 else if x = y then 1 else if y = 1 then (if x = 3 then 1 else if y = 2 then (if x = 4 then 1 else 0) else 0) else if y = 2 then (if x = 4 then 1 else 0) else 0
theorem isAU : ∀ k, k < 6 → ∀ w, w < 6 → isAg (nI k) (nI w) = isUg (nI k) (nI w) := by decide +kernel
theorem isA6 : ∀ k, k < 6 → isAg (nI k) 6 = 0 := by decide +kernel
theorem c_isA (x y : Int32) : f_X4_isA T x y c = some (isAg x y, c) := by
  unfold f_X4_isA f_X4_isA_L19 f_X4_isA_L29 f_X4_isA_L33 f_X4_isA_L34 isAg
  rw [retz_0, retz_1]
  by_cases h1 : x = y
  · simp only [h1, reduceIte]
  by_cases h2 : y = 0
  · simp only [h1, h2, reduceIte]
    split <;> rfl
  simp only [h1, h2, reduceIte]
  repeat' split
  all_goals rfl
theorem m_isU (x y : Int32) : f_X5_isUnder x y m = some (isUg x y, m) := by
  unfold f_X5_isUnder f_X5_isUnder_L19 f_X5_isUnder_L29 f_X5_isUnder_L33 f_X5_isUnder_L34 isUg
  rw [retz_0, retz_1]
  by_cases h2 : y = 0
  · simp only [h2, reduceIte]
  by_cases h1 : x = y
  · simp only [h1, h2, reduceIte]
  simp only [h1, h2, reduceIte]
  repeat' split
  all_goals rfl
theorem ps_35 : PS_35 Rel := by
  rintro T c m v1 v2 ⟨v, hs, h⟩
  have h6 := h.n6
  unfold f_X4_taken f_X5_taken f_X4_taken_L94 f_X4_taken_L71 f_X5_taken_L96 f_X5_taken_L98 f_X5_taken_L72
  by_cases h2 : 0 ≤ v2 ∧ v2 ≤ 6
  · obtain ⟨w, hw, rfl⟩ := (in_nI (n := 6) (by omega)).mp h2
    rw [c_within_yes h2, m_in_yes m h2, bnd_some, bnd_some, if_neg one_ne0, if_neg one_ne0]
    by_cases h1 : 0 ≤ v1 ∧ v1 ≤ 11
    · obtain ⟨j, hj, rfl⟩ := (in_nI (n := 11) (by omega)).mp h1
      have ep : nI j - nI j / 6 * 6 = nI (j % 6) := pk_rem (a := j) (d := 6) (by omega) (by omega) (by omega)
      rw [c_within_yes h1, m_in_yes m h1, bnd_some, bnd_some, if_neg one_ne0, if_neg one_ne0, ep, h.cm.1.1]
      by_cases hp : j % 6 < sN v
      · rw [c_has_yes h.cc.1 h6 hp, bnd_some, if_neg one_ne0, if_pos (nI_lt hp (by omega))]
        by_cases hj6 : j < 6
        · rw [if_pos (c := nI j < (6 : Int32)) (nI_lt (b := 6) hj6 (by omega)), if_pos (c := nI j < (6 : Int32)) (nI_lt (b := 6) hj6 (by omega)), ald_nI (by omega) (by omega), (h.cc.1.2.2.2.2 _ hp).1, c_isA, bnd_some]
          have e6 : j % 6 = j := Nat.mod_eq_of_lt hj6
          rw [e6] at hp ⊢
          obtain ⟨k, hk, ek⟩ := (h.iv j hp).2.2.2.2.2.1
          rw [ek]
          by_cases hw6 : 6 ≤ w
          · obtain rfl : w = 6 := (by omega)
            rw [show isAg (nI k) (nI 6) = 0 from isA6 k hk, if_pos rfl, if_pos (c := (6 : Int32) ≤ nI 6) (by decide)]
            exact h.rel.same rfl rfl
          · rw [if_neg (c := (6 : Int32) ≤ nI w) (nI_ge (b := 6) (by omega) (by omega)), ald_nI (by omega) (by omega), (h.cm.1.2.2.2.2 j hp).1, ek, m_isU, bnd_some, isAU k hk w (by omega)]
            by_cases y : isUg (nI k) (nI w) = 0
            · rw [if_pos y, if_pos y]
              exact h.rel.same rfl rfl
            · rw [if_neg y, if_neg y]
              exact h.rel.same rfl rfl
        · rw [if_neg (c := nI j < (6 : Int32)) (nI_nlt (b := 6) (by omega) (by omega)), if_neg (c := nI j < (6 : Int32)) (nI_nlt (b := 6) (by omega) (by omega))]
          by_cases hw6 : nI w = 6
          · rw [if_pos hw6, if_pos hw6, ald_nI (by omega) (by omega), show nI j - 6 = nI (j - 6) from nI_sub (b := 6) (by omega), iM8, ald_nI (by omega) (by omega), h.cm.1.row (by omega), h.cc.1.wit (by omega), show j % 6 = j - 6 by omega]
            exact h.rel.same rfl rfl
          · rw [if_neg hw6, if_neg hw6]
            exact h.rel.same rfl rfl
      · rw [c_has_no h.cc.1 h6 (fun ⟨k, hk, y⟩ => hp (by rw [(nI_eq (by omega) (by omega)).mp y]; exact hk)), bnd_some, if_pos rfl, if_neg (nI_nlt (by omega) (by omega))]
        exact h.rel.same rfl rfl
    · rw [c_within_no h1, m_in_no m h1, bnd_some, bnd_some, if_pos rfl, if_pos rfl]
      exact h.rel.same rfl rfl
  · rw [c_within_no h2, m_in_no m h2, bnd_some, bnd_some, if_pos rfl, if_pos rfl]
    exact h.rel.same rfl rfl
end PPs6
