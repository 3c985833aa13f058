section PM3
variable {S : LW} {n : Nat} {m : ST} {v : VS}
theorem pT3 : pTake 50 3 := ⟨rfl, Or.inl rfl⟩
noncomputable def endS (p t : Nat) (g a : Int32) (w3 : VS) : VS := wR (12 * p + 11) g (wR (12 * p + 10) (nI t) (wR (12 * p + 9) (sR (wR (12 * p + 8) (wiS (sR w3 (12 * p + 8) + a) 0 99) w3) (12 * p + 9) ||| (1 <<< (nI t &&& 31))) (wR (12 * p + 8) (wiS (sR w3 (12 * p + 8) + a) 0 99) w3)))
theorem m_pinchOf_L163 (h : CM S n m v) {p t : Nat} (hp : p < 6) (g a : Int32) : ∃ m', f_X5_pinchOf_L163 (nI p) (nI t) g a m = some ((), m') ∧ CM S n m' (endS p t g a v) ∧ fr pTake m m' := by
  unfold f_X5_pinchOf_L163
  rw [iM8, ald_nI (by omega) (by omega), h.1.row (by omega), m_within, bnd_some, ast_nI (by omega) (by omega)]
  have h4 := h.wr (i := 12 * p + 8) (wiS (sR v (12 * p + 8) + a) 0 99)
  have f4 := fr_pa pT3 (upd (ga 50 3 m) (12 * p + 8) (wiS (sR v (12 * p + 8) + a) 0 99)) m
  generalize pa 50 3 (upd (ga 50 3 m) (12 * p + 8) (wiS (sR v (12 * p + 8) + a) 0 99)) m = A1 at h4 f4 ⊢
  rw [iM9, ald_nI (by omega) (by omega), h4.1.row (by omega), ast_nI (by omega) (by omega)]
  generalize hx : sR (wR (12 * p + 8) (wiS (sR v (12 * p + 8) + a) 0 99) v) (12 * p + 9) ||| (1 <<< (nI t &&& 31)) = x
  have h5 := h4.wr (i := 12 * p + 9) x
  have f5 := fr_pa pT3 (upd (ga 50 3 A1) (12 * p + 9) x) A1
  generalize pa 50 3 (upd (ga 50 3 A1) (12 * p + 9) x) A1 = A2 at h5 f5 ⊢
  rw [iM10, ast_nI (by omega) (by omega)]
  have h6 := h5.wr (i := 12 * p + 10) (nI t)
  have f6 := fr_pa pT3 (upd (ga 50 3 A2) (12 * p + 10) (nI t)) A2
  generalize pa 50 3 (upd (ga 50 3 A2) (12 * p + 10) (nI t)) A2 = A3 at h6 f6 ⊢
  rw [iM11, ast_nI (by omega) (by omega)]
  have h7 := h6.wr (i := 12 * p + 11) g
  have f7 := fr_pa pT3 (upd (ga 50 3 A3) (12 * p + 11) g) A3
  generalize pa 50 3 (upd (ga 50 3 A3) (12 * p + 11) g) A3 = A4 at h7 f7 ⊢
  subst hx
  exact ⟨A4, rfl, h7, ((f4.trans f5).trans f6).trans f7⟩
theorem m_pinchOf_L55 (h : CM S n m v) {p t q : Nat} (hp : p < 6) (ht : t < 8) (hq : q < 6) (g a s : Int32) : ∃ m', f_X5_pinchOf_L55 (nI p) (nI t) g a s (nI q) m = some ((), m') ∧ CM S n m' (endS p t g a (if q = p then v else wR (12 * q + t) (sR (wR (12 * p + t) (sR v (12 * p + t) - minS (minS (sR v (12 * p + t)) s) (9 - sR v (12 * q + t))) v) (12 * q + t) + minS (minS (sR v (12 * p + t)) s) (9 - sR v (12 * q + t))) (wR (12 * p + t) (sR v (12 * p + t) - minS (minS (sR v (12 * p + t)) s) (9 - sR v (12 * q + t))) v))) ∧ fr pTake m m' := by
  unfold f_X5_pinchOf_L55
  by_cases hqp : q = p
  · subst hqp
    rw [if_pos rfl, if_pos rfl]
    exact m_pinchOf_L163 h hp g a
  · rw [if_neg (fun z => hqp ((nI_eq (by omega) (by omega)).mp z)), if_neg hqp, iM, ald_nI (by omega) (by omega), ald_nI (by omega) (by omega), h.1.row (by omega)]
    have key : ∀ y : Int32, ∃ m', f_X5_pinchOf_L95 (nI p) (nI t) g a (nI q) y m = some ((), m') ∧ CM S n m' (endS p t g a (wR (12 * q + t) (sR (wR (12 * p + t) (sR v (12 * p + t) - minS y (9 - sR v (12 * q + t))) v) (12 * q + t) + minS y (9 - sR v (12 * q + t))) (wR (12 * p + t) (sR v (12 * p + t) - minS y (9 - sR v (12 * q + t))) v))) ∧ fr pTake m m' := by
      intro y
      have key2 : ∀ z : Int32, ∃ m', f_X5_pinchOf_L128 (nI p) (nI t) g a (nI q) z m = some ((), m') ∧ CM S n m' (endS p t g a (wR (12 * q + t) (sR (wR (12 * p + t) (sR v (12 * p + t) - z) v) (12 * q + t) + z) (wR (12 * p + t) (sR v (12 * p + t) - z) v))) ∧ fr pTake m m' := by
        intro z
        unfold f_X5_pinchOf_L128
        rw [iM, ald_nI (by omega) (by omega), h.1.row (by omega), ast_nI (by omega) (by omega)]
        have h4 := h.wr (i := 12 * p + t) (sR v (12 * p + t) - z)
        have f4 := fr_pa pT3 (upd (ga 50 3 m) (12 * p + t) (sR v (12 * p + t) - z)) m
        generalize pa 50 3 (upd (ga 50 3 m) (12 * p + t) (sR v (12 * p + t) - z)) m = A1 at h4 f4 ⊢
        rw [iM, ald_nI (by omega) (by omega), h4.1.row (by omega), ast_nI (by omega) (by omega)]
        generalize hx : sR (wR (12 * p + t) (sR v (12 * p + t) - z) v) (12 * q + t) + z = x
        have h5 := h4.wr (i := 12 * q + t) x
        have f5 := fr_pa pT3 (upd (ga 50 3 A1) (12 * q + t) x) A1
        generalize pa 50 3 (upd (ga 50 3 A1) (12 * q + t) x) A1 = A2 at h5 f5 ⊢
        obtain ⟨m', e, hc, ff⟩ := m_pinchOf_L163 (t := t) h5 hp g a
        exact ⟨m', e, hc, (f4.trans f5).trans ff⟩
      unfold f_X5_pinchOf_L95 minS
      rw [iM, ald_nI (by omega) (by omega), h.1.row (by omega)]
      by_cases hy : y ≤ 9 - sR v (12 * q + t)
      · rw [if_pos hy, if_pos hy]; exact key2 _
      · rw [if_neg hy, if_neg hy]; exact key2 _
    by_cases hs : sR v (12 * p + t) ≤ s
    · rw [if_pos hs]
      have e : minS (sR v (12 * p + t)) s = sR v (12 * p + t) := if_pos hs
      rw [e]
      exact key _
    · rw [if_neg hs]
      have e : minS (sR v (12 * p + t)) s = s := if_neg hs
      rw [e]
      exact key _
theorem m_pinchOf (h : CM S n m v) {p t : Nat} (hp : p < sN v) (ht : t < 8) : ∃ m', f_X5_pinchOf (nI p) (nI t) m = some ((), m') ∧ CM S n m' (takeS S v p t) ∧ fr pTake m m' := by
  have h6 := h.2.1
  obtain ⟨m1, e1, f1⟩ := m_goneOf h hp ht
  have h1 := h.say f1
  obtain ⟨m2, e2, f2⟩ := m_gainsOf h1 hp ht
  have h2 := h1.say f2
  obtain ⟨m3, e3, f3⟩ := m_spillsOf h2 hp ht
  have h3 := h2.say f3
  have f := ((f1.trans f2).trans f3).mono pSay_take
  unfold f_X5_pinchOf
  rw [e1, bnd_some, e2, bnd_some, e3, bnd_some, iM, ald_nI (by omega) (by omega), h3.1.row (by omega), ast_nI (by omega) (by omega)]
  have h4 := h3.wr (i := 12 * p + t) (sR v (12 * p + t) - 1)
  have f4 := fr_pa pT3 (upd (ga 50 3 m3) (12 * p + t) (sR v (12 * p + t) - 1)) m3
  generalize pa 50 3 (upd (ga 50 3 m3) (12 * p + t) (sR v (12 * p + t) - 1)) m3 = A1 at h4 f4 ⊢
  have hN : gs 50 0 A1 = nI (sN v) := h4.1.1
  rw [hN, nI_1]
  have fin : ∀ q, q = nxS v p → ∃ m', f_X5_pinchOf_L55 (nI p) (nI t) (goS S v p t) (gaS S v p t) (spS S v p t) (nI q) A1 = some ((), m') ∧ CM S n m' (takeS S v p t) ∧ fr pTake m m' := by
    intro q hq
    have hq6 : q < 6 := by rw [hq]; unfold nxS; split <;> omega
    obtain ⟨m', e, hc, ff⟩ := m_pinchOf_L55 h4 (p := p) (q := q) (by omega) ht hq6 (goS S v p t) (gaS S v p t) (spS S v p t)
    subst hq
    exact ⟨m', e, hc, (f.trans f4).trans ff⟩
  by_cases hz : p + 1 = sN v
  · rw [if_pos (by rw [hz])]
    exact fin 0 (by unfold nxS; rw [if_pos hz])
  · rw [if_neg (fun z => hz ((nI_eq (by omega) (by omega)).mp z))]
    exact fin (p + 1) (by unfold nxS; rw [if_neg hz])
theorem RM.wT (h : RM m v) (x : Int32) : RM (ps 50 4 x m) (wTm x v) := ⟨h.1, rfl, h.2.2.1, h.2.2.2.1, h.2.2.2.2⟩
theorem pP3 : pPass 50 3 := ⟨rfl, Or.inl rfl⟩
theorem pP4 : pPass 50 4 := ⟨rfl, Or.inr rfl⟩
theorem CM.fr4 {P : Nat → Nat → Prop} {m' : ST} {v' : VS} (h : CM S n m v) (r : RM m' v') (e1 : sN v' = sN v) (e2 : sL v' = sL v) (f : fr P m m') (h7 : ¬ P 50 7) (h8 : ¬ P 50 8) : CM S n m' v' :=
  ⟨r, by rw [e1]; exact h.2.1, by rw [e2]; exact h.2.2.1, h.2.2.2.1, h.2.2.2.2.fr f h7 h8⟩
theorem pass1_N (k : Nat) (a : Int32 × VS) : sN (pass1 k a).2 = sN a.2 := by
  unfold pass1
  split
  · rfl
  · split <;> rfl
theorem pass1_L (k : Nat) (a : Int32 × VS) : sL (pass1 k a).2 = sL a.2 := by
  unfold pass1
  split
  · rfl
  · split <;> rfl
theorem fold_inv {α : Type} {P : α → Prop} {f : Nat → α → α} (hf : ∀ k a, P a → P (f k a)) : ∀ (r k : Nat) (a : α), P a → P (fold f r k a) := by
  intro r
  induction r with
  | zero => intro k a h; exact h
  | succ r ih => intro k a h; exact ih (k + 1) _ (hf k a h)
theorem m_minuteOf_L : ∀ (r q k : Nat) (a : Int32) (m : ST) (v : VS), RM m v → sN v ≤ 6 → k + r = sN v → r < q → ∃ m', f_X5_minuteOf_L4 q a (nI k) m = some ((fold pass1 r k (a, v)).1, m') ∧ RM m' (wTm (sT (fold pass1 r k (a, v)).2 + 1) (fold pass1 r k (a, v)).2) ∧ fr pPass m m' := by
  intro r
  induction r with
  | zero =>
    intro q k a m v h h6 hk hq
    obtain ⟨q, rfl⟩ : ∃ z, q = z + 1 := ⟨q - 1, by omega⟩
    rw [f_X5_minuteOf_L4, h.1, if_pos (nI_le (by omega) (by omega))]
    refine ⟨_, rfl, ?_, fr_ps pP4 _ m⟩
    rw [h.2.1]
    exact h.wT _
  | succ r ih =>
    intro q k a m v h h6 hk hq
    obtain ⟨q, rfl⟩ : ∃ z, q = z + 1 := ⟨q - 1, by omega⟩
    rw [f_X5_minuteOf_L4, h.1, if_neg (nI_ge (by omega) (by omega))]
    show ∃ m', _ = some ((fold pass1 r (k + 1) (pass1 k (a, v))).1, m') ∧ RM m' (wTm (sT (fold pass1 r (k + 1) (pass1 k (a, v))).2 + 1) (fold pass1 r (k + 1) (pass1 k (a, v))).2) ∧ _
    by_cases hh : sR v (12 * k + 10) = -1
    · rw [m_isHere_yes h (by omega) hh, bnd_some, if_neg one_ne0]
      unfold f_X5_minuteOf_L70
      rw [nI_1]
      have e : pass1 k (a, v) = (a, v) := if_pos hh
      rw [e]
      exact ih q (k + 1) a m v h h6 (by omega) (by omega)
    · rw [m_isHere_no h (by omega) hh, bnd_some, if_pos rfl, iM11, ald_nI (by omega) (by omega), h.row (by omega), ast_nI (by omega) (by omega)]
      have h4 := h.wr (i := 12 * k + 11) (sR v (12 * k + 11) - 1)
      have f4 := fr_pa pP3 (upd (ga 50 3 m) (12 * k + 11) (sR v (12 * k + 11) - 1)) m
      generalize pa 50 3 (upd (ga 50 3 m) (12 * k + 11) (sR v (12 * k + 11) - 1)) m = A1 at h4 f4 ⊢
      rw [ald_nI (by omega) (by omega), h4.row (by omega)]
      have e0 : sR (wR (12 * k + 11) (sR v (12 * k + 11) - 1) v) (12 * k + 11) = sR v (12 * k + 11) - 1 := upd_eq _ _ _
      rw [e0]
      unfold f_X5_minuteOf_L70
      rw [nI_1]
      by_cases hz : sR v (12 * k + 11) - 1 = 0
      · rw [if_pos hz, iM10, ast_nI (by omega) (by omega)]
        have h5 := h4.wr (i := 12 * k + 10) (-1)
        have f5 := fr_pa pP3 (upd (ga 50 3 A1) (12 * k + 10) (-1)) A1
        generalize pa 50 3 (upd (ga 50 3 A1) (12 * k + 10) (-1)) A1 = A2 at h5 f5 ⊢
        have e : pass1 k (a, v) = (a ||| (1 <<< (nI k &&& 31)), wR (12 * k + 10) (-1) (wR (12 * k + 11) (sR v (12 * k + 11) - 1) v)) := by
          unfold pass1
          rw [if_neg hh, if_pos hz]
        rw [e]
        obtain ⟨m', g1, g2, g3⟩ := ih q (k + 1) (a ||| (1 <<< (nI k &&& 31))) A2 _ h5 h6 (by show k + 1 + r = sN v; omega) (by omega)
        exact ⟨m', g1, g2, (f4.trans f5).trans g3⟩
      · rw [if_neg hz]
        have e : pass1 k (a, v) = (a, wR (12 * k + 11) (sR v (12 * k + 11) - 1) v) := by
          unfold pass1
          rw [if_neg hh, if_neg hz]
        rw [e]
        obtain ⟨m', g1, g2, g3⟩ := ih q (k + 1) a A1 _ h4 h6 (by show k + 1 + r = sN v; omega) (by omega)
        exact ⟨m', g1, g2, f4.trans g3⟩
theorem passS_N (v : VS) : sN (passS v).2 = sN v := fold_inv (P := fun a : Int32 × VS => sN a.2 = sN v) (fun k a e => (pass1_N k a).trans e) (sN v) 0 (0, v) rfl
theorem passS_L (v : VS) : sL (passS v).2 = sL v := fold_inv (P := fun a : Int32 × VS => sL a.2 = sL v) (fun k a e => (pass1_L k a).trans e) (sN v) 0 (0, v) rfl
theorem pass1_T (k : Nat) (a : Int32 × VS) : sT (pass1 k a).2 = sT a.2 := by
  unfold pass1
  split
  · rfl
  · split <;> rfl
theorem m_minuteOf (h : CM S n m v) : ∃ m', f_X5_minuteOf m = some ((passS v).1, m') ∧ CM S n m' (passS v).2 ∧ fr pPass m m' := by
  obtain ⟨m', e, r, f⟩ := m_minuteOf_L (sN v) 1000 0 0 m v h.1 h.2.1 (by omega) (by have := h.2.1; omega)
  have eT : sT (fold pass1 (sN v) 0 (0, v)).2 = sT v := fold_inv (P := fun a : Int32 × VS => sT a.2 = sT v) (fun k a e => (pass1_T k a).trans e) (sN v) 0 (0, v) rfl
  rw [eT] at r
  exact ⟨m', e, h.fr4 r (passS_N v) (passS_L v) f (by unfold pPass; decide) (by unfold pPass; decide), f⟩
end PM3
