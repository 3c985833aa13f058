section PM2
variable {S : LW} {n : Nat} {m : ST} {v : VS}
theorem m_asksOf (h : CM S n m v) {part p t : Nat} (hpart : part < 3) (hp : p < sN v) (ht : t < 8) : ∃ m', f_X5_asksOf (nI part) (nI p) (nI t) m = some (askS S v part p t, m') ∧ fr pSay m m' := by
  have h6 := h.2.1
  unfold f_X5_asksOf
  rw [ast_lit (by decide) (by decide), iM, ald_nI (by omega) (by omega), ast_lit (by decide) (by decide), iM8, ald_nI (by omega) (by omega), ast_lit (by decide) (by decide), iM9, ald_nI (by omega) (by omega)]
  rw [m_onesOf, bnd_some, ast_lit (by decide) (by decide), ast_lit (by decide) (by decide), ald_nI (by omega) (by omega), ast_lit (by decide) (by decide)]
  simp only [ga_pa, gs_pa, ga_ps, gs_ps, reduceIte, Nat.reduceEqDiff, reduceCtorEq, and_true, true_and, and_false, false_and, and_self, eq_self]
  rw [h.1.row (by omega), h.1.row (by omega), h.1.row (by omega), h.1.2.1, (h.1.2.2.2.2 p hp).2]
  generalize hX : pa 50 28 _ _ = X
  have fX : fr pSay m X := by
    rw [← hX]
    have z : pSay 50 28 := ⟨rfl, Or.inr rfl⟩
    exact (((((fr_pa z _ _).trans (fr_pa z _ _)).trans (fr_pa z _ _)).trans (fr_pa z _ _)).trans (fr_pa z _ _)).trans (fr_pa z _ _)
  have hn : ∀ k, k < 6 → ga 50 28 X k = nmS v p t k := by
    intro k hk
    rw [← hX]
    simp only [ga_pa, gs_pa, ga_ps, gs_ps, reduceIte, Nat.reduceEqDiff, reduceCtorEq, and_true, true_and, and_false, false_and, and_self, eq_self, upd_at]
    rcases (show k = 0 ∨ k = 1 ∨ k = 2 ∨ k = 3 ∨ k = 4 ∨ k = 5 by omega) with rfl | rfl | rfl | rfl | rfl | rfl <;> rfl
  obtain ⟨σ', e, f⟩ := h.2.2.2.2.1 (sL v) h.2.2.1 part hpart X (fX.ga (by unfold pSay; decide)) (fX.ga (by unfold pSay; decide)) ((fX.gs (by unfold pSay; decide)).trans h.1.2.2.1)
  rw [e, bnd_some, h.2.2.2.2.2 (sL v) part _ (nmS v p t) h.2.2.1 hpart hn]
  refine ⟨σ', ?_, fX.trans (f.mono (fun o k q => ⟨q.1, Or.inl q.2⟩))⟩
  unfold askS f_X5_asksOf_L101 f_X5_asksOf_L113
  rcases (show part = 0 ∨ part = 1 ∨ part = 2 by omega) with rfl | rfl | rfl <;> (simp only [m_within, bnd_some]; rfl)
theorem i32_ge1 {x : Int32} (h : 0 < x) : 1 ≤ x := by
  have a := Int32.lt_iff_toInt_lt.mp h
  have z : (0 : Int32).toInt = 0 := by decide
  have o : (1 : Int32).toInt = 1 := by decide
  exact Int32.le_iff_toInt_le.mpr (by omega)
theorem m_goneOf (h : CM S n m v) {p t : Nat} (hp : p < sN v) (ht : t < 8) : ∃ m', f_X5_goneOf (nI p) (nI t) m = some (goS S v p t, m') ∧ fr pSay m m' := by
  have h6 := h.2.1
  obtain ⟨m', e, f⟩ := m_asksOf h (part := 0) (by decide) hp ht
  have h' := h.say f
  have e : f_X5_asksOf 0 (nI p) (nI t) m = some (askS S v 0 p t, m') := e
  unfold f_X5_goneOf
  rw [ald_nI (by omega) (by omega), (h.1.2.2.2.2 p hp).1]
  by_cases h5 : sK v p = 5
  · refine ⟨m, ?_, fr.refl m⟩
    rw [if_pos h5, ald_nI (by omega) (by omega), (h.1.2.2.2.2 p hp).2]
    unfold goS m1 f_X5_goneOf_L30
    rw [if_pos h5]
    by_cases h1 : 1 ≤ sO v p
    · rw [if_pos h1, if_pos h1, ald_nI (by omega) (by omega), (h.1.2.2.2.2 p hp).2]
    · rw [if_neg h1, if_neg h1]
  · refine ⟨m', ?_, f⟩
    rw [if_neg h5, e, bnd_some, ald_nI (by omega) (by omega), (h'.1.2.2.2.2 p hp).1]
    unfold goS
    rw [if_neg h5]
    have L : ∀ x, f_X5_goneOf_L147 x m' = some (m1 x, m') := fun x => by
      unfold f_X5_goneOf_L147 f_X5_goneOf_L159 m1
      by_cases h1 : 1 ≤ x
      · rw [if_pos h1, if_pos h1]
      · rw [if_neg h1, if_neg h1]
    unfold f_X5_goneOf_L117 f_X5_goneOf_L139
    simp only [L]
    rw [ald_nI (by omega) (by omega), (h'.1.2.2.2.2 p hp).2]
    by_cases h1 : sK v p = 1
    · rw [if_pos h1, if_pos h1]
    · rw [if_neg h1, if_neg h1]
      by_cases h2 : sK v p = 2
      · rw [if_pos h2, if_pos h2]
      · rw [if_neg h2, if_neg h2]
        by_cases h3 : sK v p = 3
        · rw [if_pos h3, if_pos h3]
          split <;> rfl
        · rw [if_neg h3, if_neg h3]
          by_cases h4 : sK v p = 4
          · rw [if_pos h4, if_pos h4]
            split <;> rfl
          · rw [if_neg h4, if_neg h4]
theorem m_gainsOf (h : CM S n m v) {p t : Nat} (hp : p < sN v) (ht : t < 8) : ∃ m', f_X5_gainsOf (nI p) (nI t) m = some (gaS S v p t, m') ∧ fr pSay m m' := by
  have h6 := h.2.1
  obtain ⟨m', e, f⟩ := m_asksOf h (part := 1) (by decide) hp ht
  have h' := h.say f
  have e : f_X5_asksOf 1 (nI p) (nI t) m = some (askS S v 1 p t, m') := e
  refine ⟨m', ?_, f⟩
  unfold f_X5_gainsOf f_X5_gainsOf_L69 f_X5_gainsOf_L89 gaS
  rw [e, bnd_some]
  by_cases hs : (sR v (12 * p + 9) >>> (nI t &&& 31)) &&& 1 = 0
  · rw [m_hasSand_no h'.1 (by omega) hs, bnd_some, ald_nI (by omega) (by omega), (h'.1.2.2.2.2 p hp).1, ald_nI (by omega) (by omega), (h'.1.2.2.2.2 p hp).2]
    simp only [hs, reduceIte]
    by_cases h1 : sK v p = 1
    · rw [if_pos h1, if_pos h1]
    · rw [if_neg h1, if_neg h1]
      by_cases h2 : sK v p = 2
      · rw [if_pos h2, if_neg (by rw [h2]; decide), if_neg (by rw [h2]; decide)]
      · rw [if_neg h2]
        by_cases h3 : sK v p = 3
        · rw [if_pos h3, if_pos h3, ald_nI (by omega) (by omega), (h'.1.2.2.2.2 p hp).2]
        · rw [if_neg h3, if_neg h3]
          split <;> rfl
  · rw [m_hasSand_yes h'.1 (by omega) hs, bnd_some, ald_nI (by omega) (by omega), (h'.1.2.2.2.2 p hp).1]
    simp only [hs, one_ne0, reduceIte]
    by_cases h1 : sK v p = 1
    · rw [if_pos h1, if_pos h1]
    · rw [if_neg h1, if_neg h1]
      by_cases h2 : sK v p = 2
      · rw [if_pos h2, if_neg (by rw [h2]; decide), if_neg (by rw [h2]; decide)]
      · rw [if_neg h2]
        by_cases h3 : sK v p = 3
        · rw [if_pos h3, if_pos h3]
        · rw [if_neg h3, if_neg h3]
          split <;> rfl
theorem m_spillsOf (h : CM S n m v) {p t : Nat} (hp : p < sN v) (ht : t < 8) : ∃ m', f_X5_spillsOf (nI p) (nI t) m = some (spS S v p t, m') ∧ fr pSay m m' := by
  have h6 := h.2.1
  obtain ⟨m', e, f⟩ := m_asksOf h (part := 2) (by decide) hp ht
  have h' := h.say f
  have e : f_X5_asksOf 2 (nI p) (nI t) m = some (askS S v 2 p t, m') := e
  unfold f_X5_spillsOf spS
  rw [ald_nI (by omega) (by omega), (h.1.2.2.2.2 p hp).1]
  by_cases h5 : sK v p = 5
  · refine ⟨m, ?_, fr.refl m⟩
    rw [if_pos h5, if_pos h5]
  · refine ⟨m', ?_, f⟩
    rw [if_neg h5, if_neg h5, e, bnd_some, ald_nI (by omega) (by omega), ald_nI (by omega) (by omega), (h'.1.2.2.2.2 p hp).1]
    unfold f_X5_spillsOf_L40 f_X5_spillsOf_L56
    rw [h'.1.2.1]
    by_cases h2 : sK v p = 2
    · rw [if_pos h2, if_pos (Or.inl h2)]
      split <;> rfl
    · rw [if_neg h2]
      by_cases h4 : sK v p = 4
      · rw [if_pos h4, if_pos (Or.inr h4)]
        split <;> rfl
      · rw [if_neg h4, if_neg (by rintro (q | q); exact h2 q; exact h4 q)]
theorem m_can_yes (h : RM m v) {p t : Nat} (hp : p < 6) (ht : t < 8) (hc : canS v p t) : f_X5_can (nI p) (nI t) m = some (1, m) := by
  unfold f_X5_can f_X5_can_L26 f_X5_can_L27
  rw [m_isHere_yes h hp hc.1, bnd_some, if_neg one_ne0, iM, ald_nI (by omega) (by omega), h.row (by omega), if_neg (Int32.not_le.mpr hc.2)]
  rfl
theorem m_can_no (h : RM m v) {p t : Nat} (hp : p < 6) (ht : t < 8) (hc : ¬ canS v p t) : f_X5_can (nI p) (nI t) m = some (0, m) := by
  unfold f_X5_can f_X5_can_L26 f_X5_can_L27
  by_cases h1 : sR v (12 * p + 10) = -1
  · rw [m_isHere_yes h hp h1, bnd_some, if_neg one_ne0, iM, ald_nI (by omega) (by omega), h.row (by omega), if_pos (Int32.not_lt.mp (fun z => hc ⟨h1, z⟩))]
    rfl
  · rw [m_isHere_no h hp h1, bnd_some, if_pos rfl]
    rfl
end PM2
