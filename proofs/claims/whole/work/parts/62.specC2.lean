section PC2
variable {S : LW} {T : TX} {n o : Nat} {c : ST} {v : VS}
theorem bv_ss (a b : BitVec 32) : a - (a - b) = b := by
  apply BitVec.eq_of_toNat_eq
  have h1 := a.isLt
  have h2 := b.isLt
  rw [BitVec.toNat_sub, BitVec.toNat_sub]
  omega
theorem nm_k (k : Nat) : (-1 : Int32) - (-1 - nI k) = nI k := by
  apply Int32.toBitVec_inj.mp
  rw [Int32.toBitVec_sub, Int32.toBitVec_sub]
  exact bv_ss _ _
theorem c_named (h : RC o c v) (iv : IV v) (h6 : sN v ≤ 6) {p t : Nat} (hp : p < sN v) (ht : t < 8) (ho : isC o) : ∀ k, k < 6 → ∀ c', fr pSt c c' → f_X0_named T o (-1 - nI k) (nI p) (nI t) c' = some (nmS v p t k, c') := by
  intro k hk c' f
  have h' : RC o c' v := h.fr f (fun k hk z => by have := z.2; omega)
  unfold f_X0_named nmS
  rw [nm_k]
  rcases (show k = 0 ∨ k = 1 ∨ k = 2 ∨ k = 3 ∨ k = 4 ∨ k = 5 by omega) with rfl | rfl | rfl | rfl | rfl | rfl
  · rfl
  · rw [if_neg (by decide), if_pos (by decide), iC, ald_nI (by omega) (by omega), h'.g (by omega) ht]; rfl
  · rw [if_neg (by decide), if_neg (by decide), if_pos (by decide), ald_nI (by omega) (by omega), h'.wit (by omega)]; rfl
  · rw [if_neg (by decide), if_neg (by decide), if_neg (by decide), if_pos (by decide), ald_nI (by omega) (by omega), h'.sand (by omega)]
    obtain ⟨z, hz, e⟩ := (iv p hp).2.2.1
    rw [e, pop_tab z hz]
    rfl
  · rw [if_neg (by decide), if_neg (by decide), if_neg (by decide), if_neg (by decide), if_pos (by decide), h'.2.1]; rfl
  · rw [if_neg (by decide), if_neg (by decide), if_neg (by decide), if_neg (by decide), if_neg (by decide), ald_nI (by omega) (by omega), (h'.2.2.2.2 p hp).2]; rfl
theorem c_lawSays (h : CC S T o c v) (ho : isC o) {part p t : Nat} (hpart : part < 3) (hp : p < sN v) (ht : t < 8) : ∃ c', f_X0_lawSays T o (nI part) (nI p) (nI t) c = some (askS S v part p t, c') ∧ fr pSt c c' := by
  obtain ⟨hR, h6, hL, hT6, hLC, iv⟩ := h
  obtain ⟨c', e, f⟩ := hLC (sL v) hL part hpart o c (nI p) (nI t) (nmS v p t) (c_named hR iv h6 hp ht ho)
  refine ⟨c', ?_, f⟩
  unfold f_X0_lawSays
  rw [hR.2.2.1, nI_clamp (by omega), chk_nI (by omega) (by omega), if_pos hL, e]
  rfl
theorem m1_mx (x : Int32) : mxI 1 x = m1 x := by
  unfold mxI m1
  by_cases h : 1 ≤ x
  · rw [if_pos h]
    by_cases h2 : 1 < x
    · rw [if_pos h2]
    · rw [if_neg h2]; exact Int32.le_antisymm h (Int32.not_lt.mp h2)
  · rw [if_neg h, if_neg (fun z => h (Int32.le_of_lt z))]
theorem m1_id {x : Int32} (h : 1 ≤ x) : m1 x = x := if_pos h
theorem wi_nI {x : Int32} {b : Nat} (hb : b < 2147483648) : ∃ k, k ≤ b ∧ wiS x 0 (nI b) = nI k := by
  unfold wiS
  by_cases h1 : 0 ≤ x
  · rw [if_pos h1]
    by_cases h2 : x ≤ nI b
    · rw [if_pos h2]; exact (in_nI hb).mp ⟨h1, h2⟩
    · rw [if_neg h2]; exact ⟨b, Nat.le_refl _, rfl⟩
  · rw [if_neg h1]; exact ⟨0, Nat.zero_le _, rfl⟩
theorem ask0 (S : LW) (v : VS) (p t : Nat) : ∃ k, k ≤ 99 ∧ askS S v 0 p t = nI k := wi_nI (b := 99) (by omega)
theorem ask2 (S : LW) (v : VS) (p t : Nat) : ∃ k, k ≤ 9 ∧ askS S v 2 p t = nI k := wi_nI (b := 9) (by omega)
theorem one_le_nI {k : Nat} (h : 1 ≤ k) (h2 : k < 2147483648) : (1 : Int32) ≤ nI k := nI_le (a := 1) h h2
/-- minutes gone, as a number -/
theorem goS_nI (S : LW) {v : VS} (iv : IV v) {p : Nat} (hp : p < sN v) (t : Nat) : ∃ d, 1 ≤ d ∧ d ≤ 109 ∧ goS S v p t = nI d := by
  obtain ⟨a, ha, ea⟩ := ask0 S v p t
  obtain ⟨o, ho, eo⟩ := (iv p hp).2.2.2.2.2.2
  have M : ∀ k, k ≤ 109 → ∃ d, 1 ≤ d ∧ d ≤ 109 ∧ m1 (nI k) = nI d := fun k hk => by
    unfold m1
    by_cases h : 1 ≤ k
    · rw [if_pos (one_le_nI h (by omega))]; exact ⟨k, h, hk, rfl⟩
    · rw [if_neg (show ¬ (1 : Int32) ≤ nI k from nI_ge (b := 1) (by omega) (by omega))]; exact ⟨1, by omega, by omega, rfl⟩
  have d2 : nI a / 2 = nI (a / 2) := pk_div (a := a) (d := 2) (by omega) (by omega) (by omega)
  have a10 : nI a + 10 = nI (a + 10) := nI_add a 10
  have d3 : nI (a + 10) / 3 = nI ((a + 10) / 3) := pk_div (a := a + 10) (d := 3) (by omega) (by omega) (by omega)
  unfold goS
  rw [eo, ea, d2, a10, d3]
  split
  · exact M o (by omega)
  · split
    · exact M _ (by omega)
    · split
      · exact M _ (by omega)
      · split
        · split
          · exact M 1 (by omega)
          · exact M _ (by omega)
        · split
          · split
            · exact M 99 (by omega)
            · exact M _ (by omega)
          · exact M _ (by omega)
theorem c_gone (h : CC S T o c v) (ho : isC o) {p t : Nat} (hp : p < sN v) (ht : t < 8) : ∃ c', f_X0_gone T o (nI p) (nI t) c = some (goS S v p t, c') ∧ fr pSt c c' := by
  have h6 := h.2.1
  obtain ⟨c', e, f⟩ := c_lawSays h ho (part := 0) (by decide) hp ht
  have e : f_X0_lawSays T o 0 (nI p) (nI t) c = some (askS S v 0 p t, c') := e
  have h' := h.st f
  refine ⟨c', ?_, f⟩
  obtain ⟨a, ha, ea⟩ := ask0 S v p t
  obtain ⟨x, hx, ex⟩ := (h.2.2.2.2.2 p hp).2.2.2.2.2.1
  have a10 : nI a + 10 = nI (a + 10) := nI_add a 10
  have d3 : nI (a + 10) / 3 = nI ((a + 10) / 3) := pk_div (a := a + 10) (d := 3) (by omega) (by omega) (by omega)
  unfold f_X0_gone f_X0_gone_L85 f_X0_gone_L103 goS
  rw [e, bnd_some, ald_nI (by omega) (by omega), (h'.1.2.2.2.2 p hp).1, ald_nI (by omega) (by omega), ald_nI (by omega) (by omega), (h'.1.2.2.2.2 p hp).2, m1_mx, m1_mx, m1_mx, ex]
  have e10 : m1 (askS S v 0 p t + 10) = askS S v 0 p t + 10 := by rw [ea, a10]; exact m1_id (one_le_nI (by omega) (by omega))
  have e3 : m1 ((askS S v 0 p t + 10) / 3) = (askS S v 0 p t + 10) / 3 := by rw [ea, a10, d3]; exact m1_id (one_le_nI (by omega) (by omega))
  rcases (show x = 0 ∨ x = 1 ∨ x = 2 ∨ x = 3 ∨ x = 4 ∨ x = 5 by omega) with rfl | rfl | rfl | rfl | rfl | rfl
  · rfl
  · rfl
  · simp only [(show (nI 2 = 1) = False from eq_false (by decide)), (show (nI 2 = 2) = True from eq_true rfl), (show (nI 2 = 3) = False from eq_false (by decide)), (show (nI 2 = 4) = False from eq_false (by decide)), (show (nI 2 = 5) = False from eq_false (by decide)), reduceIte, e10]
  · simp only [(show (nI 3 = 1) = False from eq_false (by decide)), (show (nI 3 = 2) = False from eq_false (by decide)), (show (nI 3 = 3) = True from eq_true rfl), (show (nI 3 = 4) = False from eq_false (by decide)), (show (nI 3 = 5) = False from eq_false (by decide)), reduceIte]
    split <;> rfl
  · simp only [(show (nI 4 = 1) = False from eq_false (by decide)), (show (nI 4 = 2) = False from eq_false (by decide)), (show (nI 4 = 3) = False from eq_false (by decide)), (show (nI 4 = 4) = True from eq_true rfl), (show (nI 4 = 5) = False from eq_false (by decide)), reduceIte]
    split
    · rfl
    · rw [e3]
  · rfl
theorem c_gains (h : CC S T o c v) (ho : isC o) {p t : Nat} (hp : p < sN v) (ht : t < 8) : ∃ c', f_X0_gains T o (nI p) (nI t) c = some (gaS S v p t, c') ∧ fr pSt c c' := by
  have h6 := h.2.1
  obtain ⟨c', e, f⟩ := c_lawSays h ho (part := 1) (by decide) hp ht
  have e : f_X0_lawSays T o 1 (nI p) (nI t) c = some (askS S v 1 p t, c') := e
  have h' := h.st f
  refine ⟨c', ?_, f⟩
  unfold f_X0_gains f_X0_gains_L69 f_X0_gains_L89 gaS
  rw [e, bnd_some]
  by_cases hs : (sR v (12 * p + 9) >>> (nI t &&& 31)) &&& 1 = 0
  · rw [c_hasSand_no h'.1 (by omega) hs, bnd_some, ald_nI (by omega) (by omega), (h'.1.2.2.2.2 p hp).1, ald_nI (by omega) (by omega), (h'.1.2.2.2.2 p hp).2]
    simp only [hs, reduceIte]
    by_cases h1 : sK v p = 1
    · rw [if_pos h1, if_pos h1]
    · rw [if_neg h1, if_neg h1]
      by_cases h2 : sK v p = 2
      · rw [if_pos h2, if_neg (by rw [h2]; decide), if_neg (by rw [h2]; decide)]
      · rw [if_neg h2]
        by_cases h3 : sK v p = 3
        · rw [if_pos h3, if_pos h3, ald_nI (by omega) (by omega), (h'.1.2.2.2.2 p hp).2]
        · rw [if_neg h3, if_neg h3]
          split <;> rfl
  · rw [c_hasSand_yes h'.1 (by omega) hs, bnd_some, ald_nI (by omega) (by omega), (h'.1.2.2.2.2 p hp).1]
    simp only [hs, one_ne0, reduceIte]
    by_cases h1 : sK v p = 1
    · rw [if_pos h1, if_pos h1]
    · rw [if_neg h1, if_neg h1]
      by_cases h2 : sK v p = 2
      · rw [if_pos h2, if_neg (by rw [h2]; decide), if_neg (by rw [h2]; decide)]
      · rw [if_neg h2]
        by_cases h3 : sK v p = 3
        · rw [if_pos h3, if_pos h3]
        · rw [if_neg h3, if_neg h3]
          split <;> rfl
theorem c_spills (h : CC S T o c v) (ho : isC o) {p t : Nat} (hp : p < sN v) (ht : t < 8) : ∃ c', f_X0_spills T o (nI p) (nI t) c = some (spS S v p t, c') ∧ fr pSt c c' := by
  have h6 := h.2.1
  obtain ⟨c', e, f⟩ := c_lawSays h ho (part := 2) (by decide) hp ht
  have e : f_X0_lawSays T o 2 (nI p) (nI t) c = some (askS S v 2 p t, c') := e
  have h' := h.st f
  refine ⟨c', ?_, f⟩
  unfold f_X0_spills f_X0_spills_L60 spS
  rw [e, bnd_some, ald_nI (by omega) (by omega), (h'.1.2.2.2.2 p hp).1, h'.1.2.1]
  by_cases h2 : sK v p = 2
  · rw [if_pos h2, if_neg (c := sK v p = 5) (by rw [h2]; decide), if_pos (Or.inl h2)]
    split <;> rfl
  · rw [if_neg h2]
    by_cases h3 : sK v p = 3
    · rw [if_pos h3, if_neg (by rw [h3]; decide), if_neg (by rw [h3]; decide)]
    · rw [if_neg h3]
      by_cases h4 : sK v p = 4
      · rw [if_pos h4, if_neg (c := sK v p = 5) (by rw [h4]; decide), if_pos (Or.inr h4)]
        split <;> rfl
      · rw [if_neg h4]
        by_cases h5 : sK v p = 5
        · rw [if_pos h5, if_pos h5]
        · rw [if_neg h5, if_neg h5, if_neg (by rintro (q | q); exact h2 q; exact h4 q)]
theorem c_can_yes (h : RC o c v) (h6 : sN v ≤ 6) {p t : Nat} (hp : p < sN v) (ht : t < 8) (hc : canS v p t) : f_X0_can T o (nI p) (nI t) c = some (1, c) := by
  unfold f_X0_can f_X0_can_L43 f_X0_can_L44
  rw [c_has_yes h h6 hp, bnd_some, if_neg one_ne0, c_isSort_yes ht, bnd_some, if_neg one_ne0, ald_nI (by omega) (by omega), h.place (by omega), if_pos hc.1, iC, ald_nI (by omega) (by omega), h.g (by omega) ht, if_neg (Int32.not_le.mpr hc.2)]
  rfl
theorem c_can_no (h : RC o c v) (h6 : sN v ≤ 6) {p t : Nat} (hp : p < sN v) (ht : t < 8) (hc : ¬ canS v p t) : f_X0_can T o (nI p) (nI t) c = some (0, c) := by
  unfold f_X0_can f_X0_can_L43 f_X0_can_L44
  rw [c_has_yes h h6 hp, bnd_some, if_neg one_ne0, c_isSort_yes ht, bnd_some, if_neg one_ne0, ald_nI (by omega) (by omega), h.place (by omega)]
  by_cases h1 : sR v (12 * p + 10) = -1
  · rw [if_pos h1, iC, ald_nI (by omega) (by omega), h.g (by omega) ht, if_pos (Int32.not_lt.mp (fun z => hc ⟨h1, z⟩))]
    rfl
  · rw [if_neg h1]
    rfl
theorem c_can_out (h : RC o c v) (h6 : sN v ≤ 6) {p : Int32} (hp : ¬ ∃ k, k < sN v ∧ p = nI k) (t : Int32) : f_X0_can T o p t c = some (0, c) := by
  unfold f_X0_can f_X0_can_L43 f_X0_can_L44
  rw [c_has_no h h6 hp, bnd_some, if_pos rfl]
  rfl
end PC2
