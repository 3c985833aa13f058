section PC3
variable {S : LW} {T : TX} {n o : Nat} {c : ST} {v : VS}
theorem mn_min (s a b : Int32) : mnI s (mnI a b) = minS (minS a s) b := by
  unfold mnI minS
  simp only [Int32.lt_iff_toInt_lt, Int32.le_iff_toInt_le]
  repeat' split
  all_goals first
    | rfl
    | (apply Int32.toInt_inj.mp; omega)
/-- sand, and sets of gentlemen, as numbers -/
theorem or_bit : ∀ a, a < 256 → ∀ k, k < 8 → nI a ||| (1 <<< (nI k &&& 31)) = nI (a ||| 2 ^ k) := by decide +kernel
theorem or_bit_lt {a k : Nat} (ha : a < 256) (hk : k < 8) : a ||| 2 ^ k < 256 := Nat.or_lt_two_pow (n := 8) ha (Nat.pow_lt_pow_right (by decide) hk)
theorem spS_nI (S : LW) (v : VS) (p t : Nat) : ∃ k, k ≤ 10 ∧ spS S v p t = nI k := by
  obtain ⟨a, ha, ea⟩ := ask2 S v p t
  unfold spS
  split
  · exact ⟨0, by omega, rfl⟩
  · split
    · split
      · rw [ea]; exact ⟨a + 1, by omega, nI_1 a⟩
      · exact ⟨0, by omega, rfl⟩
    · exact ⟨a, by omega, ea⟩
theorem minS_nI {a b : Nat} (ha : a < 2147483648) (hb : b < 2147483648) : minS (nI a) (nI b) = nI (min a b) := by
  unfold minS
  by_cases h : a ≤ b
  · rw [if_pos (nI_le h hb), Nat.min_eq_left h]
  · rw [if_neg (nI_ge (by omega) ha), Nat.min_eq_right (by omega)]
/-- one gentleman's part of IV -/
def IV1 (R : Nat → Int32) (K O : Nat → Int32) (p : Nat) : Prop := (∀ t, t < 8 → ∃ k, k ≤ 9 ∧ R (12 * p + t) = nI k) ∧ (∃ k, k ≤ 99 ∧ R (12 * p + 8) = nI k) ∧ (∃ k, k < 256 ∧ R (12 * p + 9) = nI k) ∧ (R (12 * p + 10) = -1 ∨ ∃ t, t < 8 ∧ R (12 * p + 10) = nI t) ∧ (∃ k, k ≤ 1000 ∧ R (12 * p + 11) = nI k ∧ (R (12 * p + 10) = -1 ∨ 1 ≤ k)) ∧ (∃ k, k < 6 ∧ K p = nI k) ∧ (∃ k, k ≤ 9 ∧ O p = nI k)
theorem iv_iff {v : VS} : IV v ↔ ∀ p, p < sN v → IV1 (sR v) (sK v) (sO v) p := Iff.rfl
/-- a grain's place is written -/
theorem iv_wG {v : VS} (iv : IV v) {p t k : Nat} (ht : t < 8) (hk : k ≤ 9) : IV (wR (12 * p + t) (nI k) v) := by
  intro q hq
  obtain ⟨h1, h2, h3, h4, h5, h6, h7⟩ := iv q hq
  refine ⟨fun t' ht' => ?_, ?_, ?_, ?_, ?_, h6, h7⟩
  · show ∃ z, z ≤ 9 ∧ (if 12 * q + t' = 12 * p + t then nI k else sR v (12 * q + t')) = nI z
    split
    · exact ⟨k, hk, rfl⟩
    · exact h1 t' ht'
  · rw [show sR (wR (12 * p + t) (nI k) v) (12 * q + 8) = sR v (12 * q + 8) from upd_ne _ _ (by omega)]; exact h2
  · rw [show sR (wR (12 * p + t) (nI k) v) (12 * q + 9) = sR v (12 * q + 9) from upd_ne _ _ (by omega)]; exact h3
  · rw [show sR (wR (12 * p + t) (nI k) v) (12 * q + 10) = sR v (12 * q + 10) from upd_ne _ _ (by omega)]; exact h4
  · rw [show sR (wR (12 * p + t) (nI k) v) (12 * q + 11) = sR v (12 * q + 11) from upd_ne _ _ (by omega), show sR (wR (12 * p + t) (nI k) v) (12 * q + 10) = sR v (12 * q + 10) from upd_ne _ _ (by omega)]; exact h5
/-- wit, sand, place, minutes of one who has taken -/
theorem iv_end {w : VS} (iv : IV w) {p t : Nat} (hp : p < sN w) (ht : t < 8) (g a : Int32) (hg : ∃ d, 1 ≤ d ∧ d ≤ 109 ∧ g = nI d) : IV (endS p t g a w) := by
  obtain ⟨d, hd1, hd2, rfl⟩ := hg
  obtain ⟨z, hz, ez⟩ := (iv p hp).2.2.1
  obtain ⟨w9, hw9, e9⟩ := wi_nI (x := sR w (12 * p + 8) + a) (b := 99) (by omega)
  have e9 : wiS (sR w (12 * p + 8) + a) 0 99 = nI w9 := e9
  have es : sR (wR (12 * p + 8) (wiS (sR w (12 * p + 8) + a) 0 99) w) (12 * p + 9) = nI z := (upd_ne _ _ (by omega)).trans ez
  have eS : endS p t (nI d) a w = wR (12 * p + 11) (nI d) (wR (12 * p + 10) (nI t) (wR (12 * p + 9) (nI (z ||| 2 ^ t)) (wR (12 * p + 8) (nI w9) w))) := by
    unfold endS
    rw [es, e9, or_bit z hz t ht]
  rw [eS]
  intro q hq
  obtain ⟨h1, h2, h3, h4, h5, h6, h7⟩ := iv q hq
  have R : ∀ j, sR (wR (12 * p + 11) (nI d) (wR (12 * p + 10) (nI t) (wR (12 * p + 9) (nI (z ||| 2 ^ t)) (wR (12 * p + 8) (nI w9) w)))) j = if j = 12 * p + 11 then nI d else if j = 12 * p + 10 then nI t else if j = 12 * p + 9 then nI (z ||| 2 ^ t) else if j = 12 * p + 8 then nI w9 else sR w j := fun j => rfl
  by_cases hqp : q = p
  · subst hqp
    refine ⟨fun t' ht' => ?_, ?_, ?_, ?_, ?_, h6, h7⟩
    · rw [R, if_neg (by omega), if_neg (by omega), if_neg (by omega), if_neg (by omega)]; exact h1 t' ht'
    · rw [R, if_neg (by omega), if_neg (by omega), if_neg (by omega), if_pos rfl]; exact ⟨w9, hw9, rfl⟩
    · rw [R, if_neg (by omega), if_neg (by omega), if_pos rfl]; exact ⟨_, or_bit_lt hz ht, rfl⟩
    · rw [R, if_neg (by omega), if_pos rfl]; exact Or.inr ⟨t, ht, rfl⟩
    · rw [R, if_pos rfl]; exact ⟨d, by omega, rfl, Or.inr hd1⟩
  · refine ⟨fun t' ht' => ?_, ?_, ?_, ?_, ?_, h6, h7⟩
    · rw [R, if_neg (by omega), if_neg (by omega), if_neg (by omega), if_neg (by omega)]; exact h1 t' ht'
    · rw [R, if_neg (by omega), if_neg (by omega), if_neg (by omega), if_neg (by omega)]; exact h2
    · rw [R, if_neg (by omega), if_neg (by omega), if_neg (by omega), if_neg (by omega)]; exact h3
    · rw [R, if_neg (by omega), if_neg (by omega), if_neg (by omega), if_neg (by omega)]; exact h4
    · rw [R, if_neg (by omega), if_neg (by omega), if_neg (by omega), if_neg (by omega), R, if_neg (by omega), if_neg (by omega), if_neg (by omega), if_neg (by omega)]; exact h5
/-- grains behind a pinch: what is spilt -/
theorem nx_lt {v : VS} {p : Nat} (hp : p < sN v) : nxS v p < sN v := by
  unfold nxS
  split <;> omega
theorem take_w (S : LW) {v : VS} (iv : IV v) {p t : Nat} (hp : p < sN v) (ht : t < 8) (hc : canS v p t) : ∃ w, takeS S v p t = endS p t (goS S v p t) (gaS S v p t) w ∧ IV w ∧ sX w = sX v ∧ sR w (12 * p + 8) = sR v (12 * p + 8) ∧
    w = (if nxS v p = p then wR (12 * p + t) (sR v (12 * p + t) - 1) v else wR (12 * nxS v p + t) (sR (wR (12 * p + t) (sR (wR (12 * p + t) (sR v (12 * p + t) - 1) v) (12 * p + t) - minS (minS (sR (wR (12 * p + t) (sR v (12 * p + t) - 1) v) (12 * p + t)) (spS S v p t)) (9 - sR (wR (12 * p + t) (sR v (12 * p + t) - 1) v) (12 * nxS v p + t))) (wR (12 * p + t) (sR v (12 * p + t) - 1) v)) (12 * nxS v p + t) + minS (minS (sR (wR (12 * p + t) (sR v (12 * p + t) - 1) v) (12 * p + t)) (spS S v p t)) (9 - sR (wR (12 * p + t) (sR v (12 * p + t) - 1) v) (12 * nxS v p + t))) (wR (12 * p + t) (sR (wR (12 * p + t) (sR v (12 * p + t) - 1) v) (12 * p + t) - minS (minS (sR (wR (12 * p + t) (sR v (12 * p + t) - 1) v) (12 * p + t)) (spS S v p t)) (9 - sR (wR (12 * p + t) (sR v (12 * p + t) - 1) v) (12 * nxS v p + t))) (wR (12 * p + t) (sR v (12 * p + t) - 1) v))) := by
  refine ⟨_, rfl, ?_, ?_, ?_, rfl⟩
  · obtain ⟨a, ha, ea⟩ := (iv p hp).1 t ht
    have hpos : 1 ≤ a := by
      have z := hc.2
      rw [ea] at z
      have : ¬ a = 0 := fun e => by rw [e] at z; exact absurd z (by decide)
      omega
    have e1 : sR v (12 * p + t) - 1 = nI (a - 1) := by
      rw [ea]
      exact nI_sub (b := 1) hpos
    rw [e1]
    have iv1 := iv_wG iv (p := p) ht (show a - 1 ≤ 9 by omega)
    by_cases hq : nxS v p = p
    · rw [if_pos hq]; exact iv1
    · rw [if_neg hq]
      obtain ⟨b, hb, eb⟩ := (iv (nxS v p) (nx_lt hp)).1 t ht
      obtain ⟨s, hs, es⟩ := spS_nI S v p t
      have r1 : sR (wR (12 * p + t) (nI (a - 1)) v) (12 * p + t) = nI (a - 1) := upd_eq _ _ _
      have r2 : sR (wR (12 * p + t) (nI (a - 1)) v) (12 * nxS v p + t) = nI b := (upd_ne _ _ (by omega)).trans eb
      have e9 : (9 : Int32) - nI b = nI (9 - b) := nI_sub (a := 9) hb
      rw [r1, r2, es, e9, minS_nI (by omega) (by omega), minS_nI (by omega) (by omega)]
      have hm : min (min (a - 1) s) (9 - b) ≤ a - 1 := by omega
      have hm2 : min (min (a - 1) s) (9 - b) ≤ 9 - b := by omega
      generalize min (min (a - 1) s) (9 - b) = z at hm hm2 ⊢
      rw [nI_sub hm]
      have iv2 := iv_wG iv1 (p := p) ht (show a - 1 - z ≤ 9 by omega)
      have r3 : sR (wR (12 * p + t) (nI (a - 1 - z)) (wR (12 * p + t) (nI (a - 1)) v)) (12 * nxS v p + t) = nI b := (upd_ne _ _ (by omega)).trans r2
      rw [r3, nI_add]
      exact iv_wG iv2 (p := nxS v p) ht (show b + z ≤ 9 by omega)
  · split <;> rfl
  · split
    · exact upd_ne _ _ (by omega)
    · exact (upd_ne _ _ (by omega)).trans ((upd_ne _ _ (by omega)).trans (upd_ne _ _ (by omega)))
theorem iv_take (S : LW) {v : VS} (iv : IV v) {p t : Nat} (hp : p < sN v) (ht : t < 8) (hc : canS v p t) : IV (takeS S v p t) := by
  obtain ⟨w, e, ivw, hx, -, -⟩ := take_w S iv hp ht hc
  rw [e]
  exact iv_end ivw (by rw [sX_N hx]; exact hp) ht _ _ (goS_nI S iv hp t)
theorem pCo_o (o k : Nat) : pCo o o k := Or.inl rfl
theorem c_take_L140 (h : RC o c v) {p t : Nat} (hp : p < 6) (ht : t < 8) (g a : Int32) : ∃ c', f_X0_take_L140 T o (nI p) (nI t) g (wiS (sR v (12 * p + 8) + a) 0 99) c = some ((), c') ∧ RC o c' (endS p t g a v) ∧ fr (pCo o) c c' := by
  unfold f_X0_take_L140
  rw [ast_nI (by omega) (by omega)]
  have h4 := h.wX 4 (by decide) (p := p) (wiS (sR v (12 * p + 8) + a) 0 99)
  have f4 := fr_pa (pCo_o o 4) (upd (ga o 4 c) p (wiS (sR v (12 * p + 8) + a) 0 99)) c
  generalize pa o 4 (upd (ga o 4 c) p (wiS (sR v (12 * p + 8) + a) 0 99)) c = A1 at h4 f4 ⊢
  rw [ald_nI (by omega) (by omega), h4.sand hp, ast_nI (by omega) (by omega)]
  generalize hx : sR (wR (12 * p + (4 + 4)) (wiS (sR v (12 * p + 8) + a) 0 99) v) (12 * p + 9) ||| (1 <<< (nI t &&& 31)) = x
  have h5 := h4.wX 5 (by decide) (p := p) x
  have f5 := fr_pa (pCo_o o 5) (upd (ga o 5 A1) p x) A1
  generalize pa o 5 (upd (ga o 5 A1) p x) A1 = A2 at h5 f5 ⊢
  rw [ast_nI (by omega) (by omega)]
  have h6 := h5.wX 6 (by decide) (p := p) (nI t)
  have f6 := fr_pa (pCo_o o 6) (upd (ga o 6 A2) p (nI t)) A2
  generalize pa o 6 (upd (ga o 6 A2) p (nI t)) A2 = A3 at h6 f6 ⊢
  rw [ast_nI (by omega) (by omega)]
  have h7 := h6.wX 7 (by decide) (p := p) g
  have f7 := fr_pa (pCo_o o 7) (upd (ga o 7 A3) p g) A3
  generalize pa o 7 (upd (ga o 7 A3) p g) A3 = A4 at h7 f7 ⊢
  subst hx
  exact ⟨A4, rfl, h7, ((f4.trans f5).trans f6).trans f7⟩
theorem c_take (h : CC S T o c v) (ho : isC o) {p t : Nat} (hp : p < sN v) (ht : t < 8) (hc : canS v p t) : ∃ c', f_X0_take T o (nI p) (nI t) c = some ((), c') ∧ CC S T o c' (takeS S v p t) ∧ fr (pCo o) c c' := by
  have h6 := h.2.1
  obtain ⟨c1, e1, f1⟩ := c_gone h ho hp ht
  have h1 := h.st f1
  obtain ⟨c2, e2, f2⟩ := c_gains h1 ho hp ht
  have h2 := h1.st f2
  obtain ⟨c3, e3, f3⟩ := c_spills h2 ho hp ht
  have h3 := h2.st f3
  have f := ((f1.trans f2).trans f3).mono (pSt_co o)
  obtain ⟨w, ew, ivw, hxw, h8, hw⟩ := take_w S h.2.2.2.2.2 hp ht hc
  have iv' := iv_take S h.2.2.2.2.2 hp ht hc
  unfold f_X0_take
  rw [e1, bnd_some, ald_nI (by omega) (by omega), h1.1.wit (by omega), e2, bnd_some, c_bounded (by decide), bnd_some, e3, bnd_some, h3.1.1, nI_1, iC]
  have fin : ∀ q, q = nxS v p → ∃ c', f_X0_take_L61 T o (nI p) (nI t) (goS S v p t) (wiS (sR v (12 * p + 8) + gaS S v p t) 0 99) (spS S v p t) (nI (8 * p + t)) (nI q) c3 = some ((), c') ∧ CC S T o c' (takeS S v p t) ∧ fr (pCo o) c c' := by
    intro q hq
    have hq6 : q < 6 := by rw [hq]; have := nx_lt hp; omega
    have last : ∀ A : ST, RC o A w → fr (pCo o) c A → ∃ c', f_X0_take_L140 T o (nI p) (nI t) (goS S v p t) (wiS (sR v (12 * p + 8) + gaS S v p t) 0 99) A = some ((), c') ∧ CC S T o c' (takeS S v p t) ∧ fr (pCo o) c c' := by
      intro A hA fA
      obtain ⟨c', g1, g2, g3⟩ := c_take_L140 (T := T) hA (p := p) (by omega) ht (goS S v p t) (gaS S v p t)
      rw [h8] at g1
      rw [← ew] at g2
      exact ⟨c', g1, ⟨g2, by rw [sX_N (sX_take S v p t)]; exact h6, by rw [show sL (takeS S v p t) = sL v from congrArg (fun q => q.2.2.2) (sX_take S v p t)]; exact h.2.2.1, h.2.2.2.1, h.2.2.2.2.1, iv'⟩, fA.trans g3⟩
    unfold f_X0_take_L61
    rw [ald_nI (by omega) (by omega), h3.1.g (by omega) ht, ast_nI (by omega) (by omega)]
    have h4 := h3.1.wG (p := p) ht (sR v (12 * p + t) - 1)
    have f4 := fr_pa (pCo_o o 8) (upd (ga o 8 c3) (8 * p + t) (sR v (12 * p + t) - 1)) c3
    generalize pa o 8 (upd (ga o 8 c3) (8 * p + t) (sR v (12 * p + t) - 1)) c3 = A1 at h4 f4 ⊢
    by_cases hqp : q = p
    · rw [if_pos (by rw [hqp])]
      rw [if_pos (by rw [← hq]; exact hqp)] at hw
      exact last A1 (by rw [hw]; exact h4) (f.trans f4)
    · rw [if_neg (fun z => hqp ((nI_eq (by omega) (by omega)).mp z))]
      rw [if_neg (by rw [← hq]; exact hqp)] at hw
      rw [ald_nI (by omega) (by omega), iC, ald_nI (by omega) (by omega), ald_nI (by omega) (by omega), h4.g (p := p) (by omega) ht, h4.g hq6 ht, ast_nI (by omega) (by omega), mn_min]
      rw [← hq] at hw
      generalize minS (minS (sR (wR (12 * p + t) (sR v (12 * p + t) - 1) v) (12 * p + t)) (spS S v p t)) (9 - sR (wR (12 * p + t) (sR v (12 * p + t) - 1) v) (12 * q + t)) = z at hw ⊢
      have h5 := h4.wG (p := p) ht (sR (wR (12 * p + t) (sR v (12 * p + t) - 1) v) (12 * p + t) - z)
      have f5 := fr_pa (pCo_o o 8) (upd (ga o 8 A1) (8 * p + t) (sR (wR (12 * p + t) (sR v (12 * p + t) - 1) v) (12 * p + t) - z)) A1
      generalize pa o 8 (upd (ga o 8 A1) (8 * p + t) (sR (wR (12 * p + t) (sR v (12 * p + t) - 1) v) (12 * p + t) - z)) A1 = A2 at h5 f5 ⊢
      rw [ald_nI (by omega) (by omega), h5.g hq6 ht, ast_nI (by omega) (by omega)]
      generalize hx : sR (wR (12 * p + t) (sR (wR (12 * p + t) (sR v (12 * p + t) - 1) v) (12 * p + t) - z) (wR (12 * p + t) (sR v (12 * p + t) - 1) v)) (12 * q + t) + z = x at hw ⊢
      have h7 := h5.wG (p := q) ht x
      have f7 := fr_pa (pCo_o o 8) (upd (ga o 8 A2) (8 * q + t) x) A2
      generalize pa o 8 (upd (ga o 8 A2) (8 * q + t) x) A2 = A3 at h7 f7 ⊢
      exact last A3 (by rw [hw]; exact h7) (((f.trans f4).trans f5).trans f7)
  by_cases hz : sN v ≤ p + 1
  · rw [if_pos (nI_le hz (by omega))]
    exact fin 0 (by unfold nxS; rw [if_pos (by omega)])
  · rw [if_neg (nI_ge (by omega) (by omega))]
    exact fin (p + 1) (by unfold nxS; rw [if_neg (by omega)])
end PC3
