section PC8
variable {S : LW} {T : TX} {n o : Nat} {c : ST} {v : VS} {hs : HS}
/-! the class's plan -/
def pBe (a k : Nat) : Prop := a = 0 ∧ k = 8
def pBs (a k : Nat) : Prop := (a = 0 ∧ k = 8) ∨ (a = 2 ∧ k = 1)
theorem pBe_s (a k : Nat) (h : pBe a k) : pBs a k := Or.inl h
theorem pSt_s (a k : Nat) (h : pSt a k) : pBs a k := Or.inr h
theorem pB8 : pBe 0 8 := ⟨rfl, rfl⟩
theorem CC.bs {c' : ST} (h : CC S T 2 c v) (f : fr pBs c c') : CC S T 2 c' v := h.k2 f (fun k hk => by unfold pBs; omega)
theorem c_fill_L74 {M d : Nat} (hM : M ≤ 60) (hd : 1 ≤ d) (hd2 : d < 1000) (g x1 x3 x6 : Int32) (B : Nat → Int32) (k22 : Int32 → Int32 → Int32 → ST → Option (Unit × ST)) (k66 : Int32 → Int32 → Int32 → Int32 → Int32 → Int32 → ST → Option (Unit × ST)) : ∀ (k q : Nat) (c : ST), k ≤ M → k < q → (∀ j, j < 61 → ga 0 8 c j = if k < j then abS M d g B j else B j) → ∃ c', f_X4_fillBest_L74 T q k22 k66 x1 (nI M) x3 (nI d) g x6 (nI k) c = k66 x1 (nI M) x3 (nI d) g (x6 + -1) c' ∧ (∀ j, j < 61 → ga 0 8 c' j = abS M d g B j) ∧ fr pBe c c' := by
  intro k
  induction k with
  | zero =>
    intro q c hk hq hB
    obtain ⟨q, rfl⟩ : ∃ z, q = z + 1 := ⟨q - 1, by omega⟩
    rw [f_X4_fillBest_L74, if_pos (nI_lt (by omega) (by omega))]
    refine ⟨c, rfl, fun j hj => ?_, fr.refl c⟩
    rw [hB j hj]
    by_cases h0 : 0 < j
    · rw [if_pos h0]
    · rw [if_neg h0]
      unfold abS
      rw [if_neg (fun z => by omega)]
  | succ k ih =>
    intro q c hk hq hB
    obtain ⟨q, rfl⟩ : ∃ z, q = z + 1 := ⟨q - 1, by omega⟩
    rw [f_X4_fillBest_L74]
    by_cases hkd : k + 1 < d
    · rw [if_pos (nI_lt hkd (by omega))]
      refine ⟨c, rfl, fun j hj => ?_, fr.refl c⟩
      rw [hB j hj]
      by_cases h0 : k + 1 < j
      · rw [if_pos h0]
      · rw [if_neg h0]
        unfold abS
        rw [if_neg (fun z => by omega)]
    · have r1 : ga 0 8 c (k + 1 - d) = B (k + 1 - d) := by rw [hB _ (by omega), if_neg (by omega)]
      have r2 : ga 0 8 c (k + 1) = B (k + 1) := by rw [hB _ (by omega), if_neg (by omega)]
      have em : nI (k + 1) + -1 = nI k := by
        have := nI_pred k
        rw [← this, Int32.sub_eq_add_neg]
      rw [if_neg (nI_nlt (by omega) (by omega)), nI_sub (by omega), ald_nI (by omega) (by omega), ald_nI (by omega) (by omega), ast_nI (by omega) (by omega), r1, r2, em]
      obtain ⟨c', g1, g2, g3⟩ := ih q (pa 0 8 (upd (ga 0 8 c) (k + 1) (mxI (B (k + 1)) (B (k + 1 - d) + g))) c) (by omega) (by omega) (fun j hj => by
        rw [ga_pa, if_pos ⟨rfl, rfl⟩, upd_at]
        by_cases hjk : j = k + 1
        · rw [if_pos hjk, if_pos (by omega), hjk]
          unfold abS
          rw [if_pos ⟨by omega, by omega⟩]
        · rw [if_neg hjk, hB j hj]
          by_cases h1 : k + 1 < j
          · rw [if_pos h1, if_pos (by omega)]
          · rw [if_neg h1, if_neg (by omega)])
      exact ⟨c', g1, g2, (fr_pa pB8 _ _).trans g3⟩
theorem c_fill_L66 {M d : Nat} (hM : M ≤ 60) (hd : 1 ≤ d) (hd2 : d < 1000) (g x1 x3 : Int32) (k22 : Int32 → Int32 → Int32 → ST → Option (Unit × ST)) : ∀ (z q k : Nat) (c : ST) (B : Nat → Int32), z ≤ 9 → z < q → (∀ j, j < 61 → ga 0 8 c j = B j) → ∃ c', f_X4_fillBest_L66 T q k22 x1 (nI M) x3 (nI d) g (nI z) c = k22 x1 (nI M) (x3 + 1) c' ∧ (∀ j, j < 61 → ga 0 8 c' j = fold (fun _ B => abS M d g B) z k B j) ∧ fr pBe c c' := by
  intro z
  induction z with
  | zero =>
    intro q k c B hz hq hB
    obtain ⟨q, rfl⟩ : ∃ z, q = z + 1 := ⟨q - 1, by omega⟩
    rw [f_X4_fillBest_L66, if_pos (c := nI 0 ≤ 0) (by decide)]
    exact ⟨c, rfl, hB, fr.refl c⟩
  | succ z ih =>
    intro q k c B hz hq hB
    obtain ⟨q, rfl⟩ : ∃ z, q = z + 1 := ⟨q - 1, by omega⟩
    rw [f_X4_fillBest_L66, if_neg (nI_nle (by omega) (by omega))]
    obtain ⟨c1, e1, g1, f1⟩ := c_fill_L74 (T := T) hM hd hd2 g x1 x3 (nI (z + 1)) B k22 (fun v1 v2 v3 v4 v5 v6 σ => f_X4_fillBest_L66 T q k22 v1 v2 v3 v4 v5 v6 σ) M 1000 c (Nat.le_refl _) (by omega) (fun j hj => by
      rw [hB j hj]
      by_cases h1 : M < j
      · rw [if_pos h1]
        unfold abS
        rw [if_neg (fun z => by omega)]
      · rw [if_neg h1])
    have em : nI (z + 1) + -1 = nI z := by
      have := nI_pred z
      rw [← this, Int32.sub_eq_add_neg]
    rw [e1, em]
    obtain ⟨c', l1, l2, l3⟩ := ih q (k + 1) c1 _ (by omega) (by omega) g1
    exact ⟨c', l1, l2, f1.trans l3⟩
theorem c_fill_L22 {p M : Nat} (hp : p < sN v) (hM : M ≤ 60) : ∀ (r q t : Nat) (c : ST) (B : Nat → Int32), CC S T 2 c v → (∀ j, j < 61 → ga 0 8 c j = B j) → t + r = 8 → r < q → ∃ c', f_X4_fillBest_L22 T q (nI p) (nI M) (nI t) c = some ((), c') ∧ (∀ j, j < 61 → ga 0 8 c' j = fold (fun t B => fold (fun _ B => abS M (goS S v p t).toNatClampNeg (gaS S v p t) B) (sR v (12 * p + t)).toNatClampNeg 0 B) r t B j) ∧ CC S T 2 c' v ∧ fr pBs c c' := by
  intro r
  induction r with
  | zero =>
    intro q t c B h hB ht hq
    obtain ⟨q, rfl⟩ : ∃ z, q = z + 1 := ⟨q - 1, by omega⟩
    rw [f_X4_fillBest_L22, if_pos (c := (8 : Int32) ≤ nI t) (nI_le (a := 8) (by omega) (by omega))]
    exact ⟨c, rfl, hB, h, fr.refl c⟩
  | succ r ih =>
    intro q t c B h hB ht hq
    obtain ⟨q, rfl⟩ : ∃ z, q = z + 1 := ⟨q - 1, by omega⟩
    have h6 := h.2.1
    have iv := h.2.2.2.2.2
    rw [f_X4_fillBest_L22, if_neg (c := (8 : Int32) ≤ nI t) (nI_ge (b := 8) (by omega) (by omega))]
    obtain ⟨d, hd1, hd2, ed⟩ := goS_nI S iv hp t
    obtain ⟨z, hz, ez⟩ := (iv p hp).1 t (by omega)
    obtain ⟨c1, e1, f1⟩ := c_gone h h2c hp (t := t) (by omega)
    have h1 := h.st f1
    obtain ⟨c2, e2, f2⟩ := c_gains h1 h2c hp (t := t) (by omega)
    have h2 := h1.st f2
    have f12 := f1.trans f2
    have hB2 : ∀ j, j < 61 → ga 0 8 c2 j = B j := fun j hj => by rw [f12.ga (by unfold pSt; decide)]; exact hB j hj
    rw [e1, bnd_some, e2, bnd_some, iC, ald_nI (by omega) (by omega), h2.1.g (by omega) (by omega), ed, ez, fold]
    obtain ⟨c3, g1, g2, g3⟩ := c_fill_L66 (T := T) hM hd1 (by omega) (gaS S v p t) (nI p) (nI t) (fun v1 v2 v3 σ => f_X4_fillBest_L22 T q v1 v2 v3 σ) z 1000 0 c2 B hz (by omega) hB2
    rw [g1, nI_1]
    have h3 := h2.bs (g3.mono pBe_s)
    obtain ⟨c', l1, l2, l3, l4⟩ := ih q (t + 1) c3 _ h3 g2 (by omega) (by omega)
    refine ⟨c', l1, ?_, l3, ((f12.mono pSt_s).trans (g3.mono pBe_s)).trans l4⟩
    rw [clamp_le ez (by omega), clamp_le ed (by omega)]
    exact l2
theorem c_fill_L2 {M : Nat} (hM : M ≤ 60) (x1 : Int32) : ∀ (r q k : Nat) (c : ST), (∀ j, j < k → ga 0 8 c j = 0) → k + r = M + 1 → r < q → ∃ c', f_X4_fillBest_L2 T q x1 (nI M) (nI k) c = f_X4_fillBest_L20 T x1 (nI M) c' ∧ (∀ j, j ≤ M → ga 0 8 c' j = 0) ∧ fr pBe c c' := by
  intro r
  induction r with
  | zero =>
    intro q k c hB hk hq
    obtain ⟨q, rfl⟩ : ∃ z, q = z + 1 := ⟨q - 1, by omega⟩
    rw [f_X4_fillBest_L2, if_pos (nI_lt (by omega) (by omega))]
    exact ⟨c, rfl, fun j hj => hB j (by omega), fr.refl c⟩
  | succ r ih =>
    intro q k c hB hk hq
    obtain ⟨q, rfl⟩ : ∃ z, q = z + 1 := ⟨q - 1, by omega⟩
    rw [f_X4_fillBest_L2, if_neg (nI_nlt (by omega) (by omega)), ast_nI (by omega) (by omega), nI_1]
    obtain ⟨c', g1, g2, g3⟩ := ih q (k + 1) (pa 0 8 (upd (ga 0 8 c) k 0) c) (fun j hj => by
      rw [ga_pa, if_pos ⟨rfl, rfl⟩, upd_at]
      by_cases hjk : j = k
      · rw [if_pos hjk]
      · rw [if_neg hjk, hB j (by omega)]) (by omega) (by omega)
    exact ⟨c', g1, g2, (fr_pa pB8 _ _).trans g3⟩
end PC8
