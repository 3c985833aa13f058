section PM4
variable {S : LW} {n : Nat} {m : ST} {v : VS}
def whoS (v : VS) (x : Int32) : Int32 := fold (fun k a => if sR v (12 * k + 10) = x then a ||| (1 <<< (nI k &&& 31)) else a) (sN v) 0 0
def longS (v : VS) : Int32 := fold (fun k a => if sR v (12 * k + 11) ≤ a then a else sR v (12 * k + 11)) (sN v) 0 0
def witS (v : VS) : Int32 := fold (fun k a => a + sR v (12 * k + 8)) (sN v) 0 0
def grS (v : VS) (p : Nat) : Int32 := fold (fun k a => a + sR v (12 * p + k)) 8 0 0
theorem or_0 (x : Int32) : x ||| 0 = x := by
  apply Int32.toBitVec_inj.mp
  rw [Int32.toBitVec_or]
  show x.toBitVec ||| 0#32 = _
  simp
theorem m_hereSet_L : ∀ (r q k : Nat) (a : Int32), RM m v → sN v ≤ 6 → k + r = sN v → r < q → f_X5_hereSet_L4 q a (nI k) m = some (fold (fun k a => if sR v (12 * k + 10) = -1 then a ||| (1 <<< (nI k &&& 31)) else a) r k a, m) := by
  intro r
  induction r with
  | zero =>
    intro q k a h h6 hk hq
    obtain ⟨q, rfl⟩ : ∃ z, q = z + 1 := ⟨q - 1, by omega⟩
    rw [f_X5_hereSet_L4, h.1, if_pos (nI_le (by omega) (by omega))]
    rfl
  | succ r ih =>
    intro q k a h h6 hk hq
    obtain ⟨q, rfl⟩ : ∃ z, q = z + 1 := ⟨q - 1, by omega⟩
    rw [f_X5_hereSet_L4, h.1, if_neg (nI_ge (by omega) (by omega))]
    unfold f_X5_hereSet_L28
    rw [nI_1, fold]
    by_cases hh : sR v (12 * k + 10) = -1
    · rw [m_isHere_yes h (by omega) hh, bnd_some, if_neg one_ne0, if_pos hh]
      exact ih q (k + 1) _ h h6 (by omega) (by omega)
    · rw [m_isHere_no h (by omega) hh, bnd_some, if_pos rfl, if_neg hh, or_0]
      exact ih q (k + 1) _ h h6 (by omega) (by omega)
theorem m_hereSet (h : CM S n m v) : f_X5_hereSet m = some (whoS v (-1), m) := m_hereSet_L (sN v) 1000 0 0 h.1 h.2.1 (by omega) (by have := h.2.1; omega)
theorem m_whoIn_L (x : Int32) : ∀ (r q k : Nat) (a : Int32), RM m v → sN v ≤ 6 → k + r = sN v → r < q → f_X5_whoIn_L4 q x a (nI k) m = some (fold (fun k a => if sR v (12 * k + 10) = x then a ||| (1 <<< (nI k &&& 31)) else a) r k a, m) := by
  intro r
  induction r with
  | zero =>
    intro q k a h h6 hk hq
    obtain ⟨q, rfl⟩ : ∃ z, q = z + 1 := ⟨q - 1, by omega⟩
    rw [f_X5_whoIn_L4, h.1, if_pos (nI_le (by omega) (by omega))]
    rfl
  | succ r ih =>
    intro q k a h h6 hk hq
    obtain ⟨q, rfl⟩ : ∃ z, q = z + 1 := ⟨q - 1, by omega⟩
    rw [f_X5_whoIn_L4, h.1, if_neg (nI_ge (by omega) (by omega)), iM10, ald_nI (by omega) (by omega), h.row (by omega)]
    unfold f_X5_whoIn_L36
    rw [nI_1, fold]
    by_cases hh : sR v (12 * k + 10) = x
    · rw [if_pos hh, if_pos hh]
      exact ih q (k + 1) _ h h6 (by omega) (by omega)
    · rw [if_neg hh, if_neg hh, or_0]
      exact ih q (k + 1) _ h h6 (by omega) (by omega)
theorem m_whoIn (h : CM S n m v) (x : Int32) : f_X5_whoIn x m = some (whoS v x, m) := m_whoIn_L x (sN v) 1000 0 0 h.1 h.2.1 (by omega) (by have := h.2.1; omega)
theorem m_longest_L : ∀ (r q k : Nat) (a : Int32), RM m v → sN v ≤ 6 → k + r = sN v → r < q → f_X5_longest_L4 q a (nI k) m = some (fold (fun k a => if sR v (12 * k + 11) ≤ a then a else sR v (12 * k + 11)) r k a, m) := by
  intro r
  induction r with
  | zero =>
    intro q k a h h6 hk hq
    obtain ⟨q, rfl⟩ : ∃ z, q = z + 1 := ⟨q - 1, by omega⟩
    rw [f_X5_longest_L4, h.1, if_pos (nI_le (by omega) (by omega))]
    rfl
  | succ r ih =>
    intro q k a h h6 hk hq
    obtain ⟨q, rfl⟩ : ∃ z, q = z + 1 := ⟨q - 1, by omega⟩
    rw [f_X5_longest_L4, h.1, if_neg (nI_ge (by omega) (by omega)), iM11, ald_nI (by omega) (by omega), ald_nI (by omega) (by omega), h.row (by omega)]
    unfold f_X5_longest_L44
    rw [nI_1, fold]
    by_cases hh : sR v (12 * k + 11) ≤ a
    · rw [if_pos hh, if_pos hh]
      exact ih q (k + 1) _ h h6 (by omega) (by omega)
    · rw [if_neg hh, if_neg hh]
      exact ih q (k + 1) _ h h6 (by omega) (by omega)
theorem m_longest (h : CM S n m v) : f_X5_longest m = some (longS v, m) := m_longest_L (sN v) 1000 0 0 h.1 h.2.1 (by omega) (by have := h.2.1; omega)
theorem m_witAll_L : ∀ (r q k : Nat) (a : Int32), RM m v → sN v ≤ 6 → k + r = sN v → r < q → f_X5_witAll_L4 q a (nI k) m = some (fold (fun k a => a + sR v (12 * k + 8)) r k a, m) := by
  intro r
  induction r with
  | zero =>
    intro q k a h h6 hk hq
    obtain ⟨q, rfl⟩ : ∃ z, q = z + 1 := ⟨q - 1, by omega⟩
    rw [f_X5_witAll_L4, h.1, if_pos (nI_le (by omega) (by omega))]
    rfl
  | succ r ih =>
    intro q k a h h6 hk hq
    obtain ⟨q, rfl⟩ : ∃ z, q = z + 1 := ⟨q - 1, by omega⟩
    rw [f_X5_witAll_L4, h.1, if_neg (nI_ge (by omega) (by omega)), iM8, ald_nI (by omega) (by omega), h.row (by omega), nI_1, fold]
    exact ih q (k + 1) _ h h6 (by omega) (by omega)
theorem m_witAll (h : CM S n m v) : f_X5_witAll m = some (witS v, m) := m_witAll_L (sN v) 1000 0 0 h.1 h.2.1 (by omega) (by have := h.2.1; omega)
theorem m_grainsOf_L {p : Nat} (hp : p < 6) : ∀ (r q k : Nat) (a : Int32), RM m v → k + r = 8 → r < q → f_X5_grainsOf_L4 q (nI p) a (nI k) m = some (fold (fun k a => a + sR v (12 * p + k)) r k a, m) := by
  intro r
  induction r with
  | zero =>
    intro q k a h hk hq
    obtain ⟨q, rfl⟩ : ∃ z, q = z + 1 := ⟨q - 1, by omega⟩
    rw [f_X5_grainsOf_L4, if_pos (c := (8 : Int32) ≤ nI k) (nI_le (a := 8) (by omega) (by omega))]
    rfl
  | succ r ih =>
    intro q k a h hk hq
    obtain ⟨q, rfl⟩ : ∃ z, q = z + 1 := ⟨q - 1, by omega⟩
    rw [f_X5_grainsOf_L4, if_neg (c := (8 : Int32) ≤ nI k) (nI_ge (b := 8) (by omega) (by omega)), iM, ald_nI (by omega) (by omega), h.row (by omega), nI_1, fold]
    exact ih q (k + 1) _ h (by omega) (by omega)
theorem m_grainsOf (h : CM S n m v) {p : Nat} (hp : p < 6) : f_X5_grainsOf (nI p) m = some (grS v p, m) := m_grainsOf_L hp 8 1000 0 0 h.1 (by omega) (by omega)
/-! what is kept, and laid back -/
def KP (m : ST) (v : VS) : Prop := (∀ j, j < 72 → ga 50 29 m j = sR v j) ∧ ga 50 29 m 72 = sT v
def pKeep (o k : Nat) : Prop := o = 50 ∧ k = 29
theorem pK29 : pKeep 50 29 := ⟨rfl, rfl⟩
theorem m_keeps_L : ∀ (r q k : Nat) (m : ST), (∀ j, j < 72 → ga 50 3 m j = sR v j) → gs 50 4 m = sT v → (∀ j, j < k → ga 50 29 m j = sR v j) → k + r = 72 → r < q → ∃ m', f_X5_keeps_L2 q (nI k) m = some ((), m') ∧ KP m' v ∧ fr pKeep m m' := by
  intro r
  induction r with
  | zero =>
    intro q k m h hT hd hk hq
    obtain ⟨q, rfl⟩ : ∃ z, q = z + 1 := ⟨q - 1, by omega⟩
    rw [f_X5_keeps_L2, if_pos (c := (72 : Int32) ≤ nI k) (nI_le (a := 72) (by omega) (by omega))]
    unfold f_X5_keeps_L26
    rw [ast_lit (by decide) (by decide)]
    refine ⟨_, rfl, ⟨fun j hj => ?_, ?_⟩, fr_pa pK29 _ m⟩
    · rw [ga_pa, if_pos ⟨rfl, rfl⟩, upd_ne _ _ (Nat.ne_of_lt hj)]
      exact hd j (by omega)
    · rw [ga_pa, if_pos ⟨rfl, rfl⟩]
      exact (upd_eq _ _ _).trans hT
  | succ r ih =>
    intro q k m h hT hd hk hq
    obtain ⟨q, rfl⟩ : ∃ z, q = z + 1 := ⟨q - 1, by omega⟩
    rw [f_X5_keeps_L2, if_neg (c := (72 : Int32) ≤ nI k) (nI_ge (b := 72) (by omega) (by omega)), ald_nI (by omega) (by omega), ast_nI (by omega) (by omega), nI_1, h k (by omega)]
    obtain ⟨m', e, hK, f⟩ := ih q (k + 1) (pa 50 29 (upd (ga 50 29 m) k (sR v k)) m) h hT (fun j hj => by
      rw [ga_pa, if_pos ⟨rfl, rfl⟩, upd_at]
      by_cases hjk : j = k
      · rw [if_pos hjk, hjk]
      · rw [if_neg hjk]; exact hd j (by omega)) (by omega) (by omega)
    exact ⟨m', e, hK, (fr_pa pK29 _ m).trans f⟩
theorem m_keeps (h : CM S n m v) : ∃ m', f_X5_keeps m = some ((), m') ∧ CM S n m' v ∧ KP m' v ∧ fr pKeep m m' := by
  obtain ⟨m', e, hK, f⟩ := m_keeps_L 72 1000 0 m h.1.2.2.2.1 h.1.2.1 (fun j hj => by omega) (by omega) (by omega)
  exact ⟨m', e, h.fr4 (h.1.fr f (by unfold pKeep; decide)) rfl rfl f (by unfold pKeep; decide) (by unfold pKeep; decide), hK, f⟩
/-- rows and minute of the first, all else of the second -/
def layS (v0 v : VS) : VS := (v0.1, v.2.1, v.2.2.1, v.2.2.2.1, sT v0, v.2.2.2.2.2)
def sX (v : VS) : (Nat → Int32) × (Nat → Int32) × Nat × Nat := (v.2.1, v.2.2.1, v.2.2.2.1, v.2.2.2.2.2)
theorem layS_eq {v0 v : VS} (h : sX v = sX v0) : layS v0 v = v0 := by
  obtain ⟨a, b, c, d, e, f⟩ := v
  obtain ⟨a0, b0, c0, d0, e0, f0⟩ := v0
  have h1 : (b, c, d, f) = (b0, c0, d0, f0) := h
  cases h1
  rfl
theorem sX_take (S : LW) (v : VS) (p t : Nat) : sX (takeS S v p t) = sX v := by
  unfold takeS
  by_cases h : nxS v p = p
  · simp only [h, if_true]; rfl
  · simp only [h, if_false]; rfl
theorem sX_pass1 (k : Nat) (a : Int32 × VS) : sX (pass1 k a).2 = sX a.2 := by
  unfold pass1
  split
  · rfl
  · split <;> rfl
theorem sX_pass (v : VS) : sX (passS v).2 = sX v := fold_inv (P := fun a : Int32 × VS => sX a.2 = sX v) (fun k a e => (sX_pass1 k a).trans e) (sN v) 0 (0, v) rfl
theorem m_lays_L {v0 : VS} : ∀ (r q k : Nat) (m : ST), KP m v0 → (∀ j, j < k → ga 50 3 m j = sR v0 j) → k + r = 72 → r < q → ∃ m', f_X5_lays_L2 q (nI k) m = some ((), m') ∧ (∀ j, j < 72 → ga 50 3 m' j = sR v0 j) ∧ gs 50 4 m' = sT v0 ∧ fr pPass m m' := by
  intro r
  induction r with
  | zero =>
    intro q k m h hd hk hq
    obtain ⟨q, rfl⟩ : ∃ z, q = z + 1 := ⟨q - 1, by omega⟩
    rw [f_X5_lays_L2, if_pos (c := (72 : Int32) ≤ nI k) (nI_le (a := 72) (by omega) (by omega))]
    unfold f_X5_lays_L26
    rw [ald_lit (by decide) (by decide), put_eq]
    exact ⟨_, rfl, fun j hj => hd j (by omega), h.2, fr_ps pP4 _ m⟩
  | succ r ih =>
    intro q k m h hd hk hq
    obtain ⟨q, rfl⟩ : ∃ z, q = z + 1 := ⟨q - 1, by omega⟩
    rw [f_X5_lays_L2, if_neg (c := (72 : Int32) ≤ nI k) (nI_ge (b := 72) (by omega) (by omega)), ald_nI (by omega) (by omega), ast_nI (by omega) (by omega), nI_1, h.1 k (by omega)]
    obtain ⟨m', e, hK, hT, f⟩ := ih q (k + 1) (pa 50 3 (upd (ga 50 3 m) k (sR v0 k)) m) h (fun j hj => by
      rw [ga_pa, if_pos ⟨rfl, rfl⟩, upd_at]
      by_cases hjk : j = k
      · rw [if_pos hjk, hjk]
      · rw [if_neg hjk]; exact hd j (by omega)) (by omega) (by omega)
    exact ⟨m', e, hK, hT, (fr_pa pP3 _ m).trans f⟩
theorem m_lays {v0 : VS} (h : CM S n m v) (hK : KP m v0) (hX : sX v = sX v0) : ∃ m', f_X5_lays m = some ((), m') ∧ CM S n m' v0 ∧ fr pPass m m' := by
  obtain ⟨m', e, hR, hT, f⟩ := m_lays_L 72 1000 0 m hK (fun j hj => by omega) (by omega) (by omega)
  have r : RM m' (layS v0 v) := ⟨(f.gs (by unfold pPass; decide)).trans h.1.1, hT, (f.gs (by unfold pPass; decide)).trans h.1.2.2.1, hR, fun p hp => by rw [f.ga (by unfold pPass; decide), f.ga (by unfold pPass; decide)]; exact h.1.2.2.2.2 p hp⟩
  have z := h.fr4 r rfl rfl f (by unfold pPass; decide) (by unfold pPass; decide)
  rw [layS_eq hX] at z
  exact ⟨m', e, z, f⟩
theorem KP.fr {P : Nat → Nat → Prop} {m m' : ST} (h : KP m v) (f : fr P m m') (g : ¬ P 50 29) : KP m' v := by
  unfold KP
  rw [f.ga g]
  exact h
theorem wi_in {x lo hi : Int32} (h1 : lo ≤ x) (h2 : x ≤ hi) : wiS x lo hi = x := by
  unfold wiS
  rw [if_pos h1, if_pos h2]
theorem two_div {p t : Nat} (hp : p < 6) (ht : t < 8) : nI (10 * p + t) / 10 = nI p ∧ nI (10 * p + t) - nI (10 * p + t) / 10 * 10 = nI t := by
  have e1 : nI (10 * p + t) / nI 10 = nI ((10 * p + t) / 10) := pk_div (by omega) (by omega) (by omega)
  have e2 : nI (10 * p + t) - nI (10 * p + t) / nI 10 * nI 10 = nI ((10 * p + t) % 10) := pk_rem (by omega) (by omega) (by omega)
  rw [show (10 * p + t) / 10 = p by omega] at e1
  rw [show (10 * p + t) % 10 = t by omega] at e2
  exact ⟨e1, e2⟩
theorem m_takesOne_none : f_X5_takesOne (-1) m = some (0, m) := rfl
theorem nI_ne_m1 {k : Nat} (h : k < 2147483648) : ¬ nI k = -1 := by
  intro e
  have a := nI_toInt h
  rw [e] at a
  have b : (-1 : Int32).toInt = -1 := by decide
  omega
theorem m_takesOne_yes (h : CM S n m v) {p t : Nat} (hp : p < sN v) (ht : t < 8) (hc : canS v p t) : ∃ m', f_X5_takesOne (nI (10 * p + t)) m = some (1, m') ∧ CM S n m' (takeS S v p t) ∧ fr pTake m m' := by
  have h6 := h.2.1
  obtain ⟨d1, d2⟩ := two_div (p := p) (t := t) (by omega) ht
  obtain ⟨m', e, hC, f⟩ := m_pinchOf h hp ht
  refine ⟨m', ?_, hC, f⟩
  have w5 : wiS (nI p) 0 5 = nI p := wi_in (nI_le (a := 0) (by omega) (by omega)) (nI_le (b := 5) (by omega) (by omega))
  have w7 : wiS (nI t) 0 7 = nI t := wi_in (nI_le (a := 0) (by omega) (by omega)) (nI_le (b := 7) (by omega) (by omega))
  unfold f_X5_takesOne
  rw [if_neg (nI_ne_m1 (by omega)), d2, d1, m_within, bnd_some, m_within, bnd_some, w5, w7, m_can_yes h.1 (by omega) ht hc, bnd_some, if_neg one_ne0, e]
  rfl
theorem m_takesOne_no (h : CM S n m v) {p t : Nat} (hp : p < sN v) (ht : t < 8) (hc : ¬ canS v p t) : f_X5_takesOne (nI (10 * p + t)) m = some (0, m) := by
  have h6 := h.2.1
  obtain ⟨d1, d2⟩ := two_div (p := p) (t := t) (by omega) ht
  have w5 : wiS (nI p) 0 5 = nI p := wi_in (nI_le (a := 0) (by omega) (by omega)) (nI_le (b := 5) (by omega) (by omega))
  have w7 : wiS (nI t) 0 7 = nI t := wi_in (nI_le (a := 0) (by omega) (by omega)) (nI_le (b := 7) (by omega) (by omega))
  unfold f_X5_takesOne
  rw [if_neg (nI_ne_m1 (by omega)), d2, d1, m_within, bnd_some, m_within, bnd_some, w5, w7, m_can_no h.1 (by omega) ht hc, bnd_some, if_pos rfl]
  rfl
end PM4
