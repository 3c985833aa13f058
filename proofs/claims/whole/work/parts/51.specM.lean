section PM
def RM (m : ST) (v : VS) : Prop := gs 50 0 m = nI (sN v) ∧ gs 50 4 m = sT v ∧ gs 50 10 m = nI (sL v) ∧ (∀ j, j < 72 → ga 50 3 m j = sR v j) ∧ ∀ p, p < sN v → ga 50 1 m p = sK v p ∧ ga 50 2 m p = sO v p
def pSay (o k : Nat) : Prop := o = 50 ∧ (k = 27 ∨ k = 28)
def pTake (o k : Nat) : Prop := o = 50 ∧ (k = 3 ∨ k = 27 ∨ k = 28)
def pPass (o k : Nat) : Prop := o = 50 ∧ (k = 3 ∨ k = 4)
def pRun (o k : Nat) : Prop := o = 50 ∧ (k = 3 ∨ k = 4 ∨ k = 27 ∨ k = 28)
theorem pSay_take (o k : Nat) (h : pSay o k) : pTake o k := ⟨h.1, h.2.elim (fun e => Or.inr (Or.inl e)) (fun e => Or.inr (Or.inr e))⟩
theorem pTake_run (o k : Nat) (h : pTake o k) : pRun o k := ⟨h.1, by have := h.2; omega⟩
theorem pSay_run (o k : Nat) (h : pSay o k) : pRun o k := ⟨h.1, by have := h.2; omega⟩
theorem pPass_run (o k : Nat) (h : pPass o k) : pRun o k := ⟨h.1, by have := h.2; omega⟩
/-- the reference's texts stand for S -/
def LM (S : LW) (m : ST) (n : Nat) : Prop := (∀ t, t < n → ∀ part, part < 3 → ∀ σ : ST, ga 50 7 σ = ga 50 7 m → ga 50 8 σ = ga 50 8 m → gs 50 10 σ = nI t → ∃ σ', f_X5_says (nI part) σ = some (S t part (ga 50 28 σ), σ') ∧ fr (fun o k => o = 50 ∧ k = 27) σ σ') ∧ ∀ t part (nm nm' : Nat → Int32), t < n → part < 3 → (∀ k, k < 6 → nm k = nm' k) → S t part nm = S t part nm'
def CM (S : LW) (n : Nat) (m : ST) (v : VS) : Prop := RM m v ∧ sN v ≤ 6 ∧ sL v < n ∧ n ≤ 6 ∧ LM S m n
theorem LM.fr {S : LW} {m m' : ST} {n : Nat} {P : Nat → Nat → Prop} (h : LM S m n) (f : fr P m m') (h7 : ¬ P 50 7) (h8 : ¬ P 50 8) : LM S m' n := by
  refine ⟨fun t ht part hp σ e1 e2 e3 => h.1 t ht part hp σ (e1.trans (f.ga h7)) (e2.trans (f.ga h8)) e3, h.2⟩
theorem RM.fr {m m' : ST} {v : VS} {P : Nat → Nat → Prop} (h : RM m v) (f : fr P m m') (g : ¬ P 50 0 ∧ ¬ P 50 1 ∧ ¬ P 50 2 ∧ ¬ P 50 3 ∧ ¬ P 50 4 ∧ ¬ P 50 10) : RM m' v :=
  ⟨(f.gs g.1).trans h.1, (f.gs g.2.2.2.2.1).trans h.2.1, (f.gs g.2.2.2.2.2).trans h.2.2.1, fun j hj => by rw [f.ga g.2.2.2.1]; exact h.2.2.2.1 j hj, fun p hp => by rw [f.ga g.2.1, f.ga g.2.2.1]; exact h.2.2.2.2 p hp⟩
theorem CM.say {S : LW} {n : Nat} {m m' : ST} {v : VS} (h : CM S n m v) (f : fr pSay m m') : CM S n m' v :=
  ⟨h.1.fr f (by unfold pSay; decide), h.2.1, h.2.2.1, h.2.2.2.1, h.2.2.2.2.fr f (by unfold pSay; decide) (by unfold pSay; decide)⟩
theorem RM.row {m : ST} {v : VS} (h : RM m v) {j : Nat} (hj : j < 72) : ga 50 3 m j = sR v j := h.2.2.2.1 j hj
theorem RM.wr {m : ST} {v : VS} (h : RM m v) {i : Nat} (x : Int32) : RM (pa 50 3 (upd (ga 50 3 m) i x) m) (wR i x v) := by
  refine ⟨h.1, h.2.1, h.2.2.1, fun j hj => ?_, h.2.2.2.2⟩
  show upd (ga 50 3 m) i x j = upd (sR v) i x j
  rw [upd_at, upd_at, h.row hj]
theorem CM.wr {S : LW} {n : Nat} {m : ST} {v : VS} (h : CM S n m v) {i : Nat} (x : Int32) : CM S n (pa 50 3 (upd (ga 50 3 m) i x) m) (wR i x v) :=
  ⟨h.1.wr x, h.2.1, h.2.2.1, h.2.2.2.1, h.2.2.2.2.fr (fr_pa (P := pTake) (by unfold pTake; decide) _ _) (by unfold pTake; decide) (by unfold pTake; decide)⟩
-- small ones
theorem m_in_yes {x a b : Int32} (σ : ST) (h : a ≤ x ∧ x ≤ b) : f_X5_in x a b σ = some (1, σ) := by
  unfold f_X5_in
  rw [if_neg (Int32.not_lt.mpr h.1), if_neg (Int32.not_lt.mpr h.2)]
  rfl
theorem m_in_no {x a b : Int32} (σ : ST) (h : ¬ (a ≤ x ∧ x ≤ b)) : f_X5_in x a b σ = some (0, σ) := by
  unfold f_X5_in
  by_cases h1 : x < a
  · rw [if_pos h1]; rfl
  · rw [if_neg h1, if_pos (Int32.not_le.mp (fun z => h ⟨Int32.not_lt.mp h1, z⟩))]; rfl
theorem m_within (x a b : Int32) (σ : ST) : f_X5_within x a b σ = some (wiS x a b, σ) := by
  unfold f_X5_within wiS f_X5_within_L19
  by_cases h1 : a ≤ x
  · by_cases h2 : x ≤ b
    · rw [if_pos h1, if_pos h2, if_pos h1, if_pos h2]
    · rw [if_pos h1, if_neg h2, if_pos h1, if_neg h2]
  · rw [if_neg h1, if_neg h1]
theorem m_onesOf_L : ∀ (r n k : Nat) (a x : Int32) (σ : ST), k + r = 8 → r < n → f_X5_onesOf_L4 n x a (nI k) σ = some (fold (fun k a => a + ((x >>> (nI k &&& 31)) &&& 1)) r k a, σ) := by
  intro r
  induction r with
  | zero =>
    intro n k a x σ hk hn
    obtain ⟨n, rfl⟩ : ∃ q, n = q + 1 := ⟨n - 1, by omega⟩
    rw [f_X5_onesOf_L4, if_pos (c := (8 : Int32) ≤ nI k) (nI_le (a := 8) (by omega) (by omega))]
    rfl
  | succ r ih =>
    intro n k a x σ hk hn
    obtain ⟨n, rfl⟩ : ∃ q, n = q + 1 := ⟨n - 1, by omega⟩
    rw [f_X5_onesOf_L4, if_neg (c := (8 : Int32) ≤ nI k) (nI_ge (b := 8) (by omega) (by omega)), nI_1, ih n (k + 1) _ x σ (by omega) (by omega)]
    rfl
theorem m_onesOf (x : Int32) (σ : ST) : f_X5_onesOf x σ = some (popS x, σ) := m_onesOf_L 8 1000 0 0 x σ (by omega) (by omega)
theorem m_isOne_yes {S : LW} {n : Nat} {m : ST} {v : VS} (h : CM S n m v) {p : Nat} (hp : p < sN v) : f_X5_isOne (nI p) m = some (1, m) := by
  have h6 := h.2.1
  unfold f_X5_isOne
  rw [h.1.1, m_in_yes m ((le_pred (by omega)).mpr ⟨p, hp, rfl⟩)]
  rfl
theorem m_isOne_no {S : LW} {n : Nat} {m : ST} {v : VS} (h : CM S n m v) {p : Int32} (hp : ¬ ∃ k, k < sN v ∧ p = nI k) : f_X5_isOne p m = some (0, m) := by
  have h6 := h.2.1
  unfold f_X5_isOne
  rw [h.1.1, m_in_no m (fun z => hp ((le_pred (by omega)).mp z))]
  rfl
theorem m_isPlace_yes {t : Nat} (ht : t < 8) (m : ST) : f_X5_isPlace (nI t) m = some (1, m) := by
  unfold f_X5_isPlace
  rw [m_in_yes (b := 7) m ((in_nI (n := 7) (by omega)).mpr ⟨t, by omega, rfl⟩)]
  rfl
theorem m_isPlace_no {t : Int32} (ht : ¬ ∃ k, k < 8 ∧ t = nI k) (m : ST) : f_X5_isPlace t m = some (0, m) := by
  unfold f_X5_isPlace
  rw [m_in_no m (fun z => ht (by obtain ⟨k, hk, e⟩ := (in_nI (n := 7) (by omega)).mp z; exact ⟨k, by omega, e⟩))]
  rfl
theorem m_isHere_yes {m : ST} {v : VS} (h : RM m v) {p : Nat} (hp : p < 6) (hh : sR v (12 * p + 10) = -1) : f_X5_isHere (nI p) m = some (1, m) := by
  unfold f_X5_isHere
  rw [iM10, ald_nI (by omega) (by omega), h.row (by omega), if_pos hh]
  rfl
theorem m_isHere_no {m : ST} {v : VS} (h : RM m v) {p : Nat} (hp : p < 6) (hh : ¬ sR v (12 * p + 10) = -1) : f_X5_isHere (nI p) m = some (0, m) := by
  unfold f_X5_isHere
  rw [iM10, ald_nI (by omega) (by omega), h.row (by omega), if_neg hh]
  rfl
theorem bit1 (x : Int32) (h : ¬ x &&& 1 = 0) : x &&& 1 = 1 := by
  obtain ⟨n, hn, rfl⟩ := i32_nI x
  have e : nI n &&& 1 = nI (n &&& 1) := fa_and n 1
  rw [e, Nat.and_one_is_mod] at h ⊢
  rcases Nat.mod_two_eq_zero_or_one n with h0 | h0
  · rw [h0] at h; exact absurd rfl h
  · rw [h0]; rfl
theorem m_hasSand_no {m : ST} {v : VS} (h : RM m v) {p t : Nat} (hp : p < 6) (hh : (sR v (12 * p + 9) >>> (nI t &&& 31)) &&& 1 = 0) : f_X5_hasSand (nI p) (nI t) m = some (0, m) := by
  unfold f_X5_hasSand
  rw [iM9, ald_nI (by omega) (by omega), h.row (by omega), hh, if_neg (by decide)]
  rfl
theorem m_hasSand_yes {m : ST} {v : VS} (h : RM m v) {p t : Nat} (hp : p < 6) (hh : ¬ (sR v (12 * p + 9) >>> (nI t &&& 31)) &&& 1 = 0) : f_X5_hasSand (nI p) (nI t) m = some (1, m) := by
  unfold f_X5_hasSand
  rw [iM9, ald_nI (by omega) (by omega), h.row (by omega), if_pos (bit1 _ hh)]
  rfl
end PM
