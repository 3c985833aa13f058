/-! THE CLASS -/
section PC
variable {S : LW} {T : TX} {n o : Nat} {c : ST} {v : VS}
def RC (o : Nat) (c : ST) (v : VS) : Prop := gs o 9 c = nI (sN v) ∧ gs o 10 c = sT v ∧ gs o 11 c = nI (sL v) ∧ (∀ p, p < 6 → (∀ t, t < 8 → ga o 8 c (8 * p + t) = sR v (12 * p + t)) ∧ ga o 4 c p = sR v (12 * p + 8) ∧ ga o 5 c p = sR v (12 * p + 9) ∧ ga o 6 c p = sR v (12 * p + 10) ∧ ga o 7 c p = sR v (12 * p + 11)) ∧ ∀ p, p < sN v → ga o 2 c p = sK v p ∧ ga o 3 c p = sO v p
/-- what holds of any company at any time -/
def IV (v : VS) : Prop := ∀ p, p < sN v → (∀ t, t < 8 → ∃ k, k ≤ 9 ∧ sR v (12 * p + t) = nI k) ∧ (∃ k, k ≤ 99 ∧ sR v (12 * p + 8) = nI k) ∧ (∃ k, k < 256 ∧ sR v (12 * p + 9) = nI k) ∧ (sR v (12 * p + 10) = -1 ∨ ∃ t, t < 8 ∧ sR v (12 * p + 10) = nI t) ∧ (∃ k, k ≤ 1000 ∧ sR v (12 * p + 11) = nI k ∧ (sR v (12 * p + 10) = -1 ∨ 1 ≤ k)) ∧ (∃ k, k < 6 ∧ sK v p = nI k) ∧ (∃ k, k ≤ 9 ∧ sO v p = nI k)
def pSt (a k : Nat) : Prop := a = 2 ∧ k = 1
def pCo (o a k : Nat) : Prop := a = o ∨ (a = 2 ∧ k = 1)
theorem pSt_co (o a k : Nat) (h : pSt a k) : pCo o a k := Or.inr h
/-- the class's texts stand for S -/
def LC (S : LW) (T : TX) : Prop := ∀ t, t < tN T → ∀ part, part < 3 → ∀ (o : Nat) (c : ST) (p s : Int32) (nm : Nat → Int32), (∀ k, k < 6 → ∀ c', fr pSt c c' → f_X0_named T o (-1 - nI k) p s c' = some (nm k, c')) → ∃ c', bnd (f_X3_begin T t (nI part) c) (fun y24 t24 => f_X0_lawSays_L29 T 1000 o (nI part) p s t 0 y24 t24) = some (wiS (S t part nm) (if part = 1 then -99 else 0) (if part = 2 then 9 else 99), c') ∧ fr pSt c c'
def CC (S : LW) (T : TX) (o : Nat) (c : ST) (v : VS) : Prop := RC o c v ∧ sN v ≤ 6 ∧ sL v < tN T ∧ tN T ≤ 6 ∧ LC S T ∧ IV v
def isC (o : Nat) : Prop := o = 2 ∨ o = 3 ∨ o = 4
theorem RC.fr {P : Nat → Nat → Prop} {c' : ST} (h : RC o c v) (f : fr P c c') (g : ∀ k, 2 ≤ k → ¬ P o k) : RC o c' v := by
  unfold RC
  rw [f.gs (g 9 (by decide)), f.gs (g 10 (by decide)), f.gs (g 11 (by decide)), f.ga (g 8 (by decide)), f.ga (g 4 (by decide)), f.ga (g 5 (by decide)), f.ga (g 6 (by decide)), f.ga (g 7 (by decide)), f.ga (g 2 (by decide)), f.ga (g 3 (by decide))]
  exact h
theorem CC.st {c' : ST} (h : CC S T o c v) (f : fr pSt c c') : CC S T o c' v := ⟨h.1.fr f (fun k hk z => by have := z.2; omega), h.2⟩
theorem RC.g (h : RC o c v) {p t : Nat} (hp : p < 6) (ht : t < 8) : ga o 8 c (8 * p + t) = sR v (12 * p + t) := (h.2.2.2.1 p hp).1 t ht
theorem RC.wit (h : RC o c v) {p : Nat} (hp : p < 6) : ga o 4 c p = sR v (12 * p + 8) := (h.2.2.2.1 p hp).2.1
theorem RC.sand (h : RC o c v) {p : Nat} (hp : p < 6) : ga o 5 c p = sR v (12 * p + 9) := (h.2.2.2.1 p hp).2.2.1
theorem RC.place (h : RC o c v) {p : Nat} (hp : p < 6) : ga o 6 c p = sR v (12 * p + 10) := (h.2.2.2.1 p hp).2.2.2.1
theorem RC.left (h : RC o c v) {p : Nat} (hp : p < 6) : ga o 7 c p = sR v (12 * p + 11) := (h.2.2.2.1 p hp).2.2.2.2
theorem if_iff {α : Type} {p q : Prop} [Decidable p] [Decidable q] (h : p ↔ q) (a b : α) : (if p then a else b) = if q then a else b := by
  by_cases hp : p
  · rw [if_pos hp, if_pos (h.mp hp)]
  · rw [if_neg hp, if_neg (fun z => hp (h.mpr z))]
theorem RC.wG (h : RC o c v) {p t : Nat} (ht : t < 8) (x : Int32) : RC o (pa o 8 (upd (ga o 8 c) (8 * p + t) x) c) (wR (12 * p + t) x v) := by
  refine ⟨h.1, h.2.1, h.2.2.1, fun p' hp' => ?_, fun p' hp' => ?_⟩
  · simp only [ga_pa, and_true, true_and, reduceIte, Nat.reduceEqDiff, and_false]
    refine ⟨fun t' ht' => ?_, ?_, ?_, ?_, ?_⟩
    · show (if 8 * p' + t' = 8 * p + t then x else ga o 8 c (8 * p' + t')) = if 12 * p' + t' = 12 * p + t then x else sR v (12 * p' + t')
      rw [h.g hp' ht']
      exact if_iff (by omega) _ _
    · exact (h.wit hp').trans (upd_ne _ _ (by omega)).symm
    · exact (h.sand hp').trans (upd_ne _ _ (by omega)).symm
    · exact (h.place hp').trans (upd_ne _ _ (by omega)).symm
    · exact (h.left hp').trans (upd_ne _ _ (by omega)).symm
  · simp only [ga_pa, and_true, true_and, reduceIte, Nat.reduceEqDiff, and_false]
    exact h.2.2.2.2 p' hp'
theorem RC.wX (h : RC o c v) (k : Nat) (hk : k = 4 ∨ k = 5 ∨ k = 6 ∨ k = 7) {p : Nat} (x : Int32) : RC o (pa o k (upd (ga o k c) p x) c) (wR (12 * p + (k + 4)) x v) := by
  have z : ∀ p' j, j = k → (if p' = p then x else ga o j c p') = (if 12 * p' + (j + 4) = 12 * p + (k + 4) then x else ga o j c p') := fun p' j hj => if_iff (by omega) _ _
  rcases hk with rfl | rfl | rfl | rfl
  all_goals
    refine ⟨h.1, h.2.1, h.2.2.1, fun p' hp' => ?_, fun p' hp' => ?_⟩
    · simp only [ga_pa, and_true, true_and, reduceIte, Nat.reduceEqDiff, and_false]
      refine ⟨fun t' ht' => (h.g hp' ht').trans (upd_ne _ _ (by omega)).symm, ?_, ?_, ?_, ?_⟩
      · first
          | exact (h.wit hp').trans (upd_ne _ _ (by omega)).symm
          | exact (z p' 4 rfl).trans (by rw [h.wit hp']; rfl)
      · first
          | exact (h.sand hp').trans (upd_ne _ _ (by omega)).symm
          | exact (z p' 5 rfl).trans (by rw [h.sand hp']; rfl)
      · first
          | exact (h.place hp').trans (upd_ne _ _ (by omega)).symm
          | exact (z p' 6 rfl).trans (by rw [h.place hp']; rfl)
      · first
          | exact (h.left hp').trans (upd_ne _ _ (by omega)).symm
          | exact (z p' 7 rfl).trans (by rw [h.left hp']; rfl)
    · simp only [ga_pa, and_true, true_and, reduceIte, Nat.reduceEqDiff, and_false]
      exact h.2.2.2.2 p' hp'
-- small ones
theorem c_within_yes {x a b : Int32} (h : a ≤ x ∧ x ≤ b) : f_X4_within T x a b c = some (1, c) := by
  unfold f_X4_within
  rw [if_neg (Int32.not_lt.mpr h.1), if_neg (Int32.not_lt.mpr h.2)]
  rfl
theorem c_within_no {x a b : Int32} (h : ¬ (a ≤ x ∧ x ≤ b)) : f_X4_within T x a b c = some (0, c) := by
  unfold f_X4_within
  by_cases h1 : x < a
  · rw [if_pos h1]; rfl
  · rw [if_neg h1, if_pos (Int32.not_le.mp (fun z => h ⟨Int32.not_lt.mp h1, z⟩))]; rfl
theorem mx_mn {x a b : Int32} (h : a ≤ b) : mxI a (mnI x b) = wiS x a b := by
  unfold mxI mnI wiS
  by_cases h1 : b < x
  · rw [if_pos h1]
    by_cases h2 : a < b
    · rw [if_pos h2, if_pos (Int32.le_trans h (Int32.le_of_lt h1)), if_neg (Int32.not_le.mpr h1)]
    · rw [if_neg h2, if_pos (Int32.le_trans h (Int32.le_of_lt h1)), if_neg (Int32.not_le.mpr h1)]
      exact Int32.le_antisymm h (Int32.not_lt.mp h2)
  · rw [if_neg h1]
    by_cases h2 : a < x
    · rw [if_pos h2, if_pos (Int32.le_of_lt h2), if_pos (Int32.not_lt.mp h1)]
    · rw [if_neg h2]
      by_cases h3 : a ≤ x
      · rw [if_pos h3, if_pos (Int32.not_lt.mp h1)]
        exact Int32.le_antisymm h3 (Int32.not_lt.mp h2)
      · rw [if_neg h3]
theorem c_bounded {x a b : Int32} (h : a ≤ b) : f_X4_bounded T x a b c = some (wiS x a b, c) := by
  unfold f_X4_bounded
  rw [mx_mn h]
theorem c_isSort_yes {t : Nat} (ht : t < 8) : f_X4_isSort T (nI t) c = some (1, c) := by
  unfold f_X4_isSort
  rw [c_within_yes (b := 7) ((in_nI (n := 7) (by omega)).mpr ⟨t, by omega, rfl⟩)]
  rfl
theorem c_isSort_no {t : Int32} (ht : ¬ ∃ k, k < 8 ∧ t = nI k) : f_X4_isSort T t c = some (0, c) := by
  unfold f_X4_isSort
  rw [c_within_no (fun z => ht (by obtain ⟨k, hk, e⟩ := (in_nI (n := 7) (by omega)).mp z; exact ⟨k, by omega, e⟩))]
  rfl
theorem c_has_yes (h : RC o c v) (h6 : sN v ≤ 6) {p : Nat} (hp : p < sN v) : f_X0_has T o (nI p) c = some (1, c) := by
  unfold f_X0_has
  rw [if_neg (nI_pos (by omega)), h.1, if_neg (nI_ge hp (by omega))]
  rfl
theorem c_has_no (h : RC o c v) (h6 : sN v ≤ 6) {p : Int32} (hp : ¬ ∃ k, k < sN v ∧ p = nI k) : f_X0_has T o p c = some (0, c) := by
  unfold f_X0_has f_X0_has_L16
  by_cases h0 : p < 0
  · rw [if_pos h0]; rfl
  · rw [if_neg h0, h.1]
    obtain ⟨j, hj, e⟩ := i32_of h0
    by_cases h1 : nI (sN v) ≤ p
    · rw [if_pos h1]; rfl
    · exfalso
      rw [e] at h1
      exact hp ⟨j, Nat.not_le.mp (fun z => h1 (nI_le z hj)), e⟩
theorem c_hasSand_no (h : RC o c v) {p t : Nat} (hp : p < 6) (hh : (sR v (12 * p + 9) >>> (nI t &&& 31)) &&& 1 = 0) : f_X0_hasSand T o (nI p) (nI t) c = some (0, c) := by
  unfold f_X0_hasSand
  rw [ald_nI (by omega) (by omega), h.sand hp, if_pos hh]
  rfl
theorem c_hasSand_yes (h : RC o c v) {p t : Nat} (hp : p < 6) (hh : ¬ (sR v (12 * p + 9) >>> (nI t &&& 31)) &&& 1 = 0) : f_X0_hasSand T o (nI p) (nI t) c = some (1, c) := by
  unfold f_X0_hasSand
  rw [ald_nI (by omega) (by omega), h.sand hp, if_neg hh]
  rfl
/-- the count of bits -/
theorem pop_tab : ∀ k, k < 256 → ∀ (T : TX) (c : ST), f_J6_bitCount_0f7a4 T (nI k) c = some (popS (nI k), c) := by
  have h : ∀ k, k < 256 → f_J6_bitCount_0f7a4 (0, fun _ => ((0, 0, 0, 0), fun _ => 0, fun _ => 0)) (nI k) (fun _ _ => 0, fun _ _ _ => 0) = some (popS (nI k), (fun _ _ => 0, fun _ _ _ => 0)) := by
    have g : ∀ k, k < 256 → (f_J6_bitCount_0f7a4 (0, fun _ => ((0, 0, 0, 0), fun _ => 0, fun _ => 0)) (nI k) (fun _ _ => 0, fun _ _ _ => 0)).map (fun q => q.1) = some (popS (nI k)) := by decide +kernel
    intro k hk
    have := g k hk
    unfold f_J6_bitCount_0f7a4 at this ⊢
    simp only [Option.map_some, Option.some.injEq] at this
    rw [this]
  intro k hk T c
  have := h k hk
  unfold f_J6_bitCount_0f7a4 at this ⊢
  simp only [Option.some.injEq, Prod.mk.injEq, and_true] at this ⊢
  exact this
end PC
