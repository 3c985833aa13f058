/-! THE TOKENS: what both readers of the tape see from a place on -/
section PLex
def skp (P : Int32 → Bool) (B : Nat → Int32) : Nat → Nat → Nat
  | 0, a => a
  | n + 1, a => if P (B a) = true then skp P B n (a + 1) else a
def blB (x : Int32) : Bool := decide (x = 32 ∨ x = 10)
def ltB (x : Int32) : Bool := decide (97 ≤ x ∧ x ≤ 122)
def dgB (x : Int32) : Bool := decide (48 ≤ x ∧ x ≤ 57)
def sgB (x : Int32) : Bool := decide (x = 40 ∨ x = 41 ∨ x = 59 ∨ x = 43 ∨ x = 45 ∨ x = 42 ∨ x = 60 ∨ x = 61)
theorem skp_le (P : Int32 → Bool) (B : Nat → Int32) : ∀ n a, a ≤ skp P B n a ∧ skp P B n a ≤ a + n := by
  intro n
  induction n with
  | zero => intro a; exact ⟨Nat.le_refl _, Nat.le_refl _⟩
  | succ n ih =>
    intro a
    rw [skp]
    split
    · have := ih (a + 1); omega
    · omega
theorem skp_all (P : Int32 → Bool) (B : Nat → Int32) : ∀ n a i, a ≤ i → i < skp P B n a → P (B i) = true := by
  intro n
  induction n with
  | zero => intro a i h1 h2; rw [skp] at h2; omega
  | succ n ih =>
    intro a i h1 h2
    rw [skp] at h2
    by_cases h : P (B a) = true
    · rw [if_pos h] at h2
      by_cases e : i = a
      · rw [e]; exact h
      · exact ih (a + 1) i (by omega) h2
    · rw [if_neg h] at h2; omega
def lxS (B : Nat → Int32) (z a : Nat) : Nat := skp blB B (z - a) a
def lxE (B : Nat → Int32) (z a : Nat) : Nat := if z ≤ lxS B z a then lxS B z a else if ltB (B (lxS B z a)) = true then skp ltB B (z - lxS B z a) (lxS B z a) else if dgB (B (lxS B z a)) = true then skp dgB B (z - lxS B z a) (lxS B z a) else lxS B z a + 1
def segL (B : Nat → Int32) : Nat → Nat → List Int32
  | _, 0 => []
  | s, n + 1 => B s :: segL B (s + 1) n
def wd (i : Nat) : List Int32 := sByt.getD i []
def wdT (l : List Int32) : Nat → Int32
  | 0 => 2
  | i + 1 => if l = wd i then nI (1000 + i) else wdT l i
def lxT (B : Nat → Int32) (z a : Nat) : Int32 := if z ≤ lxS B z a then 0 else if ltB (B (lxS B z a)) = true then wdT (segL B (lxS B z a) (lxE B z a - lxS B z a)) 12 else if dgB (B (lxS B z a)) = true then (if lxE B z a - lxS B z a ≤ 4 then 1 else 2) else if sgB (B (lxS B z a)) = true then B (lxS B z a) else 2
def dv (B : Nat → Int32) : Nat → Nat → Int32 → Int32
  | 0, _, x => x
  | n + 1, k, x => dv B n (k + 1) (x * 10 + B k - 48)
def lxV (B : Nat → Int32) (z a : Nat) : Int32 := dv B (lxE B z a - lxS B z a) (lxS B z a) 0
theorem segL_len (B : Nat → Int32) : ∀ n s, (segL B s n).length = n := by
  intro n
  induction n with
  | zero => intro s; rfl
  | succ n ih => intro s; rw [segL, List.length_cons, ih]
theorem segL_get (B : Nat → Int32) : ∀ n s i, i < n → (segL B s n).getD i 32 = B (s + i) := by
  intro n
  induction n with
  | zero => intro s i h; omega
  | succ n ih =>
    intro s i h
    rw [segL]
    cases i with
    | zero => rfl
    | succ i => rw [List.getD_cons_succ, ih (s + 1) i (by omega)]; congr 1; omega
theorem segL_mem (B : Nat → Int32) : ∀ n s x, x ∈ segL B s n → ∃ i, i < n ∧ x = B (s + i) := by
  intro n
  induction n with
  | zero => intro s x h; cases h
  | succ n ih =>
    intro s x h
    rw [segL] at h
    rcases List.mem_cons.mp h with e | e
    · exact ⟨0, (by omega), e⟩
    · obtain ⟨i, hi, e⟩ := ih (s + 1) x e
      exact ⟨i + 1, (by omega), by rw [e]; congr 1; omega⟩
theorem dv_end (B : Nat → Int32) : ∀ n k x, dv B (n + 1) k x = dv B n k x * 10 + B (k + n) - 48 := by
  intro n
  induction n with
  | zero => intro k x; rfl
  | succ n ih =>
    intro k x
    rw [dv, ih (k + 1), show k + 1 + n = k + (n + 1) by omega, ← show dv B (n + 1) k x = dv B n (k + 1) (x * 10 + B k - 48) from rfl]
theorem dg_nI {x : Int32} (h : dgB x = true) : ∃ d, d ≤ 9 ∧ x = nI (48 + d) := by
  have h := of_decide_eq_true h
  have h1 : (48 : Int) ≤ x.toInt := Int32.le_iff_toInt_le.mp h.1
  have h2 : x.toInt ≤ (57 : Int) := Int32.le_iff_toInt_le.mp h.2
  refine ⟨x.toInt.toNat - 48, (by omega), Int32.toInt_inj.mp ?_⟩
  rw [nI_toInt (by omega)]
  omega
theorem dv_nI (B : Nat → Int32) : ∀ n k y, (∀ i, k ≤ i → i < k + n → dgB (B i) = true) → ∃ w, w < (y + 1) * 10 ^ n ∧ dv B n k (nI y) = nI w := by
  intro n
  induction n with
  | zero => intro k y _; exact ⟨y, (by omega), rfl⟩
  | succ n ih =>
    intro k y h
    obtain ⟨d, hd, e⟩ := dg_nI (h k (by omega) (by omega))
    rw [dv, e]
    have e1 : nI y * 10 + nI (48 + d) - 48 = nI (y * 10 + d) := by
      show nI y * nI 10 + nI (48 + d) - nI 48 = _
      rw [nI_mul, nI_add, nI_sub (by omega)]
      congr 1
      omega
    rw [e1]
    obtain ⟨w, hw, ew⟩ := ih (k + 1) (y * 10 + d) (fun i h1 h2 => h i (by omega) (by omega))
    refine ⟨w, Nat.lt_of_lt_of_le hw ?_, ew⟩
    rw [Nat.pow_succ, Nat.mul_comm (10 ^ n) 10, ← Nat.mul_assoc]
    exact Nat.mul_le_mul_right _ (by omega)
theorem lxS_le (B : Nat → Int32) {z a : Nat} (h : a ≤ z) : a ≤ lxS B z a ∧ lxS B z a ≤ z := by
  have := skp_le blB B (z - a) a
  unfold lxS
  omega
theorem lxE_le (B : Nat → Int32) {z a : Nat} (h : a ≤ z) : lxS B z a ≤ lxE B z a ∧ lxE B z a ≤ z := by
  have h1 := lxS_le B h
  unfold lxE
  split
  · omega
  · split
    · have := skp_le ltB B (z - lxS B z a) (lxS B z a); omega
    · split
      · have := skp_le dgB B (z - lxS B z a) (lxS B z a); omega
      · omega
theorem skp_pos {P : Int32 → Bool} {B : Nat → Int32} {n a : Nat} (hn : 0 < n) (h : P (B a) = true) : a < skp P B n a := by
  obtain ⟨n, rfl⟩ : ∃ q, n = q + 1 := ⟨n - 1, (by omega)⟩
  rw [skp, if_pos h]
  have := skp_le P B n (a + 1)
  omega
/-- a token that is none at the end takes a byte at least -/
theorem lxE_lt (B : Nat → Int32) {z a : Nat} (h : a ≤ z) (ht : lxT B z a ≠ 0) : a < lxE B z a ∧ lxE B z a ≤ z ∧ lxS B z a < z := by
  have h1 := lxS_le B h
  have h2 := (lxE_le B h).2
  have hs : ¬ z ≤ lxS B z a := fun g => ht (if_pos g)
  refine ⟨?_, h2, (by omega)⟩
  unfold lxE
  rw [if_neg hs]
  split
  · rename_i g
    have := skp_pos (P := ltB) (B := B) (n := z - lxS B z a) (by omega) g
    omega
  · split
    · rename_i g
      have := skp_pos (P := dgB) (B := B) (n := z - lxS B z a) (by omega) g
      omega
    · omega
theorem wdT_cases (l : List Int32) : ∀ n, wdT l n = 2 ∨ ∃ i, i < n ∧ wdT l n = nI (1000 + i) := by
  intro n
  induction n with
  | zero => exact Or.inl rfl
  | succ n ih =>
    rw [wdT]
    split
    · exact Or.inr ⟨n, (by omega), rfl⟩
    · rcases ih with e | ⟨i, hi, e⟩
      · exact Or.inl e
      · exact Or.inr ⟨i, (by omega), e⟩
/-- which tokens there are -/
theorem lxT_cases (B : Nat → Int32) (z a : Nat) : lxT B z a = 0 ∨ lxT B z a = 1 ∨ lxT B z a = 2 ∨ (∃ i, i < 12 ∧ lxT B z a = nI (1000 + i)) ∨ sgB (lxT B z a) = true := by
  unfold lxT
  split
  · exact Or.inl rfl
  · split
    · rcases wdT_cases (segL B (lxS B z a) (lxE B z a - lxS B z a)) 12 with e | e
      · exact Or.inr (Or.inr (Or.inl e))
      · exact Or.inr (Or.inr (Or.inr (Or.inl e)))
    · split
      · split
        · exact Or.inr (Or.inl rfl)
        · exact Or.inr (Or.inr (Or.inl rfl))
      · split
        · rename_i g
          exact Or.inr (Or.inr (Or.inr (Or.inr g)))
        · exact Or.inr (Or.inr (Or.inl rfl))
theorem lxV_nI (B : Nat → Int32) {z a : Nat} (h : a ≤ z) (ht : lxT B z a = 1) : ∃ w, w < 10000 ∧ lxV B z a = nI w := by
  have one : (1 : Int32) ≠ 0 := by decide
  have hs : ¬ z ≤ lxS B z a := fun g => by
    unfold lxT at ht
    rw [if_pos g] at ht
    exact absurd ht.symm one
  have hl : ¬ ltB (B (lxS B z a)) = true := fun g => by
    unfold lxT at ht
    rw [if_neg hs, if_pos g] at ht
    rcases wdT_cases (segL B (lxS B z a) (lxE B z a - lxS B z a)) 12 with e | ⟨i, hi, e⟩
    · rw [e] at ht; exact absurd ht (by decide)
    · rw [e] at ht
      have := (nI_eq (a := 1000 + i) (b := 1) (by omega) (by omega)).mp ht
      omega
  by_cases hd : dgB (B (lxS B z a)) = true
  · have h4 : lxE B z a - lxS B z a ≤ 4 := by
      unfold lxT at ht
      rw [if_neg hs, if_neg hl, if_pos hd] at ht
      by_cases g : lxE B z a - lxS B z a ≤ 4
      · exact g
      · rw [if_neg g] at ht; exact absurd ht (by decide)
    have eE : lxE B z a = skp dgB B (z - lxS B z a) (lxS B z a) := by
      unfold lxE
      rw [if_neg hs, if_neg hl, if_pos hd]
    obtain ⟨w, hw, ew⟩ := dv_nI B (lxE B z a - lxS B z a) (lxS B z a) 0 (fun i h1 h2 => skp_all dgB B (z - lxS B z a) (lxS B z a) i h1 (by rw [← eE]; omega))
    refine ⟨w, Nat.lt_of_lt_of_le hw ?_, ew⟩
    have : 10 ^ (lxE B z a - lxS B z a) ≤ 10 ^ 4 := Nat.pow_le_pow_right (by omega) h4
    omega
  · exfalso
    unfold lxT at ht
    rw [if_neg hs, if_neg hl, if_neg hd] at ht
    by_cases g : sgB (B (lxS B z a)) = true
    · rw [if_pos g] at ht
      rw [ht] at g
      exact absurd g (by decide)
    · rw [if_neg g] at ht
      exact absurd ht (by decide)
end PLex
/-! the class reads a token -/
section PCLex
variable {T : TX} {c : ST} {B : Nat → Int32} {z a : Nat}
def TB (c : ST) (B : Nat → Int32) (z : Nat) : Prop := (∀ i, i < 160 → ga 1 0 c i = B i) ∧ gs 1 1 c = nI z ∧ z ≤ 160
def pTk (o k : Nat) : Prop := o = 1 ∧ (k = 2 ∨ k = 3 ∨ k = 4 ∨ k = 5)
theorem TB.fr {P : Nat → Nat → Prop} {c' : ST} (h : TB c B z) (f : fr P c c') (g : ¬ P 1 0 ∧ ¬ P 1 1) : TB c' B z := by
  unfold TB
  rw [f.ga g.1, f.gs g.2]
  exact h
def TCur (c : ST) (B : Nat → Int32) (z a : Nat) : Prop := gs 1 2 c = nI (lxS B z a) ∧ gs 1 3 c = nI (lxE B z a) ∧ gs 1 4 c = lxT B z a ∧ (lxT B z a = 1 → gs 1 5 c = lxV B z a)
theorem pTk_2 : pTk 1 2 := ⟨rfl, (by decide)⟩
theorem pTk_3 : pTk 1 3 := ⟨rfl, (by decide)⟩
theorem pTk_4 : pTk 1 4 := ⟨rfl, (by decide)⟩
theorem pTk_5 : pTk 1 5 := ⟨rfl, (by decide)⟩
theorem pTk_n : ¬ pTk 1 0 ∧ ¬ pTk 1 1 := by unfold pTk; decide
theorem nI_ile {a b : Nat} (ha : a < 2147483648) (hb : b < 2147483648) : nI a ≤ nI b ↔ a ≤ b := nI_leI ha hb
theorem c_rt_L0 : ∀ (r q k : Nat) (c : ST), TB c B z → gs 1 3 c = nI k → k + r = z → r < q → ∃ c', f_X2_readToken_L0 T q c = f_X2_readToken_L52 T c' ∧ gs 1 3 c' = nI (skp blB B r k) ∧ fr pTk c c' := by
  intro r
  induction r with
  | zero =>
    intro q k c h h3 hk hq
    obtain ⟨q, rfl⟩ : ∃ z, q = z + 1 := ⟨q - 1, (by omega)⟩
    have hz := h.2.2
    rw [f_X2_readToken_L0, h.2.1, h3, if_pos (nI_le (by omega) (by omega))]
    exact ⟨c, rfl, h3, fr.refl c⟩
  | succ r ih =>
    intro q k c h h3 hk hq
    obtain ⟨q, rfl⟩ : ∃ z, q = z + 1 := ⟨q - 1, (by omega)⟩
    have hz := h.2.2
    rw [f_X2_readToken_L0, h.2.1, h3, if_neg (nI_ge (by omega) (by omega)), ald_nI (by omega) (by omega), ald_nI (by omega) (by omega), h.1 k (by omega), skp]
    unfold f_X2_readToken_L39
    rw [put_eq, h3, nI_1]
    have f := fr_ps pTk_3 (nI (k + 1)) c
    obtain ⟨c', g1, g2, g3⟩ := ih q (k + 1) (ps 1 3 (nI (k + 1)) c) (h.fr f pTk_n) (by rw [gs_ps, if_pos ⟨rfl, rfl⟩]) (by omega) (by omega)
    by_cases h32 : B k = 32
    · rw [if_pos h32, if_pos (show blB (B k) = true from decide_eq_true (Or.inl h32))]
      exact ⟨c', g1, g2, f.trans g3⟩
    · rw [if_neg h32]
      by_cases h10 : B k = 10
      · rw [if_pos h10, if_pos (show blB (B k) = true from decide_eq_true (Or.inr h10))]
        exact ⟨c', g1, g2, f.trans g3⟩
      · rw [if_neg h10, if_neg (show ¬ blB (B k) = true from fun g => (of_decide_eq_true g).elim h32 h10)]
        exact ⟨c, rfl, h3, fr.refl c⟩
theorem c_isLetter_yes {x : Int32} (h : ltB x = true) : f_X2_isLetter T x c = some (1, c) := by
  have h := of_decide_eq_true h
  unfold f_X2_isLetter
  rw [if_neg (Int32.not_lt.mpr h.1), if_neg (Int32.not_lt.mpr h.2)]
  rfl
theorem c_isLetter_no {x : Int32} (h : ¬ ltB x = true) : f_X2_isLetter T x c = some (0, c) := by
  have h : ¬ (97 ≤ x ∧ x ≤ 122) := fun g => h (decide_eq_true g)
  unfold f_X2_isLetter
  by_cases h1 : x < 97
  · rw [if_pos h1]; rfl
  · rw [if_neg h1, if_pos (Int32.not_le.mp (fun g => h ⟨Int32.not_lt.mp h1, g⟩))]; rfl
theorem c_isDigit_yes {x : Int32} (h : dgB x = true) : f_X2_isDigit T x c = some (1, c) := by
  have h := of_decide_eq_true h
  unfold f_X2_isDigit
  rw [if_neg (Int32.not_lt.mpr h.1), if_neg (Int32.not_lt.mpr h.2)]
  rfl
theorem c_isDigit_no {x : Int32} (h : ¬ dgB x = true) : f_X2_isDigit T x c = some (0, c) := by
  have h : ¬ (48 ≤ x ∧ x ≤ 57) := fun g => h (decide_eq_true g)
  unfold f_X2_isDigit
  by_cases h1 : x < 48
  · rw [if_pos h1]; rfl
  · rw [if_neg h1, if_pos (Int32.not_le.mp (fun g => h ⟨Int32.not_lt.mp h1, g⟩))]; rfl
theorem c_isSign_yes {x : Int32} (h : sgB x = true) : f_X2_isSign T x c = some (1, c) := by
  have h := of_decide_eq_true h
  rcases h with rfl | rfl | rfl | rfl | rfl | rfl | rfl | rfl <;> rfl
theorem c_isSign_no {x : Int32} (h : ¬ sgB x = true) : f_X2_isSign T x c = some (0, c) := by
  have h : ¬ (x = 40 ∨ x = 41 ∨ x = 59 ∨ x = 43 ∨ x = 45 ∨ x = 42 ∨ x = 60 ∨ x = 61) := fun g => h (decide_eq_true g)
  unfold f_X2_isSign
  rw [if_neg (fun g => h (Or.inl g)), if_neg (fun g => h (Or.inr (Or.inl g))), if_neg (fun g => h (Or.inr (Or.inr (Or.inl g)))), if_neg (fun g => h (Or.inr (Or.inr (Or.inr (Or.inl g))))), if_neg (fun g => h (Or.inr (Or.inr (Or.inr (Or.inr (Or.inl g)))))), if_neg (fun g => h (Or.inr (Or.inr (Or.inr (Or.inr (Or.inr (Or.inl g))))))), if_neg (fun g => h (Or.inr (Or.inr (Or.inr (Or.inr (Or.inr (Or.inr (Or.inl g)))))))), if_neg (fun g => h (Or.inr (Or.inr (Or.inr (Or.inr (Or.inr (Or.inr (Or.inr g))))))))]
  rfl
theorem c_rn_L5 : ∀ (r q k : Nat) (x : Int32) (c : ST), TB c B z → gs 1 3 c = nI k → gs 1 5 c = x → k + r = z → r < q → ∃ c', f_X2_readNumber_L5 T q c = f_X2_readNumber_L68 T c' ∧ gs 1 2 c' = gs 1 2 c ∧ gs 1 3 c' = nI (skp dgB B r k) ∧ gs 1 5 c' = dv B (skp dgB B r k - k) k x ∧ fr pTk c c' := by
  intro r
  induction r with
  | zero =>
    intro q k x c h h3 h5 hk hq
    obtain ⟨q, rfl⟩ : ∃ z, q = z + 1 := ⟨q - 1, (by omega)⟩
    have hz := h.2.2
    rw [f_X2_readNumber_L5, h.2.1, h3, if_pos (nI_le (by omega) (by omega))]
    exact ⟨c, rfl, rfl, h3, by rw [skp, Nat.sub_self]; exact h5, fr.refl c⟩
  | succ r ih =>
    intro q k x c h h3 h5 hk hq
    obtain ⟨q, rfl⟩ : ∃ z, q = z + 1 := ⟨q - 1, (by omega)⟩
    have hz := h.2.2
    rw [f_X2_readNumber_L5, h.2.1, h3, if_neg (nI_ge (by omega) (by omega)), ald_nI (by omega) (by omega), h.1 k (by omega), skp]
    by_cases hd : dgB (B k) = true
    · rw [c_isDigit_yes hd, bnd_some, if_neg one_ne0, if_pos hd, h3, ald_nI (by omega) (by omega), h.1 k (by omega), put_eq, put_eq, h5, gs_ps, if_neg (by decide), h3, nI_1]
      have f := (fr_ps pTk_5 (x * 10 + B k - 48) c).trans (fr_ps pTk_3 (nI (k + 1)) _)
      obtain ⟨c', g1, g0, g2, g3, g4⟩ := ih q (k + 1) (x * 10 + B k - 48) (ps 1 3 (nI (k + 1)) (ps 1 5 (x * 10 + B k - 48) c)) (h.fr f pTk_n) (by rw [gs_ps, if_pos ⟨rfl, rfl⟩]) (by rw [gs_ps, if_neg (by decide), gs_ps, if_pos ⟨rfl, rfl⟩]) (by omega) (by omega)
      refine ⟨c', g1, ?_, g2, ?_, f.trans g4⟩
      · rw [g0, gs_ps, if_neg (by decide), gs_ps, if_neg (by decide)]
      · have := skp_le dgB B r (k + 1)
        rw [g3, show skp dgB B r (k + 1) - k = skp dgB B r (k + 1) - (k + 1) + 1 by omega, dv]
    · rw [c_isDigit_no hd, bnd_some, if_pos rfl, if_neg hd]
      exact ⟨c, rfl, rfl, h3, by rw [Nat.sub_self]; exact h5, fr.refl c⟩
theorem c_rw_L0 : ∀ (r q k : Nat) (c : ST), TB c B z → gs 1 3 c = nI k → k + r = z → r < q → ∃ c', f_X2_readWord_L0 T q c = f_X2_readWord_L39 T c' ∧ gs 1 2 c' = gs 1 2 c ∧ gs 1 3 c' = nI (skp ltB B r k) ∧ fr pTk c c' := by
  intro r
  induction r with
  | zero =>
    intro q k c h h3 hk hq
    obtain ⟨q, rfl⟩ : ∃ z, q = z + 1 := ⟨q - 1, (by omega)⟩
    have hz := h.2.2
    rw [f_X2_readWord_L0, h.2.1, h3, if_pos (nI_le (by omega) (by omega))]
    exact ⟨c, rfl, rfl, h3, fr.refl c⟩
  | succ r ih =>
    intro q k c h h3 hk hq
    obtain ⟨q, rfl⟩ : ∃ z, q = z + 1 := ⟨q - 1, (by omega)⟩
    have hz := h.2.2
    rw [f_X2_readWord_L0, h.2.1, h3, if_neg (nI_ge (by omega) (by omega)), ald_nI (by omega) (by omega), h.1 k (by omega), skp]
    by_cases hd : ltB (B k) = true
    · rw [c_isLetter_yes hd, bnd_some, if_neg one_ne0, if_pos hd, put_eq, h3, nI_1]
      have f := fr_ps pTk_3 (nI (k + 1)) c
      obtain ⟨c', g1, g0, g2, g3⟩ := ih q (k + 1) (ps 1 3 (nI (k + 1)) c) (h.fr f pTk_n) (by rw [gs_ps, if_pos ⟨rfl, rfl⟩]) (by omega) (by omega)
      exact ⟨c', g1, by rw [g0, gs_ps, if_neg (by decide)], g2, f.trans g3⟩
    · rw [c_isLetter_no hd, bnd_some, if_pos rfl, if_neg hd]
      exact ⟨c, rfl, rfl, h3, fr.refl c⟩
theorem j_len {i : Nat} (hi : i < 13) : f_J0_length i c = some (nI (sLn i), c) := by
  have e : ∀ i, i < 13 → Int32.ofNat (sLn i) >>> ((0 : Int32) &&& 31) = nI (sLn i) := by decide +kernel
  unfold f_J0_length f_J0_coder
  rw [if_neg one_ne0, bnd_some, e i hi]
theorem j_at {i j : Nat} (hi : i < 13) (hj : j < sLn i) : f_J0_charAt i (nI j) c = some (sBy i j, c) := by
  have e1 : ∀ i, i < 13 → ∀ j, j < sLn i → ((sBy i j &&& (255 : Int32)).toUInt32 % 65536).toInt32 = sBy i j := by decide +kernel
  have e2 : ∀ i, i < 13 → ∀ j, j < sLn i → ((sBy i j).toUInt32 % 65536).toInt32 = sBy i j := by decide +kernel
  have e3 : ∀ i, i < 13 → sLn i ≤ 43 := by decide +kernel
  have h3 := e3 i hi
  have lt : nI j < Int32.ofNat (sLn i) := nI_lt hj (by omega)
  unfold f_J0_charAt f_J0_isLatin1 f_J1_charAt f_J0_checkIndex f_J3_checkIndex
  rw [if_neg one_ne0, if_pos rfl, bnd_some, if_neg one_ne0, if_neg (nI_pos (by omega)), if_pos lt, bnd_some, bnd_some, ald_nI hj (by omega), e1 i hi j hj]
  unfold retc
  rw [if_pos (e2 i hi j hj), bnd_some, if_pos (e2 i hi j hj)]
theorem wd_drop : ∀ i, i < 12 → ∀ j, j < sLn i → (wd i).drop j = sBy i j :: (wd i).drop (j + 1) := by decide +kernel
theorem wd_len : ∀ i, i < 12 → (wd i).length = sLn i ∧ sLn i ≤ 6 ∧ 2 ≤ sLn i := by decide +kernel
theorem c_sp_L {i s : Nat} (hi : i < 12) (h : TB c B z) (h2 : gs 1 2 c = nI s) (hs : s + sLn i ≤ 160) : ∀ r q j, j + r = sLn i → r < q → f_X2_spells_L20 T q i (nI j) c = some (if segL B (s + j) r = (wd i).drop j then 1 else 0, c) := by
  have hl := wd_len i hi
  intro r
  induction r with
  | zero =>
    intro q j hj hq
    obtain ⟨q, rfl⟩ : ∃ z, q = z + 1 := ⟨q - 1, (by omega)⟩
    rw [f_X2_spells_L20, j_len (by omega), bnd_some, if_pos (nI_le (by omega) (by omega)), segL, List.drop_of_length_le (by omega), if_pos rfl]
    rfl
  | succ r ih =>
    intro q j hj hq
    obtain ⟨q, rfl⟩ : ∃ z, q = z + 1 := ⟨q - 1, (by omega)⟩
    rw [f_X2_spells_L20, j_len (by omega), bnd_some, if_neg (nI_ge (by omega) (by omega)), h2, nI_add, ald_nI (by omega) (by omega), h.1 _ (by omega), j_at (by omega) (by omega), bnd_some, wd_drop i hi j (by omega), segL, nI_1]
    by_cases e : B (s + j) = sBy i j
    · rw [if_pos e, ih q (j + 1) (by omega) (by omega), e]
      congr 2
      exact if_iff (by rw [List.cons.injEq]; exact ⟨fun g => ⟨rfl, g⟩, fun g => g.2⟩) _ _
    · rw [if_neg e, if_neg (fun g => e (List.cons.inj g).1)]
      rfl
theorem c_spells {i s e : Nat} (hi : i < 12) (h : TB c B z) (h2 : gs 1 2 c = nI s) (h3 : gs 1 3 c = nI e) (hs : s ≤ e) (he : e ≤ 160) : f_X2_spells T i c = some (if segL B s (e - s) = wd i then 1 else 0, c) := by
  have hl := wd_len i hi
  unfold f_X2_spells
  rw [j_len (by omega), bnd_some, h2, h3, nI_sub hs]
  by_cases hn : sLn i = e - s
  · rw [if_pos (by rw [hn]), show (0 : Int32) = nI 0 from rfl, c_sp_L hi h h2 (by omega) (sLn i) 1000 0 (by omega) (by omega), List.drop_zero, Nat.add_zero, hn]
    rfl
  · rw [if_neg (fun g => hn ((nI_eq (by omega) (by omega)).mp g)), if_neg (fun g => hn (by rw [← hl.1, ← g, segL_len]))]
    rfl
theorem c_wordOf {k : Nat} (hk : k < 12) : f_X2_wordOf T (nI k) c = some (k, c) := by
  rcases (show k = 0 ∨ k = 1 ∨ k = 2 ∨ k = 3 ∨ k = 4 ∨ k = 5 ∨ k = 6 ∨ k = 7 ∨ k = 8 ∨ k = 9 ∨ k = 10 ∨ k = 11 by omega) with rfl | rfl | rfl | rfl | rfl | rfl | rfl | rfl | rfl | rfl | rfl | rfl <;> rfl
theorem c_rw_L46 {s e : Nat} (hs : s ≤ e) (he : e ≤ 160) : ∀ (r q k : Nat) (c : ST), TB c B z → gs 1 2 c = nI s → gs 1 3 c = nI e → gs 1 4 c = wdT (segL B s (e - s)) k → k + r = 12 → r < q → ∃ c', f_X2_readWord_L46 T q (nI k) c = some ((), c') ∧ gs 1 4 c' = wdT (segL B s (e - s)) 12 ∧ fr (fun a k => a = 1 ∧ k = 4) c c' := by
  intro r
  induction r with
  | zero =>
    intro q k c h h2 h3 h4 hk hq
    obtain ⟨q, rfl⟩ : ∃ z, q = z + 1 := ⟨q - 1, (by omega)⟩
    rw [f_X2_readWord_L46, if_pos (c := (12 : Int32) ≤ nI k) (nI_le (a := 12) (by omega) (by omega))]
    exact ⟨c, rfl, by rw [h4, show k = 12 by omega], fr.refl c⟩
  | succ r ih =>
    intro q k c h h2 h3 h4 hk hq
    obtain ⟨q, rfl⟩ : ∃ z, q = z + 1 := ⟨q - 1, (by omega)⟩
    rw [f_X2_readWord_L46, if_neg (c := (12 : Int32) ≤ nI k) (nI_ge (b := 12) (by omega) (by omega)), c_wordOf (by omega), bnd_some, if_pos (by omega), c_spells (by omega) h h2 h3 hs he, bnd_some]
    unfold f_X2_readWord_L72
    have e1 : (1000 : Int32) + nI k = nI (1000 + k) := nI_add 1000 k
    rw [nI_1, e1]
    by_cases hw : segL B s (e - s) = wd k
    · rw [if_pos hw, if_neg one_ne0, put_eq]
      have f := fr_ps (P := fun a k => a = 1 ∧ k = 4) ⟨rfl, rfl⟩ (nI (1000 + k)) c
      obtain ⟨c', g1, g2, g3⟩ := ih q (k + 1) (ps 1 4 (nI (1000 + k)) c) (h.fr f (by decide)) (by rw [gs_ps, if_neg (by decide)]; exact h2) (by rw [gs_ps, if_neg (by decide)]; exact h3) (by rw [gs_ps, if_pos ⟨rfl, rfl⟩, wdT, if_pos hw]) (by omega) (by omega)
      exact ⟨c', g1, g2, f.trans g3⟩
    · rw [if_neg hw, if_pos rfl]
      exact ih q (k + 1) c h h2 h3 (by rw [wdT, if_neg hw]; exact h4) (by omega) (by omega)
theorem c_readToken (h : TB c B z) (h3 : gs 1 3 c = nI a) (ha : a ≤ z) : ∃ c', f_X2_readToken T c = some ((), c') ∧ TCur c' B z a ∧ fr pTk c c' := by
  have hz := h.2.2
  obtain ⟨c1, e1, g1, f1⟩ := c_rt_L0 (T := T) (z - a) 1000 a c h h3 (by omega) (by omega)
  have t1 := h.fr f1 pTk_n
  have hS := lxS_le B ha
  have hE := lxE_le B ha
  unfold f_X2_readToken
  rw [e1]
  unfold f_X2_readToken_L52
  have g1 : gs 1 3 c1 = nI (lxS B z a) := g1
  rw [g1, put_eq]
  have f2 := f1.trans (fr_ps pTk_2 (nI (lxS B z a)) c1)
  have t2 : TB (ps 1 2 (nI (lxS B z a)) c1) B z := h.fr f2 pTk_n
  have s2 : gs 1 2 (ps 1 2 (nI (lxS B z a)) c1) = nI (lxS B z a) := by rw [gs_ps, if_pos ⟨rfl, rfl⟩]
  have s3 : gs 1 3 (ps 1 2 (nI (lxS B z a)) c1) = nI (lxS B z a) := by rw [gs_ps, if_neg (by decide)]; exact g1
  generalize ps 1 2 (nI (lxS B z a)) c1 = A at f2 t2 s2 s3 ⊢
  unfold f_X2_readToken_L152 f_X2_readToken_L165
  unfold TCur
  by_cases hs : z ≤ lxS B z a
  · rw [s3, t2.2.1, if_neg (nI_nlt hs (by omega)), put_eq]
    have eE : lxE B z a = lxS B z a := by unfold lxE; rw [if_pos hs]
    have eT : lxT B z a = 0 := by unfold lxT; rw [if_pos hs]
    refine ⟨_, rfl, ⟨?_, ?_, ?_, fun g => ?_⟩, f2.trans (fr_ps pTk_4 _ _)⟩
    · rw [gs_ps, if_neg (by decide)]; exact s2
    · rw [gs_ps, if_neg (by decide), eE]; exact s3
    · rw [gs_ps, if_pos ⟨rfl, rfl⟩, eT]
    · rw [eT] at g; exact absurd g (by decide)
  · rw [s3, t2.2.1, if_pos (nI_lt (by omega) (by omega)), ald_nI (by omega) (by omega), t2.1 _ (by omega)]
    by_cases hl : ltB (B (lxS B z a)) = true
    · rw [c_isLetter_yes hl, bnd_some, if_neg one_ne0]
      have eE : lxE B z a = skp ltB B (z - lxS B z a) (lxS B z a) := by unfold lxE; rw [if_neg hs, if_pos hl]
      have eT : lxT B z a = wdT (segL B (lxS B z a) (lxE B z a - lxS B z a)) 12 := by unfold lxT; rw [if_neg hs, if_pos hl]
      obtain ⟨c2, e2, k2, k3, f3⟩ := c_rw_L0 (T := T) (z - lxS B z a) 1000 (lxS B z a) A t2 s3 (by omega) (by omega)
      rw [← eE] at k3
      unfold f_X2_readWord
      rw [e2]
      unfold f_X2_readWord_L39
      rw [put_eq, show (0 : Int32) = nI 0 from rfl]
      have f4 := (f2.trans f3).trans (fr_ps pTk_4 2 c2)
      obtain ⟨c3, e3, k4, f5⟩ := c_rw_L46 (T := T) hE.1 (show lxE B z a ≤ 160 by omega) 12 1000 0 (ps 1 4 2 c2) (h.fr f4 pTk_n) (by rw [gs_ps, if_neg (by decide), k2]; exact s2) (by rw [gs_ps, if_neg (by decide)]; exact k3) (by rw [gs_ps, if_pos ⟨rfl, rfl⟩]; rfl) (by omega) (by omega)
      rw [e3, bnd_some]
      refine ⟨c3, rfl, ⟨?_, ?_, ?_, fun g => ?_⟩, f4.trans (f5.mono (fun a k q => ⟨q.1, Or.inr (Or.inr (Or.inl q.2))⟩))⟩
      · rw [f5.gs (by decide), gs_ps, if_neg (by decide), k2]; exact s2
      · rw [f5.gs (by decide), gs_ps, if_neg (by decide)]; exact k3
      · rw [eT]; exact k4
      · rw [eT] at g
        rcases wdT_cases (segL B (lxS B z a) (lxE B z a - lxS B z a)) 12 with e | ⟨i, hi, e⟩
        · rw [e] at g; exact absurd g (by decide)
        · rw [e] at g
          have := (nI_eq (a := 1000 + i) (b := 1) (by omega) (by omega)).mp g
          omega
    · rw [c_isLetter_no hl, bnd_some, if_pos rfl, s3, ald_nI (by omega) (by omega), t2.1 _ (by omega)]
      by_cases hd : dgB (B (lxS B z a)) = true
      · rw [c_isDigit_yes hd, bnd_some, if_neg one_ne0]
        have eE : lxE B z a = skp dgB B (z - lxS B z a) (lxS B z a) := by unfold lxE; rw [if_neg hs, if_neg hl, if_pos hd]
        have eT : lxT B z a = if lxE B z a - lxS B z a ≤ 4 then 1 else 2 := by unfold lxT; rw [if_neg hs, if_neg hl, if_pos hd]
        unfold f_X2_readNumber
        rw [put_eq]
        have f4 := f2.trans (fr_ps pTk_5 0 A)
        obtain ⟨c2, e2, k2, k3, k5, f3⟩ := c_rn_L5 (T := T) (z - lxS B z a) 1000 (lxS B z a) 0 (ps 1 5 0 A) (h.fr f4 pTk_n) (by rw [gs_ps, if_neg (by decide)]; exact s3) (by rw [gs_ps, if_pos ⟨rfl, rfl⟩]) (by omega) (by omega)
        rw [← eE] at k3 k5
        have k2 : gs 1 2 c2 = nI (lxS B z a) := by rw [k2, gs_ps, if_neg (by decide)]; exact s2
        rw [e2]
        unfold f_X2_readNumber_L68 f_X2_readNumber_L87
        rw [k3, k2, nI_sub hE.1]
        have f5 := f4.trans f3
        by_cases h4 : lxE B z a - lxS B z a ≤ 4
        · rw [if_pos (c := nI (lxE B z a - lxS B z a) ≤ (4 : Int32)) (nI_le (b := 4) h4 (by omega)), put_eq, bnd_some]
          rw [if_pos h4] at eT
          refine ⟨_, rfl, ⟨?_, ?_, ?_, fun g => ?_⟩, f5.trans (fr_ps pTk_4 _ _)⟩
          · rw [gs_ps, if_neg (by decide)]; exact k2
          · rw [gs_ps, if_neg (by decide)]; exact k3
          · rw [gs_ps, if_pos ⟨rfl, rfl⟩, eT]
          · rw [gs_ps, if_neg (by decide)]; exact k5
        · rw [if_neg (c := nI (lxE B z a - lxS B z a) ≤ (4 : Int32)) (nI_ge (a := 4) (by omega) (by omega)), put_eq, bnd_some]
          rw [if_neg h4] at eT
          refine ⟨_, rfl, ⟨?_, ?_, ?_, fun g => ?_⟩, f5.trans (fr_ps pTk_4 _ _)⟩
          · rw [gs_ps, if_neg (by decide)]; exact k2
          · rw [gs_ps, if_neg (by decide)]; exact k3
          · rw [gs_ps, if_pos ⟨rfl, rfl⟩, eT]
          · rw [eT] at g; exact absurd g (by decide)
      · rw [c_isDigit_no hd, bnd_some, if_pos rfl, s3, ald_nI (by omega) (by omega), t2.1 _ (by omega)]
        have eE : lxE B z a = lxS B z a + 1 := by unfold lxE; rw [if_neg hs, if_neg hl, if_neg hd]
        have eT : lxT B z a = if sgB (B (lxS B z a)) = true then B (lxS B z a) else 2 := by unfold lxT; rw [if_neg hs, if_neg hl, if_neg hd]
        by_cases hg : sgB (B (lxS B z a)) = true
        · rw [c_isSign_yes hg, bnd_some, if_neg one_ne0, s3, ald_nI (by omega) (by omega), t2.1 _ (by omega), put_eq, put_eq, gs_ps, if_neg (by decide), s3, nI_1]
          rw [if_pos hg] at eT
          refine ⟨_, rfl, ⟨?_, ?_, ?_, fun g => ?_⟩, (f2.trans (fr_ps pTk_4 _ _)).trans (fr_ps pTk_3 _ _)⟩
          · rw [gs_ps, if_neg (by decide), gs_ps, if_neg (by decide)]; exact s2
          · rw [gs_ps, if_pos ⟨rfl, rfl⟩, eE]
          · rw [gs_ps, if_neg (by decide), gs_ps, if_pos ⟨rfl, rfl⟩, eT]
          · rw [eT] at g
            rw [g] at hg
            exact absurd hg (by decide)
        · rw [c_isSign_no hg, bnd_some, if_pos rfl, put_eq, put_eq, gs_ps, if_neg (by decide), s3, nI_1]
          rw [if_neg hg] at eT
          refine ⟨_, rfl, ⟨?_, ?_, ?_, fun g => ?_⟩, (f2.trans (fr_ps pTk_4 _ _)).trans (fr_ps pTk_3 _ _)⟩
          · rw [gs_ps, if_neg (by decide), gs_ps, if_neg (by decide)]; exact s2
          · rw [gs_ps, if_pos ⟨rfl, rfl⟩, eE]
          · rw [gs_ps, if_neg (by decide), gs_ps, if_pos ⟨rfl, rfl⟩, eT]
          · rw [eT] at g; exact absurd g (by decide)
end PCLex
