/-! the reference reads a token -/
section PMLex
variable {m : ST} {B : Nat → Int32} {z a : Nat}
def prm : Nat → Nat := fun k => if k < 3 then k else if k < 9 then k + 3 else k - 6
def rfF (l : List Int32) : Nat → Nat → Nat
  | 0, k => k
  | r + 1, k => if l = wd (prm k) then k else rfF l r (k + 1)
def MW (m : ST) : Prop := ∀ k, k < 12 → ∀ c, c < 8 → ga 50 22 m (8 * k + c) = (wd (prm k)).getD c 32
def MB (m : ST) (B : Nat → Int32) (z : Nat) : Prop := (∀ i, i < 160 → ga 50 5 m i = B i) ∧ gs 50 6 m = nI z ∧ z ≤ 160 ∧ MW m
def pNx (o k : Nat) : Prop := o = 50 ∧ (k = 18 ∨ k = 19 ∨ k = 20 ∨ k = 21)
theorem pNx_18 : pNx 50 18 := ⟨rfl, (by decide)⟩
theorem pNx_19 : pNx 50 19 := ⟨rfl, (by decide)⟩
theorem pNx_20 : pNx 50 20 := ⟨rfl, (by decide)⟩
theorem pNx_21 : pNx 50 21 := ⟨rfl, (by decide)⟩
theorem pNx_n : ¬ pNx 50 5 ∧ ¬ pNx 50 6 ∧ ¬ pNx 50 22 := by unfold pNx; decide
theorem MB.fr {P : Nat → Nat → Prop} {m' : ST} (h : MB m B z) (f : fr P m m') (g : ¬ P 50 5 ∧ ¬ P 50 6 ∧ ¬ P 50 22) : MB m' B z := by
  unfold MB MW
  rw [f.ga g.1, f.gs g.2.1, f.ga g.2.2]
  exact h
theorem pad_eq : ∀ (n : Nat) (l w : List Int32), l.length ≤ n → w.length ≤ n → (∀ x, x ∈ l → x ≠ 32) → (∀ x, x ∈ w → x ≠ 32) → (∀ c, c < n → w.getD c 32 = l.getD c 32) → l = w := by
  intro n
  induction n with
  | zero =>
    intro l w h1 h2 _ _ _
    rw [List.length_eq_zero_iff.mp (Nat.le_zero.mp h1), List.length_eq_zero_iff.mp (Nat.le_zero.mp h2)]
  | succ n ih =>
    intro l w h1 h2 h3 h4 h5
    have h0 := h5 0 (by omega)
    cases l with
    | nil =>
      cases w with
      | nil => rfl
      | cons y w => exact absurd h0 (h4 y (List.mem_cons_self ..))
    | cons x l =>
      cases w with
      | nil => exact absurd h0.symm (h3 x (List.mem_cons_self ..))
      | cons y w =>
        have e : y = x := h0
        rw [e]
        congr 1
        exact ih l w (Nat.le_of_succ_le_succ h1) (Nat.le_of_succ_le_succ h2) (fun x hx => h3 x (List.mem_cons_of_mem _ hx)) (fun x hx => h4 x (List.mem_cons_of_mem _ hx)) (fun c hc => by
          have := h5 (c + 1) (by omega)
          rw [List.getD_cons_succ, List.getD_cons_succ] at this
          exact this)
theorem prm_lt : ∀ k, k < 12 → prm k < 12 := by decide
theorem wd_nb : ∀ i, i < 12 → ∀ x, x ∈ wd i → x ≠ 32 := by decide +kernel
theorem lt_nb {x : Int32} (h : ltB x = true) : x ≠ 32 := fun e => by rw [e] at h; exact absurd h (by decide)
/-- letters from s to e -/
def allL (B : Nat → Int32) (s e : Nat) : Prop := ∀ i, s ≤ i → i < e → ltB (B i) = true
theorem m_wf_L26 {s e k : Nat} (h : MB m B z) (hs : s ≤ e) (he : e ≤ 160) (h8 : e - s ≤ 8) (hk : k < 12) (K : Int32 → Int32 → Int32 → ST → Option (Int32 × ST)) : ∀ r q c, c + r = 8 → r < q → f_X5_wordFrom_L26 q K (nI s) (nI e) (nI k) 1 (nI c) m = @ite (Option (Int32 × ST)) (∀ j, c ≤ j → j < 8 → (wd (prm k)).getD j 32 = (segL B s (e - s)).getD j 32) (Classical.propDecidable _) (some (nI k, m)) (K (nI s) (nI e) (nI (k + 1)) m) := by
  intro r
  induction r with
  | zero =>
    intro q c hc hq
    obtain ⟨q, rfl⟩ : ∃ z, q = z + 1 := ⟨q - 1, (by omega)⟩
    rw [f_X5_wordFrom_L26, if_pos (c := (8 : Int32) ≤ nI c) (nI_le (a := 8) (by omega) (by omega)), if_pos (fun j h1 h2 => by omega)]
    unfold f_X5_wordFrom_L88
    rw [if_neg one_ne0]
  | succ r ih =>
    intro q c hc hq
    obtain ⟨q, rfl⟩ : ∃ z, q = z + 1 := ⟨q - 1, (by omega)⟩
    have e1 : (8 : Int32) * nI k + nI c = nI (8 * k + c) := by
      show nI 8 * nI k + nI c = _
      rw [nI_mul, nI_add]
    rw [f_X5_wordFrom_L26, if_neg (c := (8 : Int32) ≤ nI c) (nI_ge (b := 8) (by omega) (by omega)), if_neg one_ne0, e1, ald_nI (by omega) (by omega), h.2.2.2 k hk c (by omega), nI_add]
    unfold f_X5_wordFrom_L72 f_X5_wordFrom_L80
    rw [nI_1]
    have key : ∀ x, x = (segL B s (e - s)).getD c 32 → (if (wd (prm k)).getD c 32 = x then f_X5_wordFrom_L26 q K (nI s) (nI e) (nI k) 1 (nI (c + 1)) m else f_X5_wordFrom_L26 q K (nI s) (nI e) (nI k) 0 (nI (c + 1)) m) = @ite (Option (Int32 × ST)) (∀ j, c ≤ j → j < 8 → (wd (prm k)).getD j 32 = (segL B s (e - s)).getD j 32) (Classical.propDecidable _) (some (nI k, m)) (K (nI s) (nI e) (nI (k + 1)) m) := by
      intro x hx
      rw [hx]
      by_cases hc2 : (wd (prm k)).getD c 32 = (segL B s (e - s)).getD c 32
      · rw [if_pos hc2, ih q (c + 1) (by omega) (by omega)]
        by_cases hA : ∀ j, c + 1 ≤ j → j < 8 → (wd (prm k)).getD j 32 = (segL B s (e - s)).getD j 32
        · rw [if_pos hA, if_pos (fun j h1 h2 => by
            by_cases e : j = c
            · rw [e]; exact hc2
            · exact hA j (by omega) h2)]
        · rw [if_neg hA, if_neg (fun g => hA (fun j h1 h2 => g j (by omega) h2))]
      · rw [if_neg hc2, if_neg (fun g => hc2 (g c (Nat.le_refl _) (by omega)))]
        obtain ⟨q, rfl⟩ : ∃ z, q = z + 1 := ⟨q - 1, (by omega)⟩
        rw [f_X5_wordFrom_L26]
        unfold f_X5_wordFrom_L88
        rw [if_pos rfl, if_pos rfl, nI_1]
        split <;> rfl
    by_cases hse : e ≤ s + c
    · rw [if_pos (nI_le hse (by omega))]
      refine key 32 ?_
      rw [List.getD_eq_getElem?_getD, List.getElem?_eq_none (by rw [segL_len]; omega)]
      rfl
    · rw [if_neg (nI_ge (by omega) (by omega)), ald_nI (by omega) (by omega), h.1 _ (by omega)]
      exact key _ (by rw [segL_get B _ _ _ (by omega)])
theorem m_wf_L2 {s e : Nat} (h : MB m B z) (hs : s ≤ e) (he : e ≤ 160) (hL : allL B s e) : ∀ r q k, k + r = 12 → r < q → f_X5_wordFrom_L2 q (nI s) (nI e) (nI k) m = some (nI (rfF (segL B s (e - s)) r k), m) := by
  intro r
  induction r with
  | zero =>
    intro q k hk hq
    obtain ⟨q, rfl⟩ : ∃ z, q = z + 1 := ⟨q - 1, (by omega)⟩
    rw [f_X5_wordFrom_L2, if_pos (c := (12 : Int32) ≤ nI k) (nI_le (a := 12) (by omega) (by omega)), rfF, show k = 12 by omega]
    rfl
  | succ r ih =>
    intro q k hk hq
    obtain ⟨q, rfl⟩ : ∃ z, q = z + 1 := ⟨q - 1, (by omega)⟩
    have hw := wd_len (prm k) (prm_lt k (by omega))
    rw [f_X5_wordFrom_L2, if_neg (c := (12 : Int32) ≤ nI k) (nI_ge (b := 12) (by omega) (by omega)), nI_sub hs, rfF]
    unfold f_X5_wordFrom_L21
    by_cases h8 : 8 < e - s
    · rw [if_pos (c := (8 : Int32) < nI (e - s)) (nI_lt (a := 8) h8 (by omega)), if_neg (fun g => by
        have : (segL B s (e - s)).length = sLn (prm k) := by rw [g]; exact hw.1
        rw [segL_len] at this
        omega), f_X5_wordFrom_L26]
      unfold f_X5_wordFrom_L88
      rw [if_pos rfl, if_pos rfl, nI_1]
      rw [← ih q (k + 1) (by omega) (by omega)]
      split <;> rfl
    · rw [if_neg (c := (8 : Int32) < nI (e - s)) (nI_nlt (a := 8) (by omega) (by omega)), show (0 : Int32) = nI 0 from rfl, m_wf_L26 h hs he (by omega) (by omega) _ 8 1000 0 (by omega) (by omega)]
      by_cases hA : segL B s (e - s) = wd (prm k)
      · rw [if_pos hA, if_pos (fun j _ _ => by rw [hA])]
      · rw [if_neg hA, if_neg (fun g => hA (pad_eq 8 _ _ (by rw [segL_len]; omega) (by omega) (fun x hx => by
          obtain ⟨i, hi, e1⟩ := segL_mem B _ _ x hx
          rw [e1]
          exact lt_nb (hL _ (by omega) (by omega))) (wd_nb _ (prm_lt k (by omega))) (fun c hc => g c (Nat.zero_le _) hc))), ih q (k + 1) (by omega) (by omega)]
theorem m_wordFrom {s e : Nat} (h : MB m B z) (hs : s ≤ e) (he : e ≤ 160) (hL : allL B s e) : f_X5_wordFrom (nI s) (nI e) m = some (nI (rfF (segL B s (e - s)) 12 0), m) := m_wf_L2 h hs he hL 12 1000 0 (by omega) (by omega)
/-- the two tables of words agree -/
theorem wd_rel (l : List Int32) : (rfF l 12 0 < 3 ∧ wdT l 12 = nI (1000 + rfF l 12 0)) ∨ (3 ≤ rfF l 12 0 ∧ rfF l 12 0 < 9 ∧ wdT l 12 = nI (1006 + (rfF l 12 0 - 3))) ∨ (9 ≤ rfF l 12 0 ∧ rfF l 12 0 < 12 ∧ wdT l 12 = nI (1003 + (rfF l 12 0 - 9))) ∨ (rfF l 12 0 = 12 ∧ wdT l 12 = 2) := by
  by_cases hx : ∃ i, i < 12 ∧ l = wd i
  · obtain ⟨i, hi, rfl⟩ := hx
    revert i
    decide +kernel
  · have hn : ∀ i, i < 12 → l ≠ wd i := fun i hi e => hx ⟨i, hi, e⟩
    have h1 : ∀ n, n ≤ 12 → wdT l n = 2 := by
      intro n
      induction n with
      | zero => intro _; rfl
      | succ n ih => intro hn2; rw [wdT, if_neg (hn n (by omega))]; exact ih (by omega)
    have h2 : ∀ r k, k + r = 12 → rfF l r k = 12 := by
      intro r
      induction r with
      | zero => intro k hk; rw [rfF]; omega
      | succ r ih => intro k hk; rw [rfF, if_neg (hn _ (prm_lt k (by omega)))]; exact ih (k + 1) (by omega)
    exact Or.inr (Or.inr (Or.inr ⟨h2 12 0 rfl, h1 12 (Nat.le_refl _)⟩))
def mT (t : Int32) : Int32 := if t = 2 then -1 else if t = 1003 then 4 else if t = 1004 then 5 else if t = 1005 then 6 else if 1006 ≤ t then 2 else if 1000 ≤ t then 3 else t
def MCur (m : ST) (B : Nat → Int32) (z a : Nat) : Prop := gs 50 18 m = nI (lxE B z a) ∧ gs 50 19 m = nI (lxS B z a) ∧ gs 50 20 m = mT (lxT B z a) ∧ (lxT B z a = 1 → gs 50 21 m = lxV B z a) ∧ (∀ k, k < 3 → lxT B z a = nI (1000 + k) → gs 50 21 m = nI k) ∧ ∀ k, k < 6 → lxT B z a = nI (1006 + k) → gs 50 21 m = nI k
theorem m_nx_L0 : ∀ (r q k : Nat) (m : ST), MB m B z → gs 50 18 m = nI k → k + r = z → r < q → ∃ m', f_X5_next_L0 q m = f_X5_next_L52 m' ∧ gs 50 18 m' = nI (skp blB B r k) ∧ fr pNx m m' := by
  intro r
  induction r with
  | zero =>
    intro q k m h h3 hk hq
    obtain ⟨q, rfl⟩ : ∃ z, q = z + 1 := ⟨q - 1, (by omega)⟩
    have hz := h.2.2.1
    rw [f_X5_next_L0, h.2.1, h3, if_pos (nI_le (by omega) (by omega))]
    exact ⟨m, rfl, h3, fr.refl m⟩
  | succ r ih =>
    intro q k m h h3 hk hq
    obtain ⟨q, rfl⟩ : ∃ z, q = z + 1 := ⟨q - 1, (by omega)⟩
    have hz := h.2.2.1
    rw [f_X5_next_L0, h.2.1, h3, if_neg (nI_ge (by omega) (by omega)), ald_nI (by omega) (by omega), ald_nI (by omega) (by omega), h.1 k (by omega), skp]
    unfold f_X5_next_L39
    rw [put_eq, h3, nI_1]
    have f := fr_ps pNx_18 (nI (k + 1)) m
    obtain ⟨m', g1, g2, g3⟩ := ih q (k + 1) (ps 50 18 (nI (k + 1)) m) (h.fr f pNx_n) (by rw [gs_ps, if_pos ⟨rfl, rfl⟩]) (by omega) (by omega)
    by_cases h32 : B k = 32
    · rw [if_pos h32, if_pos (show blB (B k) = true from decide_eq_true (Or.inl h32))]
      exact ⟨m', g1, g2, f.trans g3⟩
    · rw [if_neg h32]
      by_cases h10 : B k = 10
      · rw [if_pos h10, if_pos (show blB (B k) = true from decide_eq_true (Or.inr h10))]
        exact ⟨m', g1, g2, f.trans g3⟩
      · rw [if_neg h10, if_neg (show ¬ blB (B k) = true from fun g => (of_decide_eq_true g).elim h32 h10)]
        exact ⟨m, rfl, h3, fr.refl m⟩
theorem m_in_lt {x : Int32} : f_X5_in x 97 122 m = some (if ltB x = true then 1 else 0, m) := by
  by_cases h : ltB x = true
  · rw [if_pos h]; exact m_in_yes m (of_decide_eq_true h)
  · rw [if_neg h]; exact m_in_no m (fun g => h (decide_eq_true g))
theorem m_in_dg {x : Int32} : f_X5_in x 48 57 m = some (if dgB x = true then 1 else 0, m) := by
  by_cases h : dgB x = true
  · rw [if_pos h]; exact m_in_yes m (of_decide_eq_true h)
  · rw [if_neg h]; exact m_in_no m (fun g => h (decide_eq_true g))
theorem m_nx_L103 : ∀ (r q k : Nat) (m : ST), MB m B z → gs 50 18 m = nI k → k + r = z → r < q → ∃ m', f_X5_next_L103 q m = f_X5_next_L146 m' ∧ gs 50 18 m' = nI (skp ltB B r k) ∧ fr (fun o k => o = 50 ∧ k = 18) m m' := by
  intro r
  induction r with
  | zero =>
    intro q k m h h3 hk hq
    obtain ⟨q, rfl⟩ : ∃ z, q = z + 1 := ⟨q - 1, (by omega)⟩
    have hz := h.2.2.1
    rw [f_X5_next_L103, h.2.1, h3, if_pos (nI_le (by omega) (by omega))]
    exact ⟨m, rfl, h3, fr.refl m⟩
  | succ r ih =>
    intro q k m h h3 hk hq
    obtain ⟨q, rfl⟩ : ∃ z, q = z + 1 := ⟨q - 1, (by omega)⟩
    have hz := h.2.2.1
    rw [f_X5_next_L103, h.2.1, h3, if_neg (nI_ge (by omega) (by omega)), ald_nI (by omega) (by omega), h.1 k (by omega), skp, m_in_lt, bnd_some]
    by_cases hd : ltB (B k) = true
    · rw [if_pos hd, if_neg one_ne0, if_pos hd, put_eq, h3, nI_1]
      have f := fr_ps (P := fun o k => o = 50 ∧ k = 18) ⟨rfl, rfl⟩ (nI (k + 1)) m
      obtain ⟨m', g1, g2, g3⟩ := ih q (k + 1) (ps 50 18 (nI (k + 1)) m) (h.fr f (by decide)) (by rw [gs_ps, if_pos ⟨rfl, rfl⟩]) (by omega) (by omega)
      exact ⟨m', g1, g2, f.trans g3⟩
    · rw [if_neg hd, if_pos rfl, if_neg hd]
      exact ⟨m, rfl, h3, fr.refl m⟩
theorem m_nx_L230 {s : Nat} : ∀ (r q j : Nat) (m : ST), MB m B z → gs 50 18 m = nI (s + j) → (j ≤ 4 → gs 50 21 m = dv B j s 0) → s + j + r = z → r < q → ∃ m', f_X5_next_L230 q (nI j) m = f_X5_next_L309 (nI (skp dgB B r (s + j) - s)) m' ∧ gs 50 18 m' = nI (skp dgB B r (s + j)) ∧ (skp dgB B r (s + j) - s ≤ 4 → gs 50 21 m' = dv B (skp dgB B r (s + j) - s) s 0) ∧ fr (fun o k => o = 50 ∧ (k = 18 ∨ k = 21)) m m' := by
  intro r
  induction r with
  | zero =>
    intro q j m h h3 h5 hk hq
    obtain ⟨q, rfl⟩ : ∃ z, q = z + 1 := ⟨q - 1, (by omega)⟩
    have hz := h.2.2.1
    rw [f_X5_next_L230, h.2.1, h3, if_pos (nI_le (by omega) (by omega)), skp, Nat.add_sub_cancel_left]
    exact ⟨m, rfl, h3, h5, fr.refl m⟩
  | succ r ih =>
    intro q j m h h3 h5 hk hq
    obtain ⟨q, rfl⟩ : ∃ z, q = z + 1 := ⟨q - 1, (by omega)⟩
    have hz := h.2.2.1
    rw [f_X5_next_L230, h.2.1, h3, if_neg (nI_ge (by omega) (by omega)), ald_nI (by omega) (by omega), h.1 _ (by omega), skp, m_in_dg, bnd_some]
    by_cases hd : dgB (B (s + j)) = true
    · rw [if_pos hd, if_neg one_ne0, if_pos hd, h3, ald_nI (by omega) (by omega), h.1 _ (by omega)]
      unfold f_X5_next_L290
      have key : ∀ x, (j + 1 ≤ 4 → x = dv B (j + 1) s 0) → ∃ m', put 50 21 x m (fun t290 => put 50 18 ((gs 50 18 t290) + (1 : Int32)) t290 (fun t303 => f_X5_next_L230 q (nI j + 1) t303)) = f_X5_next_L309 (nI (skp dgB B r (s + j + 1) - s)) m' ∧ gs 50 18 m' = nI (skp dgB B r (s + j + 1)) ∧ (skp dgB B r (s + j + 1) - s ≤ 4 → gs 50 21 m' = dv B (skp dgB B r (s + j + 1) - s) s 0) ∧ fr (fun o k => o = 50 ∧ (k = 18 ∨ k = 21)) m m' := by
        intro x hx
        rw [put_eq, put_eq, gs_ps, if_neg (by decide), h3, nI_1, nI_1]
        have f := (fr_ps (P := fun o k => o = 50 ∧ (k = 18 ∨ k = 21)) ⟨rfl, Or.inr rfl⟩ x m).trans (fr_ps (P := fun o k => o = 50 ∧ (k = 18 ∨ k = 21)) ⟨rfl, Or.inl rfl⟩ (nI (s + j + 1)) _)
        obtain ⟨m', g1, g2, g3, g4⟩ := ih q (j + 1) (ps 50 18 (nI (s + j + 1)) (ps 50 21 x m)) (h.fr f (by decide)) (by rw [gs_ps, if_pos ⟨rfl, rfl⟩]; rfl) (fun h4 => by rw [gs_ps, if_neg (by decide), gs_ps, if_pos ⟨rfl, rfl⟩]; exact hx h4) (by omega) (by omega)
        exact ⟨m', g1, g2, g3, f.trans g4⟩
      by_cases h4 : 4 ≤ j
      · rw [if_pos (c := (4 : Int32) ≤ nI j) (nI_le (a := 4) h4 (by omega))]
        exact key 0 (fun z => by omega)
      · rw [if_neg (c := (4 : Int32) ≤ nI j) (nI_ge (b := 4) (by omega) (by omega))]
        refine key _ (fun z => ?_)
        rw [dv_end, h5 (by omega), Int32.mul_comm]
    · rw [if_neg hd, if_pos rfl, if_neg hd, Nat.add_sub_cancel_left]
      exact ⟨m, rfl, h3, h5, fr.refl m⟩
theorem sg_tab {x : Int32} (h : sgB x = true) : x = 40 ∨ x = 41 ∨ x = 59 ∨ x = 43 ∨ x = 45 ∨ x = 42 ∨ x = 60 ∨ x = 61 := of_decide_eq_true h
theorem mT_sg {x : Int32} (h : sgB x = true) : mT x = x := by
  rcases sg_tab h with rfl | rfl | rfl | rfl | rfl | rfl | rfl | rfl <;> decide
theorem sg_nw {x : Int32} (h : sgB x = true) {k : Nat} (hk : 1000 ≤ k) (hk2 : k < 2000) : x ≠ nI k := by
  intro e
  rcases sg_tab h with g | g | g | g | g | g | g | g
  · have := (nI_eq (a := 40) (b := k) (by omega) (by omega)).mp (g.symm.trans e); omega
  · have := (nI_eq (a := 41) (b := k) (by omega) (by omega)).mp (g.symm.trans e); omega
  · have := (nI_eq (a := 59) (b := k) (by omega) (by omega)).mp (g.symm.trans e); omega
  · have := (nI_eq (a := 43) (b := k) (by omega) (by omega)).mp (g.symm.trans e); omega
  · have := (nI_eq (a := 45) (b := k) (by omega) (by omega)).mp (g.symm.trans e); omega
  · have := (nI_eq (a := 42) (b := k) (by omega) (by omega)).mp (g.symm.trans e); omega
  · have := (nI_eq (a := 60) (b := k) (by omega) (by omega)).mp (g.symm.trans e); omega
  · have := (nI_eq (a := 61) (b := k) (by omega) (by omega)).mp (g.symm.trans e); omega
theorem mT_key : ∀ k, k < 3 → mT (nI (1000 + k)) = 3 := by decide +kernel
theorem mT_name : ∀ k, k < 6 → mT (nI (1006 + k)) = 2 := by decide +kernel
theorem mT_op : ∀ k, k < 3 → mT (nI (1003 + k)) = nI (4 + k) := by decide +kernel
theorem m_nx_word {s e : Nat} (h : MB m B z) (h18 : gs 50 18 m = nI e) (h19 : gs 50 19 m = nI s) (hs : s ≤ e) (he : e ≤ 160) (hL : allL B s e) : ∃ m', f_X5_next_L146 m = some ((), m') ∧ gs 50 20 m' = mT (wdT (segL B s (e - s)) 12) ∧ (∀ k, k < 3 → wdT (segL B s (e - s)) 12 = nI (1000 + k) → gs 50 21 m' = nI k) ∧ (∀ k, k < 6 → wdT (segL B s (e - s)) 12 = nI (1006 + k) → gs 50 21 m' = nI k) ∧ fr (fun o k => o = 50 ∧ (k = 20 ∨ k = 21)) m m' := by
  unfold f_X5_next_L146
  rw [h18, h19, m_wordFrom h hs he hL, bnd_some]
  unfold f_X5_next_L195 f_X5_next_L211 f_X5_next_L403
  have f : ∀ x y : Int32, fr (fun o k => o = 50 ∧ (k = 20 ∨ k = 21)) m (ps 50 21 y (ps 50 20 x m)) := fun x y => (fr_ps (P := fun o k => o = 50 ∧ (k = 20 ∨ k = 21)) ⟨rfl, Or.inl rfl⟩ x m).trans (fr_ps (P := fun o k => o = 50 ∧ (k = 20 ∨ k = 21)) ⟨rfl, Or.inr rfl⟩ y _)
  have v20 : ∀ x y : Int32, gs 50 20 (ps 50 21 y (ps 50 20 x m)) = x := fun x y => by rw [gs_ps, if_neg (by decide), gs_ps, if_pos ⟨rfl, rfl⟩]
  have v21 : ∀ x y : Int32, gs 50 21 (ps 50 21 y (ps 50 20 x m)) = y := fun x y => by rw [gs_ps, if_pos ⟨rfl, rfl⟩]
  generalize hk : rfF (segL B s (e - s)) 12 0 = k
  have rel := wd_rel (segL B s (e - s))
  rw [hk] at rel
  generalize wdT (segL B s (e - s)) 12 = t at rel ⊢
  have neq : ∀ a b : Nat, a < 5000 → b < 5000 → nI a = nI b → a = b := fun a b ha hb e => (nI_eq (by omega) (by omega)).mp e
  rcases rel with ⟨h1, rfl⟩ | ⟨h1, h2, rfl⟩ | ⟨h1, h2, rfl⟩ | ⟨h1, rfl⟩
  · have n3 : ¬ (3 : Int32) ≤ nI k := nI_ge (b := 3) (by omega) (by omega)
    rw [if_neg n3, put_eq, if_neg n3, put_eq]
    refine ⟨_, rfl, by rw [v20, mT_key k h1], fun j hj e => ?_, fun j hj e => ?_, f _ _⟩
    · rw [v21]; have := neq _ _ (by omega) (by omega) e; congr 1; omega
    · have := neq _ _ (by omega) (by omega) e; omega
  · have n3 : (3 : Int32) ≤ nI k := nI_le (a := 3) (by omega) (by omega)
    have n9 : ¬ (9 : Int32) ≤ nI k := nI_ge (b := 9) (by omega) (by omega)
    have es : nI k - 3 = nI (k - 3) := nI_sub (b := 3) h1
    rw [if_pos n3, if_neg n9, put_eq, if_pos n3, put_eq, es]
    refine ⟨_, rfl, by rw [v20, mT_name (k - 3) (by omega)], fun j hj e => ?_, fun j hj e => ?_, f _ _⟩
    · have := neq _ _ (by omega) (by omega) e; omega
    · rw [v21]; have := neq _ _ (by omega) (by omega) e; congr 1; omega
  · have n3 : (3 : Int32) ≤ nI k := nI_le (a := 3) (by omega) (by omega)
    have n9 : (9 : Int32) ≤ nI k := nI_le (a := 9) (by omega) (by omega)
    have n12 : ¬ nI k = 12 := fun g => by have := neq k 12 (by omega) (by omega) g; omega
    have es : (4 : Int32) + nI k - 9 = nI (4 + (k - 9)) := by
      show nI 4 + nI k - nI 9 = _
      rw [nI_add, nI_sub (by omega)]
      congr 1
      omega
    rw [if_pos n3, if_pos n9, if_neg n12, put_eq, if_pos n3, put_eq, es]
    refine ⟨_, rfl, by rw [v20, mT_op (k - 9) (by omega)], fun j hj e => ?_, fun j hj e => ?_, f _ _⟩
    · have := neq _ _ (by omega) (by omega) e; omega
    · have := neq _ _ (by omega) (by omega) e; omega
  · have n3 : (3 : Int32) ≤ nI k := nI_le (a := 3) (by omega) (by omega)
    have n9 : (9 : Int32) ≤ nI k := nI_le (a := 9) (by omega) (by omega)
    rw [if_pos n3, if_pos n9, if_pos (show nI k = 12 by rw [h1]; rfl), put_eq, if_pos n3, put_eq]
    refine ⟨_, rfl, by rw [v20]; rfl, fun j hj e => ?_, fun j hj e => ?_, f _ _⟩
    · have := neq 2 _ (by omega) (by omega) e; omega
    · have := neq 2 _ (by omega) (by omega) e; omega
theorem m_next (h : MB m B z) (h18 : gs 50 18 m = nI a) (ha : a ≤ z) : ∃ m', f_X5_next m = some ((), m') ∧ MCur m' B z a ∧ fr pNx m m' := by
  have hz := h.2.2.1
  obtain ⟨m1, e1, g1, f1⟩ := m_nx_L0 (z - a) 1000 a m h h18 (by omega) (by omega)
  have hS := lxS_le B ha
  have hE := lxE_le B ha
  unfold f_X5_next
  rw [e1]
  have g1 : gs 50 18 m1 = nI (lxS B z a) := g1
  unfold f_X5_next_L52
  rw [put_eq, put_eq, put_eq, g1]
  have f2 := ((f1.trans (fr_ps pNx_19 (nI (lxS B z a)) m1)).trans (fr_ps pNx_20 0 _)).trans (fr_ps pNx_21 0 _)
  have s18 : gs 50 18 (ps 50 21 0 (ps 50 20 0 (ps 50 19 (nI (lxS B z a)) m1))) = nI (lxS B z a) := by rw [gs_ps, if_neg (by decide), gs_ps, if_neg (by decide), gs_ps, if_neg (by decide)]; exact g1
  have s19 : gs 50 19 (ps 50 21 0 (ps 50 20 0 (ps 50 19 (nI (lxS B z a)) m1))) = nI (lxS B z a) := by rw [gs_ps, if_neg (by decide), gs_ps, if_neg (by decide), gs_ps, if_pos ⟨rfl, rfl⟩]
  have s20 : gs 50 20 (ps 50 21 0 (ps 50 20 0 (ps 50 19 (nI (lxS B z a)) m1))) = 0 := by rw [gs_ps, if_neg (by decide), gs_ps, if_pos ⟨rfl, rfl⟩]
  have s21 : gs 50 21 (ps 50 21 0 (ps 50 20 0 (ps 50 19 (nI (lxS B z a)) m1))) = 0 := by rw [gs_ps, if_pos ⟨rfl, rfl⟩]
  generalize ps 50 21 0 (ps 50 20 0 (ps 50 19 (nI (lxS B z a)) m1)) = A at f2 s18 s19 s20 s21 ⊢
  have t2 : MB A B z := h.fr f2 pNx_n
  unfold MCur
  by_cases hs : z ≤ lxS B z a
  · rw [s18, t2.2.1, if_pos (by rw [show lxS B z a = z by omega])]
    have eE : lxE B z a = lxS B z a := by unfold lxE; rw [if_pos hs]
    have eT : lxT B z a = 0 := by unfold lxT; rw [if_pos hs]
    rw [eE, eT]
    refine ⟨A, rfl, ⟨s18, s19, s20, fun g => absurd g (by decide), fun k hk g => ?_, fun k hk g => ?_⟩, f2⟩
    · have := (nI_eq (a := 0) (b := 1000 + k) (by omega) (by omega)).mp g; omega
    · have := (nI_eq (a := 0) (b := 1006 + k) (by omega) (by omega)).mp g; omega
  · rw [s18, t2.2.1, if_neg (fun g => hs (by have := (nI_eq (by omega) (by omega)).mp g; omega)), ald_nI (by omega) (by omega), t2.1 _ (by omega), m_in_lt, bnd_some, m_in_dg, bnd_some]
    by_cases hl : ltB (B (lxS B z a)) = true
    · rw [if_pos hl, if_neg one_ne0]
      have eE : lxE B z a = skp ltB B (z - lxS B z a) (lxS B z a) := by unfold lxE; rw [if_neg hs, if_pos hl]
      have eT : lxT B z a = wdT (segL B (lxS B z a) (lxE B z a - lxS B z a)) 12 := by unfold lxT; rw [if_neg hs, if_pos hl]
      obtain ⟨m2, e2, k3, f3⟩ := m_nx_L103 (z - lxS B z a) 1000 (lxS B z a) A t2 s18 (by omega) (by omega)
      rw [← eE] at k3
      rw [e2]
      obtain ⟨m3, e3, k20, kK, kN, f4⟩ := m_nx_word (t2.fr f3 (by decide)) k3 (by rw [f3.gs (by decide)]; exact s19) hE.1 (show lxE B z a ≤ 160 by omega) (fun i h1 h2 => skp_all ltB B (z - lxS B z a) (lxS B z a) i h1 (by rw [← eE]; exact h2))
      rw [← eT] at k20 kK kN
      refine ⟨m3, e3, ⟨?_, ?_, k20, fun g => ?_, kK, kN⟩, (f2.trans (f3.mono (fun o k q => ⟨q.1, Or.inl q.2⟩))).trans (f4.mono (fun o k q => ⟨q.1, Or.inr (Or.inr q.2)⟩))⟩
      · rw [f4.gs (by decide)]; exact k3
      · rw [f4.gs (by decide), f3.gs (by decide)]; exact s19
      · rw [eT] at g
        rcases wdT_cases (segL B (lxS B z a) (lxE B z a - lxS B z a)) 12 with e | ⟨i, hi, e⟩
        · rw [e] at g; exact absurd g (by decide)
        · rw [e] at g
          have := (nI_eq (a := 1000 + i) (b := 1) (by omega) (by omega)).mp g
          omega
    · rw [if_neg hl, if_pos rfl]
      by_cases hd : dgB (B (lxS B z a)) = true
      · rw [if_pos hd, if_neg one_ne0]
        have eE : lxE B z a = skp dgB B (z - lxS B z a) (lxS B z a) := by unfold lxE; rw [if_neg hs, if_neg hl, if_pos hd]
        have eT : lxT B z a = if lxE B z a - lxS B z a ≤ 4 then 1 else 2 := by unfold lxT; rw [if_neg hs, if_neg hl, if_pos hd]
        obtain ⟨m2, e2, k3, k5, f3⟩ := m_nx_L230 (s := lxS B z a) (z - lxS B z a) 1000 0 A t2 s18 (fun _ => s21) (by omega) (by omega)
        rw [Nat.add_zero, ← eE] at e2 k3 k5
        rw [show (0 : Int32) = nI 0 from rfl, e2]
        unfold f_X5_next_L309 f_X5_next_L320 f_X5_next_L403
        by_cases h4 : lxE B z a - lxS B z a ≤ 4
        · rw [if_pos (c := nI (lxE B z a - lxS B z a) ≤ (4 : Int32)) (nI_le (b := 4) h4 (by omega)), put_eq]
          rw [if_pos h4] at eT
          rw [eT]
          refine ⟨_, rfl, ⟨?_, ?_, ?_, fun g => ?_, fun k hk g => ?_, fun k hk g => ?_⟩, (f2.trans (f3.mono (fun o k q => ⟨q.1, by have := q.2; omega⟩))).trans (fr_ps pNx_20 _ _)⟩
          · rw [gs_ps, if_neg (by decide)]; exact k3
          · rw [gs_ps, if_neg (by decide), f3.gs (by decide)]; exact s19
          · rw [gs_ps, if_pos ⟨rfl, rfl⟩]; rfl
          · rw [gs_ps, if_neg (by decide)]; exact k5 h4
          · have := (nI_eq (a := 1) (b := 1000 + k) (by omega) (by omega)).mp g; omega
          · have := (nI_eq (a := 1) (b := 1006 + k) (by omega) (by omega)).mp g; omega
        · rw [if_neg (c := nI (lxE B z a - lxS B z a) ≤ (4 : Int32)) (nI_ge (a := 4) (by omega) (by omega)), put_eq]
          rw [if_neg h4] at eT
          rw [eT]
          refine ⟨_, rfl, ⟨?_, ?_, ?_, fun g => absurd g (by decide), fun k hk g => ?_, fun k hk g => ?_⟩, (f2.trans (f3.mono (fun o k q => ⟨q.1, by have := q.2; omega⟩))).trans (fr_ps pNx_20 _ _)⟩
          · rw [gs_ps, if_neg (by decide)]; exact k3
          · rw [gs_ps, if_neg (by decide), f3.gs (by decide)]; exact s19
          · rw [gs_ps, if_pos ⟨rfl, rfl⟩]; rfl
          · have := (nI_eq (a := 2) (b := 1000 + k) (by omega) (by omega)).mp g; omega
          · have := (nI_eq (a := 2) (b := 1006 + k) (by omega) (by omega)).mp g; omega
      · rw [if_neg hd, if_pos rfl]
        have eE : lxE B z a = lxS B z a + 1 := by unfold lxE; rw [if_neg hs, if_neg hl, if_neg hd]
        have eT : lxT B z a = if sgB (B (lxS B z a)) = true then B (lxS B z a) else 2 := by unfold lxT; rw [if_neg hs, if_neg hl, if_neg hd]
        unfold f_X5_next_L374 f_X5_next_L379 f_X5_next_L390 f_X5_next_L403
        rw [if_neg one_ne0, if_pos rfl]
        have fin : ∀ x : Int32, gs 50 18 (ps 50 18 (gs 50 18 (ps 50 20 x A) + 1) (ps 50 20 x A)) = nI (lxE B z a) ∧ gs 50 19 (ps 50 18 (gs 50 18 (ps 50 20 x A) + 1) (ps 50 20 x A)) = nI (lxS B z a) ∧ gs 50 20 (ps 50 18 (gs 50 18 (ps 50 20 x A) + 1) (ps 50 20 x A)) = x ∧ fr pNx m (ps 50 18 (gs 50 18 (ps 50 20 x A) + 1) (ps 50 20 x A)) := fun x => by
          refine ⟨?_, ?_, ?_, (f2.trans (fr_ps pNx_20 _ _)).trans (fr_ps pNx_18 _ _)⟩
          · rw [gs_ps, if_pos ⟨rfl, rfl⟩, gs_ps, if_neg (by decide), s18, nI_1, eE]
          · rw [gs_ps, if_neg (by decide), gs_ps, if_neg (by decide)]; exact s19
          · rw [gs_ps, if_neg (by decide), gs_ps, if_pos ⟨rfl, rfl⟩]
        by_cases hg : sgB (B (lxS B z a)) = true
        · rw [if_pos hg] at eT
          have go : put 50 20 (B (lxS B z a)) A (fun t390 => put 50 18 (gs 50 18 t390 + 1) t390 (fun t400 => some ((), t400))) = some ((), ps 50 18 (gs 50 18 (ps 50 20 (B (lxS B z a)) A) + 1) (ps 50 20 (B (lxS B z a)) A)) := rfl
          obtain ⟨q1, q2, q3, q4⟩ := fin (B (lxS B z a))
          refine ⟨_, ?_, ⟨q1, q2, by rw [eT, mT_sg hg]; exact q3, fun g => ?_, fun k hk g => ?_, fun k hk g => ?_⟩, q4⟩
          · rw [go]
            rcases sg_tab hg with g | g | g | g | g | g | g | g <;> (rw [g]; rfl)
          · rw [eT] at g; rw [g] at hg; exact absurd hg (by decide)
          · rw [eT] at g; exact absurd g (sg_nw hg (by omega) (by omega))
          · rw [eT] at g; exact absurd g (sg_nw hg (by omega) (by omega))
        · rw [if_neg hg] at eT
          have hn : ¬ (B (lxS B z a) = 40 ∨ B (lxS B z a) = 41 ∨ B (lxS B z a) = 59 ∨ B (lxS B z a) = 43 ∨ B (lxS B z a) = 45 ∨ B (lxS B z a) = 42 ∨ B (lxS B z a) = 60 ∨ B (lxS B z a) = 61) := fun g => hg (decide_eq_true g)
          rw [if_neg (fun g => hn (Or.inl g)), if_neg (fun g => hn (Or.inr (Or.inl g))), if_neg (fun g => hn (Or.inr (Or.inr (Or.inl g)))), if_neg (fun g => hn (Or.inr (Or.inr (Or.inr (Or.inl g))))), if_neg (fun g => hn (Or.inr (Or.inr (Or.inr (Or.inr (Or.inl g)))))), if_neg (fun g => hn (Or.inr (Or.inr (Or.inr (Or.inr (Or.inr (Or.inl g))))))), if_neg (fun g => hn (Or.inr (Or.inr (Or.inr (Or.inr (Or.inr (Or.inr (Or.inl g)))))))), if_neg (fun g => hn (Or.inr (Or.inr (Or.inr (Or.inr (Or.inr (Or.inr (Or.inr g))))))))]
          obtain ⟨q1, q2, q3, q4⟩ := fin (-1)
          refine ⟨_, rfl, ⟨q1, q2, by rw [eT]; exact q3, fun g => ?_, fun k hk g => ?_, fun k hk g => ?_⟩, q4⟩
          · rw [eT] at g; exact absurd g (by decide)
          · rw [eT] at g
            have := (nI_eq (a := 2) (b := 1000 + k) (by omega) (by omega)).mp g; omega
          · rw [eT] at g
            have := (nI_eq (a := 2) (b := 1006 + k) (by omega) (by omega)).mp g; omega
end PMLex
