section PM9
variable {S : LW} {n : Nat} {m : ST} {v : VS} {hs : HS}
/-! states that would tell so -/
noncomputable def stS1 (S : LW) (cs ct : Nat → Int32) (z p t : Nat) (v : VS) (k : Nat) (a : Int32 × Int32) : Int32 × Int32 :=
  if unS S cs ct p z 0 (wR (12 * p + t) (nI k) v) = -1 then (a.1 + 1, if a.2 = -1 then nI k else a.2) else a
noncomputable def stS (S : LW) (cs ct : Nat → Int32) (z p t : Nat) (v : VS) : Int32 × Int32 := fold (stS1 S cs ct z p t v) (if t = 8 then 100 else 10) 0 (0, -1)
theorem add_0 (x : Int32) : x + 0 = x := Int32.add_zero x
theorem m_states_L {s o p t : Nat} (hs4 : s < 4) (ho : o < 4) (hp : p < sN v) (ht : t < 9) (hle : hs.2.1 o ≤ hs.2.1 s) (hok : ∀ i, i < hs.2.1 s → celOk (sN v) (hs.2.2 s i)) (w : Int32) : ∀ (r q k : Nat) (m : ST) (a : Int32 × Int32) (x : Int32), CM S n m (wR (12 * p + t) x v) → HM m hs → k + r = (if t = 8 then 100 else 10) → r < q → ∃ m', f_X5_states_L64 q (nI s) (nI o) (nI p) (nI t) w (sR v (12 * p + t)) a.1 a.2 (nI k) m = some (if w = 0 then (fold (stS1 S (hs.2.2 s) (hs.2.2 o) (hs.2.1 o) p t v) r k a).1 else (fold (stS1 S (hs.2.2 s) (hs.2.2 o) (hs.2.1 o) p t v) r k a).2, m') ∧ CM S n m' v ∧ fr pUn m m' := by
  intro r
  induction r with
  | zero =>
    intro q k m a x h hh hk hq
    obtain ⟨q, rfl⟩ : ∃ z, q = z + 1 := ⟨q - 1, by omega⟩
    have h6 : sN v ≤ 6 := h.2.1
    have fin : ∃ m', f_X5_states_L156 (nI p) (nI t) w (sR v (12 * p + t)) a.1 a.2 m = some (if w = 0 then a.1 else a.2, m') ∧ CM S n m' v ∧ fr pUn m m' := by
      unfold f_X5_states_L156 f_X5_states_L182
      rw [iM, ast_nI (by omega) (by omega)]
      refine ⟨pa 50 3 (upd (ga 50 3 m) (12 * p + t) (sR v (12 * p + t))) m, by split <;> rfl, ?_, fr_pa ⟨rfl, Or.inl rfl⟩ _ _⟩
      have z := h.wr (i := 12 * p + t) (sR v (12 * p + t))
      have e : wR (12 * p + t) (sR v (12 * p + t)) (wR (12 * p + t) x v) = v := by
        show (upd (upd v.1 (12 * p + t) x) (12 * p + t) (v.1 (12 * p + t)), v.2) = v
        rw [fa_upd_twice, fa_upd_same rfl]
      rw [e] at z
      exact z
    rw [f_X5_states_L64]
    unfold f_X5_states_L80
    by_cases h8 : t = 8
    · rw [if_pos h8] at hk
      rw [if_pos (show nI t = 8 by rw [h8]; rfl), if_pos (c := (99 : Int32) < nI k) (nI_lt (a := 99) (by omega) (by omega))]
      exact fin
    · rw [if_neg h8] at hk
      rw [if_neg (show ¬ nI t = 8 from fun z => h8 ((nI_eq (by omega) (by omega)).mp (show nI t = nI 8 from z))), if_pos (c := (9 : Int32) < nI k) (nI_lt (a := 9) (by omega) (by omega))]
      exact fin
  | succ r ih =>
    intro q k m a x h hh hk hq
    obtain ⟨q, rfl⟩ : ∃ z, q = z + 1 := ⟨q - 1, by omega⟩
    have h6 : sN v ≤ 6 := h.2.1
    rw [f_X5_states_L64]
    unfold f_X5_states_L80 f_X5_states_L113 f_X5_states_L127 f_X5_states_L146 f_X5_states_L148
    simp only [one_ne0, reduceIte, add_0, nI_1]
    have fin : ∃ m', ast 50 3 72 (12 * nI p + nI t) (nI k) m (fun t96 => bnd (f_X5_unlike (nI s) (nI o) (nI p) t96) (fun y101 t101 => if y101 = -1 then (if a.2 = -1 then f_X5_states_L64 q (nI s) (nI o) (nI p) (nI t) w (sR v (12 * p + t)) (a.1 + 1) (nI k) (nI (k + 1)) t101 else f_X5_states_L64 q (nI s) (nI o) (nI p) (nI t) w (sR v (12 * p + t)) (a.1 + 1) a.2 (nI (k + 1)) t101) else f_X5_states_L64 q (nI s) (nI o) (nI p) (nI t) w (sR v (12 * p + t)) a.1 a.2 (nI (k + 1)) t101)) = some (if w = 0 then (fold (stS1 S (hs.2.2 s) (hs.2.2 o) (hs.2.1 o) p t v) (r + 1) k a).1 else (fold (stS1 S (hs.2.2 s) (hs.2.2 o) (hs.2.1 o) p t v) (r + 1) k a).2, m') ∧ CM S n m' v ∧ fr pUn m m' := by
      rw [iM, ast_nI (by omega) (by omega)]
      have c1 := h.wr (i := 12 * p + t) (nI k)
      have e : wR (12 * p + t) (nI k) (wR (12 * p + t) x v) = wR (12 * p + t) (nI k) v := by
        show (upd (upd v.1 (12 * p + t) x) (12 * p + t) (nI k), v.2) = (upd v.1 (12 * p + t) (nI k), v.2)
        rw [fa_upd_twice]
      rw [e] at c1
      have f1 := fr_pa (P := pUn) (o := 50) (k := 3) ⟨rfl, Or.inl rfl⟩ (upd (ga 50 3 m) (12 * p + t) (nI k)) m
      have hh1 := hh.fr f1 (by unfold pUn; decide)
      generalize pa 50 3 (upd (ga 50 3 m) (12 * p + t) (nI k)) m = B at c1 f1 hh1 ⊢
      obtain ⟨m1, g1, g2, g3⟩ := m_unlike c1 hh1 hs4 ho hp hle hok
      have hh2 := hh1.fr g3 (by unfold pUn; decide)
      rw [g1, bnd_some, fold]
      by_cases hu : unS S (hs.2.2 s) (hs.2.2 o) p (hs.2.1 o) 0 (wR (12 * p + t) (nI k) v) = -1
      · rw [if_pos hu]
        by_cases ha : a.2 = -1
        · rw [if_pos ha]
          have e : stS1 S (hs.2.2 s) (hs.2.2 o) (hs.2.1 o) p t v k a = (a.1 + 1, nI k) := by
            unfold stS1
            rw [if_pos hu, if_pos ha]
          rw [e]
          obtain ⟨m', l1, l2, l3⟩ := ih q (k + 1) m1 (a.1 + 1, nI k) (nI k) g2 hh2 (by omega) (by omega)
          exact ⟨m', l1, l2, (f1.trans g3).trans l3⟩
        · rw [if_neg ha]
          have e : stS1 S (hs.2.2 s) (hs.2.2 o) (hs.2.1 o) p t v k a = (a.1 + 1, a.2) := by
            unfold stS1
            rw [if_pos hu, if_neg ha]
          rw [e]
          obtain ⟨m', l1, l2, l3⟩ := ih q (k + 1) m1 (a.1 + 1, a.2) (nI k) g2 hh2 (by omega) (by omega)
          exact ⟨m', l1, l2, (f1.trans g3).trans l3⟩
      · rw [if_neg hu]
        have e : stS1 S (hs.2.2 s) (hs.2.2 o) (hs.2.1 o) p t v k a = a := by
          unfold stS1
          rw [if_neg hu]
        rw [e]
        obtain ⟨m', l1, l2, l3⟩ := ih q (k + 1) m1 a (nI k) g2 hh2 (by omega) (by omega)
        exact ⟨m', l1, l2, (f1.trans g3).trans l3⟩
    by_cases h8 : t = 8
    · rw [if_pos h8] at hk
      rw [if_pos (show nI t = 8 by rw [h8]; rfl), if_neg (c := (99 : Int32) < nI k) (nI_nlt (a := 99) (by omega) (by omega))]
      exact fin
    · rw [if_neg h8] at hk
      rw [if_neg (show ¬ nI t = 8 from fun z => h8 ((nI_eq (by omega) (by omega)).mp (show nI t = nI 8 from z))), if_neg (c := (9 : Int32) < nI k) (nI_nlt (a := 9) (by omega) (by omega))]
      exact fin
/-! whose, laws -/
noncomputable def whoseS (S : LW) (cs ct : Nat → Int32) (z : Nat) (v : VS) : Int32 := fold (fun p a => bitS (unS S cs ct p z 0 v) p a) (sN v) 0 0
theorem m_whose_L {s o : Nat} (hs4 : s < 4) (ho : o < 4) (hle : hs.2.1 o ≤ hs.2.1 s) (hok : ∀ i, i < hs.2.1 s → celOk (sN v) (hs.2.2 s i)) : ∀ (r q k : Nat) (m : ST) (a : Int32), CM S n m v → HM m hs → k + r = sN v → r < q → ∃ m', f_X5_whose_L19 q (nI s) (nI o) a (nI k) m = some (fold (fun p a => bitS (unS S (hs.2.2 s) (hs.2.2 o) p (hs.2.1 o) 0 v) p a) r k a, m') ∧ CM S n m' v ∧ fr pUn m m' := by
  intro r
  induction r with
  | zero =>
    intro q k m a h hh hk hq
    obtain ⟨q, rfl⟩ : ∃ z, q = z + 1 := ⟨q - 1, by omega⟩
    have h6 : sN v ≤ 6 := h.2.1
    rw [f_X5_whose_L19, h.1.1, if_pos (nI_le (by omega) (by omega))]
    exact ⟨m, rfl, h, fr.refl m⟩
  | succ r ih =>
    intro q k m a h hh hk hq
    obtain ⟨q, rfl⟩ : ∃ z, q = z + 1 := ⟨q - 1, by omega⟩
    have h6 : sN v ≤ 6 := h.2.1
    rw [f_X5_whose_L19, h.1.1, if_neg (nI_ge (by omega) (by omega)), fold]
    unfold f_X5_whose_L50
    rw [nI_1, or_0]
    obtain ⟨m1, g1, g2, g3⟩ := m_unlike h hh hs4 ho (p := k) (by omega) hle hok
    have hh2 := hh.fr g3 (by unfold pUn; decide)
    rw [g1, bnd_some]
    unfold bitS
    by_cases hu : unS S (hs.2.2 s) (hs.2.2 o) k (hs.2.1 o) 0 v = -1
    · rw [if_pos hu, if_pos hu]
      obtain ⟨m', l1, l2, l3⟩ := ih q (k + 1) m1 (a ||| (1 <<< (nI k &&& 31))) g2 hh2 (by omega) (by omega)
      exact ⟨m', l1, l2, g3.trans l3⟩
    · rw [if_neg hu, if_neg hu]
      obtain ⟨m', l1, l2, l3⟩ := ih q (k + 1) m1 a g2 hh2 (by omega) (by omega)
      exact ⟨m', l1, l2, g3.trans l3⟩
noncomputable def lawsS (S : LW) (cs ct : Nat → Int32) (z p n : Nat) (v : VS) : Int32 := fold (fun t a => bitS (unS S cs ct p z 0 (wL t v)) t a) n 0 0
def pLa (o k : Nat) : Prop := o = 50 ∧ (k = 3 ∨ k = 4 ∨ k = 10 ∨ k = 27 ∨ k = 28 ∨ k = 29)
theorem pUn_la (o k : Nat) (h : pUn o k) : pLa o k := ⟨h.1, by have := h.2; omega⟩
theorem pLa10 : pLa 50 10 := ⟨rfl, by decide⟩
theorem m_laws_L {s o p : Nat} (hs4 : s < 4) (ho : o < 4) (hp : p < sN v) (hv : sL v < n) (hle : hs.2.1 o ≤ hs.2.1 s) (hok : ∀ i, i < hs.2.1 s → celOk (sN v) (hs.2.2 s i)) : ∀ (r q k : Nat) (m : ST) (a : Int32) (t : Nat), CM S n m (wL t v) → HM m hs → gs 50 9 m = nI n → k + r = n → r < q → ∃ m', f_X5_laws_L29 q (nI s) (nI o) (nI p) (nI (sL v)) a (nI k) m = some (fold (fun t a => bitS (unS S (hs.2.2 s) (hs.2.2 o) p (hs.2.1 o) 0 (wL t v)) t a) r k a, m') ∧ CM S n m' v ∧ fr pLa m m' := by
  intro r
  induction r with
  | zero =>
    intro q k m a t h hh h9 hk hq
    obtain ⟨q, rfl⟩ : ∃ z, q = z + 1 := ⟨q - 1, by omega⟩
    have hn := h.2.2.2.1
    rw [f_X5_laws_L29, h9, if_pos (nI_le (by omega) (by omega))]
    unfold f_X5_laws_L74
    rw [put_eq]
    exact ⟨_, rfl, h.wL hv, fr_ps pLa10 _ _⟩
  | succ r ih =>
    intro q k m a t h hh h9 hk hq
    obtain ⟨q, rfl⟩ : ∃ z, q = z + 1 := ⟨q - 1, by omega⟩
    have hn := h.2.2.2.1
    rw [f_X5_laws_L29, h9, if_neg (nI_ge (by omega) (by omega)), fold, put_eq]
    unfold f_X5_laws_L65
    rw [nI_1, or_0]
    have c1 : CM S n (ps 50 10 (nI k) m) (wL k v) := h.wL (t := k) (by omega)
    have f1 := fr_ps pLa10 (nI k) m
    generalize ps 50 10 (nI k) m = B at c1 f1 ⊢
    have hh1 := hh.fr f1 (by unfold pLa; decide)
    obtain ⟨m1, g1, g2, g3⟩ := m_unlike c1 hh1 hs4 ho hp hle hok
    have hh2 := hh1.fr g3 (by unfold pUn; decide)
    have e9 : gs 50 9 m1 = nI n := by rw [g3.gs (by unfold pUn; decide), f1.gs (by unfold pLa; decide)]; exact h9
    rw [g1, bnd_some]
    unfold bitS
    by_cases hu : unS S (hs.2.2 s) (hs.2.2 o) p (hs.2.1 o) 0 (wL k v) = -1
    · rw [if_pos hu, if_pos hu]
      obtain ⟨m', l1, l2, l3⟩ := ih q (k + 1) m1 (a ||| (1 <<< (nI k &&& 31))) k g2 hh2 e9 (by omega) (by omega)
      exact ⟨m', l1, l2, (f1.trans (g3.mono pUn_la)).trans l3⟩
    · rw [if_neg hu, if_neg hu]
      obtain ⟨m', l1, l2, l3⟩ := ih q (k + 1) m1 a k g2 hh2 e9 (by omega) (by omega)
      exact ⟨m', l1, l2, (f1.trans (g3.mono pUn_la)).trans l3⟩
/-! the plan: what exactly m minutes gain -/
def agS (d : Nat) (g : Int32) (G : Nat → Int32) (m : Nat) : Int32 := if d ≤ m ∧ ¬ G (m - d) ≤ -9999 then (if G (m - d) + g ≤ G m then G m else G (m - d) + g) else G m
def pGa (o k : Nat) : Prop := o = 50 ∧ k = 31
theorem pG31 : pGa 50 31 := ⟨rfl, rfl⟩
theorem m_addsGrain_L {d : Nat} (hd : 1 ≤ d) (hd2 : d < 1000) (g : Int32) (G : Nat → Int32) : ∀ (k q : Nat) (m : ST), k ≤ 60 → k < q → (∀ j, j < 61 → ga 50 31 m j = if k < j then agS d g G j else G j) → ∃ m', f_X5_addsGrain_L3 q (nI d) g (nI k) m = some ((), m') ∧ (∀ j, j < 61 → ga 50 31 m' j = agS d g G j) ∧ fr pGa m m' := by
  intro k
  induction k with
  | zero =>
    intro q m hk hq hG
    obtain ⟨q, rfl⟩ : ∃ z, q = z + 1 := ⟨q - 1, by omega⟩
    rw [f_X5_addsGrain_L3, if_pos (nI_lt (by omega) (by omega))]
    refine ⟨m, rfl, fun j hj => ?_, fr.refl m⟩
    rw [hG j hj]
    by_cases h0 : 0 < j
    · rw [if_pos h0]
    · rw [if_neg h0]
      unfold agS
      rw [if_neg (fun z => by omega)]
  | succ k ih =>
    intro q m hk hq hG
    obtain ⟨q, rfl⟩ : ∃ z, q = z + 1 := ⟨q - 1, by omega⟩
    rw [f_X5_addsGrain_L3]
    by_cases hkd : k + 1 < d
    · rw [if_pos (nI_lt hkd (by omega))]
      refine ⟨m, rfl, fun j hj => ?_, fr.refl m⟩
      rw [hG j hj]
      by_cases h0 : k + 1 < j
      · rw [if_pos h0]
      · rw [if_neg h0]
        unfold agS
        rw [if_neg (fun z => by omega)]
    · have r1 : ga 50 31 m (k + 1 - d) = G (k + 1 - d) := by rw [hG _ (by omega), if_neg (by omega)]
      have r2 : ga 50 31 m (k + 1) = G (k + 1) := by rw [hG _ (by omega), if_neg (by omega)]
      rw [if_neg (nI_nlt (by omega) (by omega)), nI_sub (by omega), ald_nI (by omega) (by omega), ald_nI (by omega) (by omega), ald_nI (by omega) (by omega), ald_nI (by omega) (by omega), r1, r2]
      unfold f_X5_addsGrain_L61 f_X5_addsGrain_L62
      have em : nI (k + 1) + -1 = nI k := by
        have := nI_pred k
        rw [← this, Int32.sub_eq_add_neg]
      rw [em]
      have wr : ∀ x : Int32, x = agS d g G (k + 1) → ∃ m', ast 50 31 61 (nI (k + 1)) x m (fun t61 => f_X5_addsGrain_L3 q (nI d) g (nI k) t61) = some ((), m') ∧ (∀ j, j < 61 → ga 50 31 m' j = agS d g G j) ∧ fr pGa m m' := by
        intro x hx
        rw [ast_nI (by omega) (by omega)]
        obtain ⟨m', g1, g2, g3⟩ := ih q (pa 50 31 (upd (ga 50 31 m) (k + 1) x) m) (by omega) (by omega) (fun j hj => by
          rw [ga_pa, if_pos ⟨rfl, rfl⟩, upd_at]
          by_cases hjk : j = k + 1
          · rw [if_pos hjk, if_pos (by omega), hjk, hx]
          · rw [if_neg hjk, hG j hj]
            by_cases h1 : k + 1 < j
            · rw [if_pos h1, if_pos (by omega)]
            · rw [if_neg h1, if_neg (by omega)])
        exact ⟨m', g1, g2, (fr_pa pG31 _ _).trans g3⟩
      have skip : G (k + 1) = agS d g G (k + 1) → ∃ m', f_X5_addsGrain_L3 q (nI d) g (nI k) m = some ((), m') ∧ (∀ j, j < 61 → ga 50 31 m' j = agS d g G j) ∧ fr pGa m m' := by
        intro hx
        refine ih q m (by omega) (by omega) (fun j hj => ?_)
        rw [hG j hj]
        by_cases h1 : k + 1 < j
        · rw [if_pos h1, if_pos (by omega)]
        · rw [if_neg h1]
          by_cases h2 : k < j
          · rw [if_pos h2, show j = k + 1 by omega, hx]
          · rw [if_neg h2]
      by_cases h1 : G (k + 1 - d) ≤ -9999
      · rw [if_pos h1]
        exact skip (by unfold agS; rw [if_neg (fun z => z.2 h1)])
      · rw [if_neg h1]
        by_cases h2 : G (k + 1 - d) + g ≤ G (k + 1)
        · rw [if_pos h2]
          exact wr _ (by unfold agS; rw [if_pos ⟨by omega, h1⟩, if_pos h2])
        · rw [if_neg h2]
          exact wr _ (by unfold agS; rw [if_pos ⟨by omega, h1⟩, if_neg h2])
theorem m_addsGrain {d : Nat} (hd : 1 ≤ d) (hd2 : d < 1000) (g : Int32) {G : Nat → Int32} (hG : ∀ j, j < 61 → ga 50 31 m j = G j) : ∃ m', f_X5_addsGrain (nI d) g m = some ((), m') ∧ (∀ j, j < 61 → ga 50 31 m' j = agS d g G j) ∧ fr pGa m m' :=
  m_addsGrain_L hd hd2 g G 60 1000 m (by omega) (by omega) (fun j hj => by rw [if_neg (by omega), hG j hj])
end PM9
