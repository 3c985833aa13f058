section PC5
variable {S : LW} {T : TX} {n o : Nat} {c : ST} {v : VS} {hs : HS}
def HC (c : ST) (hs : HS) : Prop := ∀ s, s < 4 → gs (5 + s) 1 c = hs.1 s ∧ gs (5 + s) 2 c = nI (hs.2.1 s) ∧ hs.2.1 s ≤ 40 ∧ (∀ i, i < hs.2.1 s → ga (5 + s) 0 c i = hs.2.2 s i) ∧ (hs.1 s = -1 ∨ hs.1 s = 0 ∨ hs.1 s = 1 ∨ hs.1 s = 2)
theorem HC.fr {P : Nat → Nat → Prop} {c' : ST} (h : HC c hs) (f : fr P c c') (g : ∀ a k, 5 ≤ a → ¬ P a k) : HC c' hs := by
  intro s hs4
  rw [f.gs (g _ _ (by omega)), f.gs (g _ _ (by omega)), f.ga (g _ _ (by omega))]
  exact h s hs4
theorem pCo_5 {o a k : Nat} (ho : isC o) (h : 5 ≤ a) : ¬ pCo o a k := by
  unfold isC at ho
  rintro (z | z)
  · omega
  · omega
theorem pTo_5 {o a k : Nat} (ho : isC o) (h : 5 ≤ a) : ¬ pTo o a k := by
  unfold isC at ho
  rintro ⟨z, -⟩
  omega
theorem c_isSheet_yes {s : Nat} (hs4 : s < 4) : f_X4_isSheet T (nI s) c = some (1, c) := by
  unfold f_X4_isSheet
  rw [c_within_yes (b := 3) ((in_nI (n := 3) (by omega)).mpr ⟨s, by omega, rfl⟩)]
  rfl
theorem c_isSheet_no {s : Int32} (hs4 : ¬ ∃ k, k < 4 ∧ s = nI k) : f_X4_isSheet T s c = some (0, c) := by
  unfold f_X4_isSheet
  rw [c_within_no (fun z => hs4 (by obtain ⟨k, hk, e⟩ := (in_nI (n := 3) (by omega)).mp z; exact ⟨k, by omega, e⟩))]
  rfl
theorem c_isMissing_yes (hh : HC c hs) {s : Nat} (hs4 : s < 4) (h : hs.1 s = -1) : f_X1_isMissing T (5 + s) c = some (1, c) := by
  unfold f_X1_isMissing
  rw [(hh s hs4).1, h, if_neg (by decide)]
  rfl
theorem c_isMissing_no (hh : HC c hs) {s : Nat} (hs4 : s < 4) (h : ¬ hs.1 s = -1) : f_X1_isMissing T (5 + s) c = some (0, c) := by
  unfold f_X1_isMissing
  rw [(hh s hs4).1, if_pos (by
    rcases (hh s hs4).2.2.2.2 with z | z | z | z
    · exact absurd z h
    · rw [z]; decide
    · rw [z]; decide
    · rw [z]; decide)]
  rfl
theorem c_refusesEvening_L (h : RC 2 c v) (h6 : sN v ≤ 6) (hh : HC c hs) {s : Nat} (hs4 : s < 4) : ∀ (r q k : Nat), k + r = hs.2.1 s → r < q →
    ((∀ i, k ≤ i → i < hs.2.1 s → celOk (sN v) (hs.2.2 s i)) → f_X4_refusesEvening_L29 T q (5 + s) (nI k) c = some (0, c)) ∧ ((¬ ∀ i, k ≤ i → i < hs.2.1 s → celOk (sN v) (hs.2.2 s i)) → f_X4_refusesEvening_L29 T q (5 + s) (nI k) c = some (-2, c)) := by
  obtain ⟨e1, e2, e3, e4, e5⟩ := hh s hs4
  intro r
  induction r with
  | zero =>
    intro q k hk hq
    obtain ⟨q, rfl⟩ : ∃ z, q = z + 1 := ⟨q - 1, by omega⟩
    rw [f_X4_refusesEvening_L29, e2, if_pos (nI_le (by omega) (by omega))]
    exact ⟨fun _ => rfl, fun g => absurd (fun i h1 h2 => by omega) g⟩
  | succ r ih =>
    intro q k hk hq
    obtain ⟨q, rfl⟩ : ∃ z, q = z + 1 := ⟨q - 1, by omega⟩
    rw [f_X4_refusesEvening_L29, e2, if_neg (nI_ge (by omega) (by omega)), ald_nI (by omega) (by omega), e4 k (by omega)]
    unfold f_X4_refusesEvening_L82 f_X4_refusesEvening_L85
    rw [nI_1]
    have hrec := ih q (k + 1) (by omega) (by omega)
    have step : celOk (sN v) (hs.2.2 s k) → ((∀ i, k ≤ i → i < hs.2.1 s → celOk (sN v) (hs.2.2 s i)) ↔ ∀ i, k + 1 ≤ i → i < hs.2.1 s → celOk (sN v) (hs.2.2 s i)) := fun g => ⟨fun z i h1 h2 => z i (by omega) h2, fun z i h1 h2 => by
      by_cases hik : i = k
      · rw [hik]; exact g
      · exact z i (by omega) h2⟩
    have bad : ¬ celOk (sN v) (hs.2.2 s k) → ¬ ∀ i, k ≤ i → i < hs.2.1 s → celOk (sN v) (hs.2.2 s i) := fun g z => g (z k (Nat.le_refl _) (by omega))
    by_cases h1 : hs.2.2 s k = -1
    · rw [if_pos h1, step (Or.inl h1)]
      exact hrec
    · rw [if_neg h1]
      by_cases h0 : hs.2.2 s k < 0
      · rw [if_pos h0]
        have b : ¬ celOk (sN v) (hs.2.2 s k) := by
          rintro (z | ⟨p, t, hp, ht, z⟩)
          · exact h1 z
          · rw [z] at h0; exact nI_pos (by omega) h0
        exact ⟨fun z => absurd z (bad b), fun _ => rfl⟩
      · rw [if_neg h0]
        obtain ⟨j, hj, ej⟩ := i32_of h0
        rw [ej]
        have d1 : nI j / 10 = nI (j / 10) := pk_div (a := j) (d := 10) (by omega) (by omega) (by omega)
        have d2 : nI j - nI j / 10 * 10 = nI (j % 10) := pk_rem (a := j) (d := 10) (by omega) (by omega) (by omega)
        rw [d2, d1]
        have ok : celOk (sN v) (hs.2.2 s k) ↔ j / 10 < sN v ∧ j % 10 < 8 := by
          constructor
          · rintro (z | ⟨p, t, hp, ht, z⟩)
            · exact absurd z h1
            · rw [ej] at z
              have := (nI_eq (by omega) (by omega)).mp z
              omega
          · rintro ⟨z1, z2⟩
            exact Or.inr ⟨j / 10, j % 10, z1, z2, by rw [ej]; congr 1; omega⟩
        by_cases hp : j / 10 < sN v
        · rw [c_has_yes h h6 hp, bnd_some, if_neg one_ne0]
          by_cases ht : j % 10 < 8
          · rw [c_isSort_yes ht, bnd_some, if_neg one_ne0, step (ok.mpr ⟨hp, ht⟩)]
            exact hrec
          · rw [c_isSort_no (fun z => by obtain ⟨k', hk', e'⟩ := z; have := (nI_eq (by omega) (by omega)).mp e'; omega), bnd_some, if_pos rfl]
            exact ⟨fun z => absurd z (bad (fun y => ht (ok.mp y).2)), fun _ => rfl⟩
        · rw [c_has_no h h6 (fun z => by obtain ⟨k', hk', e'⟩ := z; have := (nI_eq (by omega) (by omega)).mp e'; omega), bnd_some, if_pos rfl]
          exact ⟨fun z => absurd z (bad (fun y => hp (ok.mp y).1)), fun _ => rfl⟩
theorem c_refusesEvening_yes (h : RC 2 c v) (h6 : sN v ≤ 6) (hh : HC c hs) {s : Nat} (hs4 : s < 4) : f_X4_refusesEvening T (nI s) c = some (ewS (sN v) hs s, c) := by
  unfold f_X4_refusesEvening ewS
  rw [c_isSheet_yes hs4, bnd_some, if_neg one_ne0, chk_nI (by omega) (by omega), nI_clamp (by omega)]
  by_cases h1 : hs.1 s = -1
  · rw [c_isMissing_yes hh hs4 h1, bnd_some, if_neg one_ne0, if_pos h1]
  · rw [c_isMissing_no hh hs4 h1, bnd_some, if_pos rfl, if_neg h1]
    obtain ⟨a, b⟩ := c_refusesEvening_L (T := T) h h6 hh hs4 (hs.2.1 s) 1000 0 (by omega) (by have := (hh s hs4).2.2.1; omega)
    by_cases h2 : ∀ i, i < hs.2.1 s → celOk (sN v) (hs.2.2 s i)
    · rw [if_pos h2]; exact a (fun i _ hi => h2 i hi)
    · rw [if_neg h2]; exact b (fun z => h2 (fun i hi => z i (Nat.zero_le _) hi))
theorem c_refusesEvening_no {s : Int32} (hs4 : ¬ ∃ k, k < 4 ∧ s = nI k) : f_X4_refusesEvening T s c = some (-2, c) := by
  unfold f_X4_refusesEvening
  rw [c_isSheet_no hs4, bnd_some, if_pos rfl]
theorem c_min (h : CC S T o c v) (ho : isC o) {x : Int32} (hx : celOk (sN v) x) : ∃ c1 c' y, f_X0_tries T o x c = some ((tryS S x v).1, c1) ∧ f_X0_pass T o c1 = some (y, c') ∧ CC S T o c1 (tryS S x v).2 ∧ CC S T o c' (minS1 S x v) ∧ fr (pCo o) c c1 ∧ fr (pCo o) c1 c' := by
  obtain ⟨c1, e1, d1, f1⟩ := c_tries h ho hx
  obtain ⟨c2, e2, d2, f2⟩ := c_pass d1
  exact ⟨c1, c2, _, e1, e2, d1, d2, f1, f2⟩
theorem h3 : isC 3 := Or.inr (Or.inl rfl)
theorem h2c : isC 2 := Or.inl rfl
theorem c_otherwise_L {s u p : Nat} (hs4 : s < 4) (hu : u < 4) {N : Nat} (hp : p < N) (hle : hs.2.1 u ≤ hs.2.1 s) (hok : ∀ i, i < hs.2.1 s → celOk N (hs.2.2 s i)) : ∀ (r q k : Nat) (c : ST) (v : VS), CC S T 3 c v → HC c hs → sN v = N → k + r = hs.2.1 u → r < q → ∃ c', f_X4_otherwise_L19 T q (nI p) (5 + s) (5 + u) (nI k) c = some (unS S (hs.2.2 s) (hs.2.2 u) p r k v, c') ∧ fr (pCo 3) c c' := by
  intro r
  induction r with
  | zero =>
    intro q k c v h hh hN hk hq
    obtain ⟨q, rfl⟩ : ∃ z, q = z + 1 := ⟨q - 1, by omega⟩
    have h40 := (hh u hu).2.2.1
    rw [f_X4_otherwise_L19, (hh u hu).2.1, if_pos (nI_le (by omega) (by omega))]
    exact ⟨c, rfl, fr.refl c⟩
  | succ r ih =>
    intro q k c v h hh hN hk hq
    obtain ⟨q, rfl⟩ : ∃ z, q = z + 1 := ⟨q - 1, by omega⟩
    have h40 := (hh u hu).2.2.1
    have h41 := (hh s hs4).2.2.1
    have h6 := h.2.1
    rw [f_X4_otherwise_L19, (hh u hu).2.1, if_neg (nI_ge (by omega) (by omega)), (hh s hs4).2.1, if_neg (nI_ge (by omega) (by omega)), ald_nI (by omega) (by omega), (hh s hs4).2.2.2.1 k (by omega)]
    obtain ⟨c1, c2, y, g1, g2, g3, g4, f1, f2⟩ := c_min h h3 (x := hs.2.2 s k) (by rw [hN]; exact hok k (by omega))
    have hh2 := (hh.fr f1 (fun a k ha => pCo_5 h3 ha)).fr f2 (fun a k ha => pCo_5 h3 ha)
    rw [g1, bnd_some, g2, bnd_some, ald_nI (by omega) (by omega), g4.1.wit (by omega), ald_nI (by omega) (by omega), (hh2 u hu).2.2.2.1 k (by omega), nI_1]
    unfold unS
    by_cases hw : hs.2.2 u k = sR (minS1 S (hs.2.2 s k) v) (12 * p + 8)
    · rw [if_pos hw.symm, if_pos hw]
      obtain ⟨c', e, f⟩ := ih q (k + 1) c2 _ g4 hh2 ((sX_N (sX_min S _ v)).trans hN) (by omega) (by omega)
      exact ⟨c', e, (f1.trans f2).trans f⟩
    · rw [if_neg (fun z => hw z.symm), if_neg hw]
      exact ⟨c2, rfl, f1.trans f2⟩
theorem c_otherwise (h : CC S T 3 c v) (hh : HC c hs) {s u p : Nat} (hs4 : s < 4) (hu : u < 4) (hp : p < sN v) (hle : hs.2.1 u ≤ hs.2.1 s) (hok : ∀ i, i < hs.2.1 s → celOk (sN v) (hs.2.2 s i)) : ∃ c', f_X4_otherwise T (nI s) (nI u) (nI p) c = some (unS S (hs.2.2 s) (hs.2.2 u) p (hs.2.1 u) 0 v, c') ∧ fr (pCo 3) c c' := by
  unfold f_X4_otherwise
  rw [chk_nI (by omega) (by omega), chk_nI (by omega) (by omega), nI_clamp (by omega), nI_clamp (by omega)]
  exact c_otherwise_L hs4 hu hp hle hok (hs.2.1 u) 1000 0 c v h hh rfl (by omega) (by have := (hh u hu).2.2.1; omega)
theorem CC.to3 {c' : ST} (h : CC S T 2 c v) (r : RC 3 c' v) : CC S T 3 c' v := ⟨r, h.2⟩
theorem CC.k2 {P : Nat → Nat → Prop} {c' : ST} (h : CC S T 2 c v) (f : fr P c c') (g : ∀ k, 2 ≤ k → ¬ P 2 k) : CC S T 2 c' v := ⟨h.1.fr f g, h.2⟩
theorem pTo3_2 (k : Nat) : ¬ pTo 3 2 k := fun z => absurd z.1 (by decide)
theorem pCo3_2 {k : Nat} (hk : 2 ≤ k) : ¬ pCo 3 2 k := by
  rintro (z | z)
  · exact absurd z (by decide)
  · omega
/-- what is thought is now -/
theorem c_think (h : CC S T 2 c v) : ∃ c', f_X0_becomes T 3 2 c = some ((), c') ∧ CC S T 3 c' v ∧ CC S T 2 c' v ∧ fr (pCo 3) c c' := by
  obtain ⟨c', e, r, f⟩ := c_becomes (T := T) (o := 3) (by decide) h.1 h.2.1
  exact ⟨c', e, h.to3 r, h.k2 f (fun k _ => pTo3_2 k), f.mono (fun a k z => Or.inl z.1)⟩
/-- an evening thought of -/
theorem nI_lt0 {x : Int32} : x < 0 → ¬ ∃ k, k < 2147483648 ∧ x = nI k := fun h ⟨k, hk, e⟩ => nI_pos hk (by rw [← e]; exact h)
def fstOk (x : Int32) : Prop := x = -1 ∨ ∃ k, k < 2147483648 ∧ x = nI k
theorem fst_neg {x : Int32} (h : fstOk x) : x < 0 ↔ x = -1 := by
  constructor
  · intro z
    rcases h with e | e
    · exact e
    · exact absurd e (nI_lt0 z)
  · rintro rfl
    decide
theorem fst_pos {x : Int32} (h : fstOk x) : 0 ≤ x ↔ ¬ x = -1 := by rw [← fst_neg h, Int32.not_lt]
theorem ev_fst (S : LW) {x : Int32} {k : Nat} (hk : k < 2147483648) {a : EV4 × VS} (h : fstOk a.1.2.2.2) : fstOk (evS1 S x k a).1.2.2.2 := by
  show fstOk (if (tryS S x a.2).1 = 0 ∧ x ≠ -1 ∧ a.1.2.2.2 = -1 then nI k else a.1.2.2.2)
  split
  · exact Or.inr ⟨k, hk, rfl⟩
  · exact h
theorem mx_le {a b : Int32} : mxI a b = if b ≤ a then a else b := by
  unfold mxI
  by_cases hh : b ≤ a
  · rw [if_neg (Int32.not_lt.mpr hh), if_pos hh]
  · rw [if_pos (Int32.not_le.mp hh), if_neg hh]
theorem c_evening_L {s : Nat} (hs4 : s < 4) {N0 : Nat} (hok : ∀ i, i < hs.2.1 s → celOk N0 (hs.2.2 s i)) (w x4 x5 : Int32) : ∀ (r q k : Nat) (c : ST) (a : EV4 × VS), CC S T 3 c a.2 → HC c hs → sN a.2 = N0 → fstOk a.1.2.2.2 → k + r = hs.2.1 s → r < q → ∃ c1, f_X4_evening_L104 T q w x4 x5 (5 + s) a.1.1 a.1.2.1 a.1.2.2.1 a.1.2.2.2 (nI k) c = f_X4_evening_L206 T w x4 x5 (fold (fun k a => evS1 S (hs.2.2 s k) k a) r k a).1.1 (fold (fun k a => evS1 S (hs.2.2 s k) k a) r k a).1.2.1 (fold (fun k a => evS1 S (hs.2.2 s k) k a) r k a).1.2.2.1 (fold (fun k a => evS1 S (hs.2.2 s k) k a) r k a).1.2.2.2 c1 ∧ CC S T 3 c1 (fold (fun k a => evS1 S (hs.2.2 s k) k a) r k a).2 ∧ fr (pCo 3) c c1 := by
  intro r
  induction r with
  | zero =>
    intro q k c a h hh hN hf hk hq
    obtain ⟨q, rfl⟩ : ∃ z, q = z + 1 := ⟨q - 1, by omega⟩
    have h40 := (hh s hs4).2.2.1
    rw [f_X4_evening_L104, (hh s hs4).2.1, if_pos (nI_le (by omega) (by omega))]
    exact ⟨c, rfl, h, fr.refl c⟩
  | succ r ih =>
    intro q k c a h hh hN hf hk hq
    obtain ⟨q, rfl⟩ : ∃ z, q = z + 1 := ⟨q - 1, by omega⟩
    have h40 := (hh s hs4).2.2.1
    rw [f_X4_evening_L104, (hh s hs4).2.1, if_neg (nI_ge (by omega) (by omega)), ald_nI (by omega) (by omega), (hh s hs4).2.2.2.1 k (by omega), fold]
    have hfn := ev_fst S (x := hs.2.2 s k) (k := k) (by omega) hf
    generalize hx : hs.2.2 s k = x at hfn ⊢
    have ok : celOk (sN a.2) x := by rw [hN, ← hx]; exact hok k (by omega)
    obtain ⟨c1, c2, y, g1, g2, g3, g4, f1, f2⟩ := c_min h h3 ok
    have hh1 := hh.fr f1 (fun a k ha => pCo_5 h3 ha)
    have hh2 := hh1.fr f2 (fun a k ha => pCo_5 h3 ha)
    rw [g1, bnd_some]
    have L : ∀ (e : EV4), e.1 = (evS1 S x k a).1.1 → e.2.1 = a.1.2.1 → e.2.2.1 = a.1.2.2.1 → e.2.2.2 = (evS1 S x k a).1.2.2.2 → ∃ c', f_X4_evening_L159 T (fun v2 v4 v5 o6 v7 v8 v9 v10 v11 σ => f_X4_evening_L104 T q v2 v4 v5 o6 v7 v8 v9 v10 v11 σ) w x4 x5 (5 + s) e.1 e.2.1 e.2.2.1 e.2.2.2 (nI k) c1 = f_X4_evening_L206 T w x4 x5 (fold (fun k a => evS1 S (hs.2.2 s k) k a) r (k + 1) (evS1 S x k a)).1.1 (fold (fun k a => evS1 S (hs.2.2 s k) k a) r (k + 1) (evS1 S x k a)).1.2.1 (fold (fun k a => evS1 S (hs.2.2 s k) k a) r (k + 1) (evS1 S x k a)).1.2.2.1 (fold (fun k a => evS1 S (hs.2.2 s k) k a) r (k + 1) (evS1 S x k a)).1.2.2.2 c' ∧ CC S T 3 c' (fold (fun k a => evS1 S (hs.2.2 s k) k a) r (k + 1) (evS1 S x k a)).2 ∧ fr (pCo 3) c c' := by
      intro e q1 q2 q3 q4
      unfold f_X4_evening_L159
      rw [c_howManyHere g3.1 g3.2.1, bnd_some, g2, bnd_some, g3.1.1, nI_1, q1, q2, q3, q4, mx_le]
      obtain ⟨c', l1, l2, l3⟩ := ih q (k + 1) c2 (evS1 S x k a) g4 hh2 ((sX_N (sX_min S x a.2)).trans hN) hfn (by omega) (by omega)
      exact ⟨c', l1, l2, (f1.trans f2).trans l3⟩
    rcases tryS_bool S x a.2 with hb | hb
    · rw [hb, if_pos rfl, ald_nI (by omega) (by omega), (hh1 s hs4).2.2.2.1 k (by omega), hx]
      have e1 : a.1.1 = (evS1 S x k a).1.1 := by
        show a.1.1 = a.1.1 + (tryS S x a.2).1
        rw [hb, add_0]
      by_cases hx1 : x = -1
      · rw [if_pos hx1]
        exact L (a.1.1, a.1.2.1, a.1.2.2.1, a.1.2.2.2) e1 rfl rfl (by
          show a.1.2.2.2 = (if (tryS S x a.2).1 = 0 ∧ x ≠ -1 ∧ a.1.2.2.2 = -1 then nI k else a.1.2.2.2)
          rw [if_neg (fun z => z.2.1 hx1)])
      · rw [if_neg hx1]
        by_cases hf1 : a.1.2.2.2 = -1
        · rw [if_neg (fun z => (fst_pos hf).mp z hf1)]
          exact L (a.1.1, a.1.2.1, a.1.2.2.1, nI k) e1 rfl rfl (by
            show nI k = (if (tryS S x a.2).1 = 0 ∧ x ≠ -1 ∧ a.1.2.2.2 = -1 then nI k else a.1.2.2.2)
            rw [if_pos ⟨hb, hx1, hf1⟩])
        · rw [if_pos ((fst_pos hf).mpr hf1)]
          exact L (a.1.1, a.1.2.1, a.1.2.2.1, a.1.2.2.2) e1 rfl rfl (by
            show a.1.2.2.2 = (if (tryS S x a.2).1 = 0 ∧ x ≠ -1 ∧ a.1.2.2.2 = -1 then nI k else a.1.2.2.2)
            rw [if_neg (fun z => hf1 z.2.2)])
    · rw [hb, if_neg one_ne0]
      exact L (a.1.1 + 1, a.1.2.1, a.1.2.2.1, a.1.2.2.2) (by
        show a.1.1 + 1 = a.1.1 + (tryS S x a.2).1
        rw [hb]) rfl rfl (by
        show a.1.2.2.2 = (if (tryS S x a.2).1 = 0 ∧ x ≠ -1 ∧ a.1.2.2.2 = -1 then nI k else a.1.2.2.2)
        rw [if_neg (fun z => absurd (hb ▸ z.1) one_ne0)])
/-- an evening spent -/
theorem c_spend_L {s : Nat} (hs4 : s < 4) {N0 : Nat} (hok : ∀ i, i < hs.2.1 s → celOk N0 (hs.2.2 s i)) : ∀ (r q k : Nat) (c : ST) (a : EV4 × VS), CC S T 2 c a.2 → HC c hs → sN a.2 = N0 → k + r = hs.2.1 s → r < q → ∃ c', f_X4_spend_L46 T q (5 + s) a.1.1 (nI k) c = some ((fold (fun k a => evS1 S (hs.2.2 s k) k a) r k a).1.1, c') ∧ CC S T 2 c' (fold (fun k a => evS1 S (hs.2.2 s k) k a) r k a).2 ∧ fr (pCo 2) c c' := by
  intro r
  induction r with
  | zero =>
    intro q k c a h hh hN hk hq
    obtain ⟨q, rfl⟩ : ∃ z, q = z + 1 := ⟨q - 1, by omega⟩
    have h40 := (hh s hs4).2.2.1
    rw [f_X4_spend_L46, (hh s hs4).2.1, if_pos (nI_le (by omega) (by omega))]
    exact ⟨c, rfl, h, fr.refl c⟩
  | succ r ih =>
    intro q k c a h hh hN hk hq
    obtain ⟨q, rfl⟩ : ∃ z, q = z + 1 := ⟨q - 1, by omega⟩
    have h40 := (hh s hs4).2.2.1
    rw [f_X4_spend_L46, (hh s hs4).2.1, if_neg (nI_ge (by omega) (by omega)), ald_nI (by omega) (by omega), (hh s hs4).2.2.2.1 k (by omega), fold]
    generalize hx : hs.2.2 s k = x
    have ok : celOk (sN a.2) x := by rw [hN, ← hx]; exact hok k (by omega)
    obtain ⟨c1, c2, y, g1, g2, g3, g4, f1, f2⟩ := c_min h h2c ok
    have hh2 := (hh.fr f1 (fun a k ha => pCo_5 h2c ha)).fr f2 (fun a k ha => pCo_5 h2c ha)
    rw [g1, bnd_some]
    unfold f_X4_spend_L75
    rw [nI_1, g2, bnd_some, bnd_some]
    obtain ⟨c', l1, l2, l3⟩ := ih q (k + 1) c2 (evS1 S x k a) g4 hh2 ((sX_N (sX_min S x a.2)).trans hN) (by omega) (by omega)
    have e1 : (evS1 S x k a).1.1 = a.1.1 + (tryS S x a.2).1 := rfl
    rw [e1] at l1
    rcases tryS_bool S x a.2 with hb | hb
    · rw [hb, if_pos rfl]
      rw [hb, add_0] at l1
      exact ⟨c', l1, l2, (f1.trans f2).trans l3⟩
    · rw [hb, if_neg one_ne0]
      rw [hb] at l1
      exact ⟨c', l1, l2, (f1.trans f2).trans l3⟩
end PC5
