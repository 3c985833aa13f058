section PC7
variable {S : LW} {T : TX} {n o : Nat} {c : ST} {v : VS} {hs : HS}
/-! sharing a grain -/
theorem CC.wG (h : CC S T o c v) {p t k : Nat} (ht : t < 8) (hk : k ≤ 9) : CC S T o (pa o 8 (upd (ga o 8 c) (8 * p + t) (nI k)) c) (wR (12 * p + t) (nI k) v) := ⟨h.1.wG ht _, h.2.1, h.2.2.1, h.2.2.2.1, h.2.2.2.2.1, iv_wG h.2.2.2.2.2 ht hk⟩
theorem c_witSharing_L {t : Nat} (ht : t < 8) {N : Nat} : ∀ (r q k : Nat) (c : ST) (v : VS), CC S T 3 c v → sN v = N → k + r = N → r < q → ∃ c', f_X4_witSharing_L31 T q (nI t) (nI k) c = some (witS (fold (shTake S t) r k v), c') ∧ fr (pCo 3) c c' := by
  intro r
  induction r with
  | zero =>
    intro q k c v h hN hk hq
    obtain ⟨q, rfl⟩ : ∃ z, q = z + 1 := ⟨q - 1, by omega⟩
    have h6 := h.2.1
    rw [f_X4_witSharing_L31, h.1.1, if_pos (nI_le (by omega) (by omega))]
    unfold f_X4_witSharing_L69
    rw [c_allWit h.1 h6, bnd_some]
    exact ⟨c, rfl, fr.refl c⟩
  | succ r ih =>
    intro q k c v h hN hk hq
    obtain ⟨q, rfl⟩ : ∃ z, q = z + 1 := ⟨q - 1, by omega⟩
    have h6 := h.2.1
    rw [f_X4_witSharing_L31, h.1.1, if_neg (nI_ge (by omega) (by omega)), fold]
    unfold f_X4_witSharing_L63
    rw [nI_1]
    by_cases hc : canS v k t
    · have e : shTake S t k v = takeS S v k t := if_pos hc
      rw [c_can_yes h.1 h6 (p := k) (by omega) ht hc, bnd_some, if_neg one_ne0, e]
      obtain ⟨c1, e1, d1, f1⟩ := c_take h h3 (p := k) (by omega) ht hc
      rw [e1, bnd_some]
      obtain ⟨c', g1, g2⟩ := ih q (k + 1) c1 _ d1 ((sX_N (sX_take S v k t)).trans hN) (by omega) (by omega)
      exact ⟨c', g1, f1.trans g2⟩
    · have e : shTake S t k v = v := if_neg hc
      rw [c_can_no h.1 h6 (p := k) (by omega) ht hc, bnd_some, if_pos rfl, e]
      exact ih q (k + 1) c v h hN (by omega) (by omega)
theorem c_witSharing (h : CC S T 2 c v) {p t : Nat} (hp : p < sN v) (ht : t < 8) (hl : ¬ 9 ≤ sR v (12 * p + t)) : ∃ c', f_X4_witSharing T (nI p) (nI t) c = some (wshS S t (wR (12 * p + t) (sR v (12 * p + t) + 1) v), c') ∧ CC S T 2 c' v ∧ fr (pCo 3) c c' := by
  have h6 := h.2.1
  obtain ⟨c1, e1, d1, d2, f1⟩ := c_think h
  obtain ⟨k, hk, ek⟩ := (h.2.2.2.2.2 p hp).1 t ht
  have hk9 : k ≤ 8 := by
    have : ¬ k = 9 := fun e => hl (by rw [ek, e]; decide)
    omega
  unfold f_X4_witSharing
  rw [e1, bnd_some, iC, ald_nI (by omega) (by omega), d1.1.g (by omega) ht, ast_nI (by omega) (by omega), ek, nI_1]
  have d3 := d1.wG (p := p) ht (show k + 1 ≤ 9 by omega)
  have f3 := fr_pa (pCo_o 3 8) (upd (ga 3 8 c1) (8 * p + t) (nI (k + 1))) c1
  generalize pa 3 8 (upd (ga 3 8 c1) (8 * p + t) (nI (k + 1))) c1 = A at d3 f3 ⊢
  obtain ⟨c', g1, g2⟩ := c_witSharing_L ht (sN v) 1000 0 A _ d3 rfl (Nat.zero_add _) (by omega)
  exact ⟨c', g1, (d2.k2 f3 (fun k hk => pCo3_2 hk)).k2 g2 (fun k hk => pCo3_2 hk), (f1.trans f3).trans g2⟩
theorem c_share_L {t : Nat} (ht : t < 8) (w : Int32) : ∀ (r q k : Nat) (c : ST) (a : Int32 × Int32), CC S T 2 c v → fstOk a.1 → k + r = sN v → r < q → ∃ c', f_X4_share_L33 T q (nI t) w a.1 a.2 (nI k) c = some (if w = 0 then (fold (shS1 S v t) r k a).1 else (fold (shS1 S v t) r k a).2, c') ∧ CC S T 2 c' v ∧ fr (pCo 3) c c' := by
  intro r
  induction r with
  | zero =>
    intro q k c a h hf hk hq
    obtain ⟨q, rfl⟩ : ∃ z, q = z + 1 := ⟨q - 1, by omega⟩
    have h6 := h.2.1
    rw [f_X4_share_L33, h.1.1, if_pos (nI_le (by omega) (by omega))]
    refine ⟨c, ?_, h, fr.refl c⟩
    unfold f_X4_share_L98 f_X4_share_L108
    split <;> rfl
  | succ r ih =>
    intro q k c a h hf hk hq
    obtain ⟨q, rfl⟩ : ∃ z, q = z + 1 := ⟨q - 1, by omega⟩
    have h6 := h.2.1
    rw [f_X4_share_L33, h.1.1, if_neg (nI_ge (by omega) (by omega)), fold, iC, ald_nI (by omega) (by omega), h.1.g (by omega) ht]
    unfold f_X4_share_L85 f_X4_share_L92
    rw [nI_1]
    by_cases hc : 9 ≤ sR v (12 * k + t)
    · rw [if_pos hc]
      have e : shS1 S v t k a = a := if_pos hc
      rw [e]
      exact ih q (k + 1) c a h hf (by omega) (by omega)
    · rw [if_neg hc]
      obtain ⟨c1, e1, d1, f1⟩ := c_witSharing h (p := k) (by omega) ht hc
      rw [e1, bnd_some]
      generalize hv1 : wR (12 * k + t) (sR v (12 * k + t) + 1) v = v1
      by_cases hb : a.1 = -1
      · rw [if_pos ((fst_neg hf).mpr hb)]
        have e : shS1 S v t k a = (nI k, wshS S t v1) := by
          unfold shS1
          rw [hv1, if_neg hc, if_pos (Or.inl hb)]
        rw [e]
        obtain ⟨m', g1, g2, g3⟩ := ih q (k + 1) c1 (nI k, wshS S t v1) d1 (Or.inr ⟨k, by omega, rfl⟩) (by omega) (by omega)
        exact ⟨m', g1, g2, f1.trans g3⟩
      · rw [if_neg (fun z => hb ((fst_neg hf).mp z))]
        by_cases hl : wshS S t v1 ≤ a.2
        · rw [if_pos hl]
          have e : shS1 S v t k a = a := by
            unfold shS1
            rw [hv1, if_neg hc, if_neg (fun z => z.elim hb (fun y => Int32.not_lt.mpr hl y))]
          rw [e]
          obtain ⟨m', g1, g2, g3⟩ := ih q (k + 1) c1 a d1 hf (by omega) (by omega)
          exact ⟨m', g1, g2, f1.trans g3⟩
        · rw [if_neg hl]
          have e : shS1 S v t k a = (nI k, wshS S t v1) := by
            unfold shS1
            rw [hv1, if_neg hc, if_pos (Or.inr (Int32.not_le.mp hl))]
          rw [e]
          obtain ⟨m', g1, g2, g3⟩ := ih q (k + 1) c1 (nI k, wshS S t v1) d1 (Or.inr ⟨k, by omega, rfl⟩) (by omega) (by omega)
          exact ⟨m', g1, g2, f1.trans g3⟩
/-! a fraction in its lowest terms -/
theorem c_lowest_L (x y w : Int32) : ∀ (j q a b t : Nat), a < 2 ^ j → a < 2147483648 → b < 2147483648 → t + 2 * j ≤ 99 → 2 * j + 1 < q → 0 < a ∨ 0 < b → f_X4_lowest_L8 T q x y w (nI a) (nI b) (nI t) c = f_X4_lowest_L37 T x y w (nI (Nat.gcd a b)) c := by
  intro j
  induction j with
  | zero =>
    intro q a b t ha h1 h2 ht hq h0
    obtain ⟨q, rfl⟩ : ∃ z, q = z + 1 := ⟨q - 1, by omega⟩
    have e : a = 0 := by omega
    subst e
    rw [f_X4_lowest_L8, if_neg (c := (100 : Int32) ≤ nI t) (nI_ge (b := 100) (by omega) (by omega)), if_pos (show nI 0 = 0 from rfl), Nat.gcd_zero_left]
  | succ j ih =>
    intro q a b t ha h1 h2 ht hq h0
    obtain ⟨q, rfl⟩ : ∃ z, q = z + 1 := ⟨q - 1, by omega⟩
    rw [f_X4_lowest_L8, if_neg (c := (100 : Int32) ≤ nI t) (nI_ge (b := 100) (by omega) (by omega))]
    by_cases hz : a = 0
    · subst hz
      rw [if_pos (show nI 0 = 0 from rfl), Nat.gcd_zero_left]
    · rw [if_neg (nI_ne0 (by omega) (by omega)), pk_rem (by omega) (by omega) (by omega), nI_1]
      unfold idv
      rw [if_neg (nI_ne0 (by omega) (by omega))]
      obtain ⟨q, rfl⟩ : ∃ z, q = z + 1 := ⟨q - 1, by omega⟩
      have hr : b % a < a := Nat.mod_lt b (by omega)
      have g1 : Nat.gcd a b = Nat.gcd (b % a) a := Nat.gcd_rec a b
      rw [g1, f_X4_lowest_L8, if_neg (c := (100 : Int32) ≤ nI (t + 1)) (nI_ge (b := 100) (by omega) (by omega))]
      by_cases hz1 : b % a = 0
      · rw [hz1, if_pos (show nI 0 = 0 from rfl), Nat.gcd_zero_left]
      · rw [if_neg (nI_ne0 (by omega) (by omega)), pk_rem (by omega) (by omega) (by omega), nI_1]
        unfold idv
        rw [if_neg (nI_ne0 (by omega) (by omega))]
        have hr2 : a % (b % a) < b % a := Nat.mod_lt a (by omega)
        have g2 : Nat.gcd (b % a) a = Nat.gcd (a % (b % a)) (b % a) := Nat.gcd_rec (b % a) a
        rw [g2]
        refine ih q (a % (b % a)) (b % a) (t + 1 + 1) ?_ (by omega) (by omega) (by omega) (by omega) (Or.inr (by omega))
        have hdm := Nat.div_add_mod a (b % a)
        have hq1 : 1 ≤ a / (b % a) := Nat.div_pos (by omega) (by omega)
        have hmul : (b % a) * 1 ≤ (b % a) * (a / (b % a)) := Nat.mul_le_mul_left _ hq1
        rw [Nat.pow_succ] at ha
        omega
theorem c_lowest {a b : Nat} {w : Int32} (ha : a ≤ 900) (hb : b ≤ 900) (h0 : 0 < b) : f_X4_lowest T (nI a) (nI b) w c = some (lowS a b w, c) := by
  unfold f_X4_lowest lowS
  have e := c_lowest_L (T := T) (c := c) (nI a) (nI b) w 10 1000 a b 0 (by show a < 1024; omega) (by omega) (by omega) (by omega) (by omega) (Or.inr h0)
  rw [show f_X4_lowest_L8 T 1000 (nI a) (nI b) w (nI a) (nI b) 0 c = _ from e]
  have hg : 0 < Nat.gcd a b := Nat.gcd_pos_of_pos_right a h0
  have hg2 : Nat.gcd a b ≤ b := Nat.gcd_le_right a h0
  unfold f_X4_lowest_L37 f_X4_lowest_L54 idv
  have em : mxI 1 (nI (Nat.gcd a b)) = nI (Nat.gcd a b) := by
    rw [m1_mx]
    exact m1_id (one_le_nI hg (by omega))
  rw [em, if_neg (nI_ne0 hg (by omega)), if_neg (nI_ne0 hg (by omega)), pk_div (by omega) hg (by omega), pk_div (by omega) hg (by omega), nI_l (Nat.lt_of_le_of_lt (Nat.div_le_self _ _) (by omega)), nI_l (Nat.lt_of_le_of_lt (Nat.div_le_self _ _) (by omega))]
  split <;> rfl
/-! kinds, states, whose, laws -/
theorem CC.wK (h : CC S T o c v) (p : Nat) {k : Nat} (hk : k < 6) : CC S T o (pa o 2 (upd (ga o 2 c) p (nI k)) c) (wK p (nI k) v) := by
  refine ⟨⟨h.1.1, h.1.2.1, h.1.2.2.1, fun q hq => ?_, fun q hq => ?_⟩, h.2.1, h.2.2.1, h.2.2.2.1, h.2.2.2.2.1, fun q hq => ?_⟩
  · simp only [ga_pa, and_true, true_and, reduceIte, Nat.reduceEqDiff, and_false]
    exact h.1.2.2.2.1 q hq
  · simp only [ga_pa, and_true, true_and, reduceIte, Nat.reduceEqDiff, and_false]
    refine ⟨?_, (h.1.2.2.2.2 q hq).2⟩
    show upd (ga o 2 c) p (nI k) q = upd (sK v) p (nI k) q
    rw [upd_at, upd_at, (h.1.2.2.2.2 q hq).1]
  · obtain ⟨h1, h2, h3, h4, h5, h6, h7⟩ := h.2.2.2.2.2 q hq
    refine ⟨h1, h2, h3, h4, h5, ?_, h7⟩
    show ∃ z, z < 6 ∧ (if q = p then nI k else sK v q) = nI z
    split
    · exact ⟨k, hk, rfl⟩
    · exact h6
theorem CC.wO (h : CC S T o c v) (p : Nat) {k : Nat} (hk : k ≤ 9) : CC S T o (pa o 3 (upd (ga o 3 c) p (nI k)) c) (wO p (nI k) v) := by
  refine ⟨⟨h.1.1, h.1.2.1, h.1.2.2.1, fun q hq => ?_, fun q hq => ?_⟩, h.2.1, h.2.2.1, h.2.2.2.1, h.2.2.2.2.1, fun q hq => ?_⟩
  · simp only [ga_pa, and_true, true_and, reduceIte, Nat.reduceEqDiff, and_false]
    exact h.1.2.2.2.1 q hq
  · simp only [ga_pa, and_true, true_and, reduceIte, Nat.reduceEqDiff, and_false]
    refine ⟨(h.1.2.2.2.2 q hq).1, ?_⟩
    show upd (ga o 3 c) p (nI k) q = upd (sO v) p (nI k) q
    rw [upd_at, upd_at, (h.1.2.2.2.2 q hq).2]
  · obtain ⟨h1, h2, h3, h4, h5, h6, h7⟩ := h.2.2.2.2.2 q hq
    refine ⟨h1, h2, h3, h4, h5, h6, ?_⟩
    show ∃ z, z ≤ 9 ∧ (if q = p then nI k else sO v q) = nI z
    split
    · exact ⟨k, hk, rfl⟩
    · exact h7
theorem CC.wL (h : CC S T 3 c v) {t : Nat} (ht : t < tN T) : CC S T 3 (ps 3 11 (nI t) c) (wL t v) :=
  ⟨⟨h.1.1, h.1.2.1, rfl, h.1.2.2.2.1, h.1.2.2.2.2⟩, h.2.1, ht, h.2.2.2.1, h.2.2.2.2.1, h.2.2.2.2.2⟩
theorem c_kinds_L {s u p : Nat} (hs4 : s < 4) (hu : u < 4) (hp : p < sN v) (hle : hs.2.1 u ≤ hs.2.1 s) (hok : ∀ i, i < hs.2.1 s → celOk (sN v) (hs.2.2 s i)) {w : Int32} (hw : w = 0 ∨ w = 1) : ∀ (r q k : Nat) (c : ST) (a : Int32), CC S T 2 c v → HC c hs → k + r = (if w = 0 then 6 else 10) → r < q → ∃ c', f_X4_kinds_L49 T q (nI s) (nI u) (nI p) w a (if w = 0 then 5 else 9) (nI k) c = some (fold (fun k a => bitS (unS S (hs.2.2 s) (hs.2.2 u) p (hs.2.1 u) 0 (kiV w p k v)) k a) r k a, c') ∧ CC S T 2 c' v ∧ fr (pCo 3) c c' := by
  intro r
  induction r with
  | zero =>
    intro q k c a h hh hk hq
    obtain ⟨q, rfl⟩ : ∃ z, q = z + 1 := ⟨q - 1, by omega⟩
    rw [f_X4_kinds_L49]
    have hlt : (if w = 0 then (5 : Int32) else 9) < nI k := by
      rcases hw with rfl | rfl
      · rw [if_pos rfl] at hk ⊢
        exact nI_lt (a := 5) (by omega) (by omega)
      · rw [if_neg one_ne0] at hk ⊢
        exact nI_lt (a := 9) (by omega) (by omega)
    rw [if_pos hlt]
    exact ⟨c, rfl, h, fr.refl c⟩
  | succ r ih =>
    intro q k c a h hh hk hq
    obtain ⟨q, rfl⟩ : ∃ z, q = z + 1 := ⟨q - 1, by omega⟩
    have h6 := h.2.1
    rw [f_X4_kinds_L49]
    have hk2 : k < (if w = 0 then 6 else 10) := by omega
    have hlt : ¬ (if w = 0 then (5 : Int32) else 9) < nI k := by
      rcases hw with rfl | rfl
      · rw [if_pos rfl] at hk2 ⊢
        exact nI_nlt (a := 5) (by omega) (by omega)
      · rw [if_neg one_ne0] at hk2 ⊢
        exact nI_nlt (a := 9) (by omega) (by omega)
    rw [if_neg hlt]
    obtain ⟨c1, e1, d1, d2, f1⟩ := c_think h
    rw [e1, bnd_some, fold]
    unfold f_X4_kinds_L97 f_X4_kinds_L117
    rw [nI_1]
    have fin : ∀ A : ST, CC S T 3 A (kiV w p k v) → fr (pCo 3) c1 A → ∃ c', bnd (f_X4_otherwise T (nI s) (nI u) (nI p) A) (fun y101 t101 => if y101 = -1 then f_X4_kinds_L49 T q (nI s) (nI u) (nI p) w (a ||| (1 <<< (nI k &&& 31))) (if w = 0 then 5 else 9) (nI (k + 1)) t101 else f_X4_kinds_L49 T q (nI s) (nI u) (nI p) w a (if w = 0 then 5 else 9) (nI (k + 1)) t101) = some (fold (fun k a => bitS (unS S (hs.2.2 s) (hs.2.2 u) p (hs.2.1 u) 0 (kiV w p k v)) k a) r (k + 1) (bitS (unS S (hs.2.2 s) (hs.2.2 u) p (hs.2.1 u) 0 (kiV w p k v)) k a), c') ∧ CC S T 2 c' v ∧ fr (pCo 3) c c' := by
      intro A dA fA
      have hhA := (hh.fr f1 (fun a k ha => pCo_5 h3 ha)).fr fA (fun a k ha => pCo_5 h3 ha)
      have hN : sN (kiV w p k v) = sN v := by unfold kiV; split <;> rfl
      obtain ⟨c2, g1, g2⟩ := c_otherwise dA hhA hs4 hu (by rw [hN]; exact hp) hle (by rw [hN]; exact hok)
      rw [g1, bnd_some]
      have dd := (d2.k2 fA (fun k hk => pCo3_2 hk)).k2 g2 (fun k hk => pCo3_2 hk)
      have hh2 := hhA.fr g2 (fun a k ha => pCo_5 h3 ha)
      unfold bitS
      by_cases hz : unS S (hs.2.2 s) (hs.2.2 u) p (hs.2.1 u) 0 (kiV w p k v) = -1
      · rw [if_pos hz, if_pos hz]
        obtain ⟨c', l1, l2, l3⟩ := ih q (k + 1) c2 (a ||| (1 <<< (nI k &&& 31))) dd hh2 (by omega) (by omega)
        exact ⟨c', l1, l2, ((f1.trans fA).trans g2).trans l3⟩
      · rw [if_neg hz, if_neg hz]
        obtain ⟨c', l1, l2, l3⟩ := ih q (k + 1) c2 a dd hh2 (by omega) (by omega)
        exact ⟨c', l1, l2, ((f1.trans fA).trans g2).trans l3⟩
    rcases hw with rfl | rfl
    · rw [if_pos rfl] at hk2
      rw [if_pos rfl, ast_nI (by omega) (by omega)]
      exact fin _ (by unfold kiV; rw [if_pos rfl]; exact d1.wK p hk2) (fr_pa (pCo_o 3 2) _ _)
    · rw [if_neg one_ne0] at hk2
      rw [if_neg one_ne0, ast_nI (by omega) (by omega)]
      exact fin _ (by unfold kiV; rw [if_neg one_ne0]; exact d1.wO p (by omega)) (fr_pa (pCo_o 3 3) _ _)
theorem CC.wW (h : CC S T o c v) (p : Nat) {k : Nat} (hk : k ≤ 99) : CC S T o (pa o 4 (upd (ga o 4 c) p (nI k)) c) (wR (12 * p + 8) (nI k) v) := by
  refine ⟨h.1.wX 4 (by decide) (nI k), h.2.1, h.2.2.1, h.2.2.2.1, h.2.2.2.2.1, fun q hq => ?_⟩
  obtain ⟨h1, h2, h3, h4, h5, h6, h7⟩ := h.2.2.2.2.2 q hq
  have R : ∀ j, sR (wR (12 * p + 8) (nI k) v) j = if j = 12 * p + 8 then nI k else sR v j := fun j => rfl
  refine ⟨fun t ht => ?_, ?_, ?_, ?_, ?_, h6, h7⟩
  · rw [R, if_neg (by omega)]; exact h1 t ht
  · rw [R]
    by_cases hqp : q = p
    · rw [if_pos (by omega)]; exact ⟨k, hk, rfl⟩
    · rw [if_neg (by omega)]; exact h2
  · rw [R, if_neg (by omega)]; exact h3
  · rw [R, if_neg (by omega)]; exact h4
  · rw [R, R, if_neg (by omega), if_neg (by omega)]; exact h5
theorem c_setState (h : CC S T o c v) {p t k : Nat} (hp : p < sN v) (ht : t < 9) (hk : k ≤ (if t = 8 then 99 else 9)) : ∃ c', f_X0_setState T o (nI p) (nI t) (nI k) c = some (sR v (12 * p + t), c') ∧ CC S T o c' (wR (12 * p + t) (nI k) v) ∧ fr (pCo o) c c' := by
  have h6 := h.2.1
  unfold f_X0_setState f_X0_setState_L49
  by_cases h8 : t = 8
  · subst h8
    rw [if_pos (show nI 8 = 8 from rfl), ald_nI (by omega) (by omega), ast_nI (by omega) (by omega), h.1.wit (by omega)]
    exact ⟨_, rfl, h.wW p hk, fr_pa (pCo_o o 4) _ _⟩
  · rw [if_neg h8] at hk
    rw [if_neg (c := nI t = 8) (fun z => h8 ((nI_eq (by omega) (by omega)).mp (show nI t = nI 8 from z))), iC, ald_nI (by omega) (by omega), ast_nI (by omega) (by omega), h.1.g (by omega) (by omega)]
    exact ⟨_, rfl, h.wG (by omega) hk, fr_pa (pCo_o o 8) _ _⟩
theorem c_states_L {s u p t : Nat} (hs4 : s < 4) (hu : u < 4) (hp : p < sN v) (ht : t < 9) (hle : hs.2.1 u ≤ hs.2.1 s) (hok : ∀ i, i < hs.2.1 s → celOk (sN v) (hs.2.2 s i)) (w : Int32) : ∀ (r q k : Nat) (c : ST) (a : Int32 × Int32), CC S T 2 c v → HC c hs → fstOk a.2 → k + r = (if t = 8 then 100 else 10) → r < q → ∃ c', f_X4_states_L66 T q (nI s) (nI u) (nI p) (nI t) w a.1 a.2 (if t = 8 then 99 else 9) (nI k) c = some (if w = 0 then (fold (stS1 S (hs.2.2 s) (hs.2.2 u) (hs.2.1 u) p t v) r k a).1 else (fold (stS1 S (hs.2.2 s) (hs.2.2 u) (hs.2.1 u) p t v) r k a).2, c') ∧ CC S T 2 c' v ∧ fr (pCo 3) c c' := by
  intro r
  induction r with
  | zero =>
    intro q k c a h hh hf hk hq
    obtain ⟨q, rfl⟩ : ∃ z, q = z + 1 := ⟨q - 1, by omega⟩
    rw [f_X4_states_L66]
    have hlt : (if t = 8 then (99 : Int32) else 9) < nI k := by
      by_cases h8 : t = 8
      · rw [if_pos h8] at hk ⊢
        exact nI_lt (a := 99) (by omega) (by omega)
      · rw [if_neg h8] at hk ⊢
        exact nI_lt (a := 9) (by omega) (by omega)
    rw [if_pos hlt]
    refine ⟨c, ?_, h, fr.refl c⟩
    unfold f_X4_states_L126 f_X4_states_L138
    split <;> rfl
  | succ r ih =>
    intro q k c a h hh hf hk hq
    obtain ⟨q, rfl⟩ : ∃ z, q = z + 1 := ⟨q - 1, by omega⟩
    have h6 := h.2.1
    have hk2 : k < (if t = 8 then 100 else 10) := by omega
    have hk100 : k < 100 := by split at hk2 <;> omega
    rw [f_X4_states_L66]
    have hlt : ¬ (if t = 8 then (99 : Int32) else 9) < nI k := by
      by_cases h8 : t = 8
      · rw [if_pos h8] at hk2 ⊢
        exact nI_nlt (a := 99) (by omega) (by omega)
      · rw [if_neg h8] at hk2 ⊢
        exact nI_nlt (a := 9) (by omega) (by omega)
    rw [if_neg hlt]
    obtain ⟨c1, e1, d1, d2, f1⟩ := c_think h
    obtain ⟨c2, e2, d3, f2⟩ := c_setState d1 hp ht (k := k) (by split <;> split at hk2 <;> omega)
    have hh2 := (hh.fr f1 (fun a k ha => pCo_5 h3 ha)).fr f2 (fun a k ha => pCo_5 h3 ha)
    obtain ⟨c3, e3, f3⟩ := c_otherwise d3 hh2 hs4 hu hp hle hok
    have hh3 := hh2.fr f3 (fun a k ha => pCo_5 h3 ha)
    have dd := (d2.k2 f2 (fun k hk => pCo3_2 hk)).k2 f3 (fun k hk => pCo3_2 hk)
    have fa := (f1.trans f2).trans f3
    rw [e1, bnd_some, e2, bnd_some, e3, bnd_some, fold]
    unfold f_X4_states_L120
    rw [nI_1]
    by_cases hz : unS S (hs.2.2 s) (hs.2.2 u) p (hs.2.1 u) 0 (wR (12 * p + t) (nI k) v) = -1
    · rw [if_pos hz]
      by_cases ha : a.2 = -1
      · rw [if_neg (fun z => (fst_pos hf).mp z ha)]
        have e : stS1 S (hs.2.2 s) (hs.2.2 u) (hs.2.1 u) p t v k a = (a.1 + 1, nI k) := by
          unfold stS1
          rw [if_pos hz, if_pos ha]
        rw [e]
        obtain ⟨c', l1, l2, l3⟩ := ih q (k + 1) c3 (a.1 + 1, nI k) dd hh3 (Or.inr ⟨k, by omega, rfl⟩) (by omega) (by omega)
        exact ⟨c', l1, l2, fa.trans l3⟩
      · rw [if_pos ((fst_pos hf).mpr ha)]
        have e : stS1 S (hs.2.2 s) (hs.2.2 u) (hs.2.1 u) p t v k a = (a.1 + 1, a.2) := by
          unfold stS1
          rw [if_pos hz, if_neg ha]
        rw [e]
        obtain ⟨c', l1, l2, l3⟩ := ih q (k + 1) c3 (a.1 + 1, a.2) dd hh3 hf (by omega) (by omega)
        exact ⟨c', l1, l2, fa.trans l3⟩
    · rw [if_neg hz]
      have e : stS1 S (hs.2.2 s) (hs.2.2 u) (hs.2.1 u) p t v k a = a := by
        unfold stS1
        rw [if_neg hz]
      rw [e]
      obtain ⟨c', l1, l2, l3⟩ := ih q (k + 1) c3 a dd hh3 hf (by omega) (by omega)
      exact ⟨c', l1, l2, fa.trans l3⟩
theorem c_whose_L {s u : Nat} (hs4 : s < 4) (hu : u < 4) (hle : hs.2.1 u ≤ hs.2.1 s) (hok : ∀ i, i < hs.2.1 s → celOk (sN v) (hs.2.2 s i)) : ∀ (r q k : Nat) (c : ST) (a : Int32), CC S T 2 c v → HC c hs → k + r = sN v → r < q → ∃ c', f_X4_whose_L19 T q (nI s) (nI u) a (nI k) c = some (fold (fun p a => bitS (unS S (hs.2.2 s) (hs.2.2 u) p (hs.2.1 u) 0 v) p a) r k a, c') ∧ CC S T 2 c' v ∧ fr (pCo 3) c c' := by
  intro r
  induction r with
  | zero =>
    intro q k c a h hh hk hq
    obtain ⟨q, rfl⟩ : ∃ z, q = z + 1 := ⟨q - 1, by omega⟩
    have h6 := h.2.1
    rw [f_X4_whose_L19, h.1.1, if_pos (nI_le (by omega) (by omega))]
    exact ⟨c, rfl, h, fr.refl c⟩
  | succ r ih =>
    intro q k c a h hh hk hq
    obtain ⟨q, rfl⟩ : ∃ z, q = z + 1 := ⟨q - 1, by omega⟩
    have h6 := h.2.1
    rw [f_X4_whose_L19, h.1.1, if_neg (nI_ge (by omega) (by omega)), fold]
    unfold f_X4_whose_L63
    rw [nI_1]
    obtain ⟨c1, e1, d1, d2, f1⟩ := c_think h
    have hh1 := hh.fr f1 (fun a k ha => pCo_5 h3 ha)
    obtain ⟨c2, g1, g2⟩ := c_otherwise d1 hh1 hs4 hu (p := k) (by omega) hle hok
    have dd := d2.k2 g2 (fun k hk => pCo3_2 hk)
    have hh2 := hh1.fr g2 (fun a k ha => pCo_5 h3 ha)
    rw [e1, bnd_some, g1, bnd_some]
    unfold bitS
    by_cases hz : unS S (hs.2.2 s) (hs.2.2 u) k (hs.2.1 u) 0 v = -1
    · rw [if_pos hz, if_pos hz]
      obtain ⟨c', l1, l2, l3⟩ := ih q (k + 1) c2 (a ||| (1 <<< (nI k &&& 31))) dd hh2 (by omega) (by omega)
      exact ⟨c', l1, l2, (f1.trans g2).trans l3⟩
    · rw [if_neg hz, if_neg hz]
      obtain ⟨c', l1, l2, l3⟩ := ih q (k + 1) c2 a dd hh2 (by omega) (by omega)
      exact ⟨c', l1, l2, (f1.trans g2).trans l3⟩
theorem c_laws_L {s u p : Nat} (hs4 : s < 4) (hu : u < 4) (hp : p < sN v) (hle : hs.2.1 u ≤ hs.2.1 s) (hok : ∀ i, i < hs.2.1 s → celOk (sN v) (hs.2.2 s i)) : ∀ (r q k : Nat) (c : ST) (a : Int32), CC S T 2 c v → HC c hs → gs 0 1 c = nI (tN T) → k + r = tN T → r < q → ∃ c', f_X4_laws_L23 T q (nI s) (nI u) (nI p) a (nI k) c = some (fold (fun t a => bitS (unS S (hs.2.2 s) (hs.2.2 u) p (hs.2.1 u) 0 (wL t v)) t a) r k a, c') ∧ CC S T 2 c' v ∧ fr (pCo 3) c c' := by
  intro r
  induction r with
  | zero =>
    intro q k c a h hh h1 hk hq
    obtain ⟨q, rfl⟩ : ∃ z, q = z + 1 := ⟨q - 1, by omega⟩
    have hT := h.2.2.2.1
    rw [f_X4_laws_L23, h1, if_pos (nI_le (by omega) (by omega))]
    exact ⟨c, rfl, h, fr.refl c⟩
  | succ r ih =>
    intro q k c a h hh h1 hk hq
    obtain ⟨q, rfl⟩ : ∃ z, q = z + 1 := ⟨q - 1, by omega⟩
    have hT := h.2.2.2.1
    rw [f_X4_laws_L23, h1, if_neg (nI_ge (by omega) (by omega)), fold]
    unfold f_X4_laws_L72
    rw [nI_1]
    obtain ⟨c1, e1, d1, d2, f1⟩ := c_think h
    have d3 := d1.wL (t := k) (by omega)
    have f3 := fr_ps (pCo_o 3 11) (nI k) c1
    rw [e1, bnd_some, put_eq]
    generalize ps 3 11 (nI k) c1 = A at d3 f3 ⊢
    have hh1 := (hh.fr f1 (fun a k ha => pCo_5 h3 ha)).fr f3 (fun a k ha => pCo_5 h3 ha)
    obtain ⟨c2, g1, g2⟩ := c_otherwise d3 hh1 hs4 hu hp hle hok
    have dd := (d2.k2 f3 (fun k hk => pCo3_2 hk)).k2 g2 (fun k hk => pCo3_2 hk)
    have hh2 := hh1.fr g2 (fun a k ha => pCo_5 h3 ha)
    have fa := (f1.trans f3).trans g2
    have h12 : gs 0 1 c2 = nI (tN T) := (fa.gs (by unfold pCo; decide)).trans h1
    rw [g1, bnd_some]
    unfold bitS
    by_cases hz : unS S (hs.2.2 s) (hs.2.2 u) p (hs.2.1 u) 0 (wL k v) = -1
    · rw [if_pos hz, if_pos hz]
      obtain ⟨c', l1, l2, l3⟩ := ih q (k + 1) c2 (a ||| (1 <<< (nI k &&& 31))) dd hh2 h12 (by omega) (by omega)
      exact ⟨c', l1, l2, fa.trans l3⟩
    · rw [if_neg hz, if_neg hz]
      obtain ⟨c', l1, l2, l3⟩ := ih q (k + 1) c2 a dd hh2 h12 (by omega) (by omega)
      exact ⟨c', l1, l2, fa.trans l3⟩
end PC7
