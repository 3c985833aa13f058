section PM8
variable {S : LW} {n : Nat} {m : ST} {v : VS} {hs : HS}
/-! a film -/
theorem fold_succ {α : Type} (f : Nat → α → α) : ∀ (r k : Nat) (a : α), fold f (r + 1) k a = f (k + r) (fold f r k a) := by
  intro r
  induction r with
  | zero => intro k a; rfl
  | succ r ih =>
    intro k a
    show fold f (r + 1) (k + 1) (f k a) = f (k + (r + 1)) (fold f r (k + 1) (f k a))
    rw [ih (k + 1) (f k a), show k + 1 + r = k + (r + 1) by omega]
noncomputable def runS (S : LW) (cs : Nat → Int32) (r : Nat) (v : VS) : VS := fold (fun i w => minS1 S (cs i) w) r 0 v
theorem sX_run (S : LW) (cs : Nat → Int32) (r : Nat) (v : VS) : sX (runS S cs r v) = sX v := fold_inv (P := fun w => sX w = sX v) (fun k a e => (sX_min S (cs k) a).trans e) r 0 v rfl
noncomputable def fiW (S : LW) (cs : Nat → Int32) (p : Nat) (v : VS) (i : Nat) : Int32 := sR (runS S cs (i + 1) v) (12 * p + 8)
def pFi (o k : Nat) : Prop := o = 50 ∧ (k = 3 ∨ k = 4 ∨ k = 16 ∨ k = 27 ∨ k = 28 ∨ k = 29)
theorem pRun_fi (o k : Nat) (h : pRun o k) : pFi o k := ⟨h.1, by have := h.2; omega⟩
theorem pPass_fi (o k : Nat) (h : pPass o k) : pFi o k := ⟨h.1, by have := h.2; omega⟩
theorem pKeep_fi (o k : Nat) (h : pKeep o k) : pFi o k := ⟨h.1, by have := h.2; omega⟩
theorem pF16 : pFi 50 16 := ⟨rfl, by decide⟩
def pCl (o k : Nat) : Prop := o = 50 ∧ k = 16
theorem pC16 : pCl 50 16 := ⟨rfl, rfl⟩
theorem CM.cl {m' : ST} (h : CM S n m v) (f : fr pCl m m') : CM S n m' v := h.fr4 (h.1.fr f (by unfold pCl; decide)) rfl rfl f (by unfold pCl; decide) (by unfold pCl; decide)
theorem m_film_L {s o p sz : Nat} {cs : Nat → Int32} (hs4 : s < 4) (ho : o < 4) (hso : s ≠ o) (hsz : sz ≤ 40) {v0 : VS} (hp : p < sN v0) (hok : ∀ i, i < sz → celOk (sN v0) (cs i)) : ∀ (r q k : Nat) (m : ST), CM S n m (runS S cs (min k sz) v0) → KP m v0 → ga 50 15 m s = nI sz → (∀ i, i < sz → ga 50 16 m (40 * s + i) = cs i) → (∀ i, i < k → i < sz → ga 50 16 m (40 * o + i) = fiW S cs p v0 i) → k + r = 40 → r < q →
    ∃ m', f_X5_film_L69 q (nI s) (nI o) (nI p) (nI k) m = some (nI sz, m') ∧ CM S n m' v0 ∧ (∀ i, i < sz → ga 50 16 m' (40 * o + i) = fiW S cs p v0 i) ∧ (∀ j, ¬ (40 * o ≤ j ∧ j < 40 * o + 40) → ga 50 16 m' j = ga 50 16 m j) ∧ fr pFi m m' := by
  intro r
  induction r with
  | zero =>
    intro q k m h hK h15 hc hf hk hq
    obtain ⟨q, rfl⟩ : ∃ z, q = z + 1 := ⟨q - 1, by omega⟩
    rw [f_X5_film_L69, if_pos (c := (40 : Int32) ≤ nI k) (nI_le (a := 40) (by omega) (by omega))]
    unfold f_X5_film_L152
    obtain ⟨m', e, c, f⟩ := m_lays h hK (sX_run S cs _ v0)
    rw [e, bnd_some, ald_nI (by omega) (by omega), f.ga (by unfold pPass; decide), h15]
    refine ⟨m', rfl, c, fun i hi => ?_, fun j hj => ?_, f.mono pPass_fi⟩
    · rw [f.ga (by unfold pPass; decide)]
      exact hf i (by omega) hi
    · rw [f.ga (by unfold pPass; decide)]
  | succ r ih =>
    intro q k m h hK h15 hc hf hk hq
    obtain ⟨q, rfl⟩ : ∃ z, q = z + 1 := ⟨q - 1, by omega⟩
    rw [f_X5_film_L69, if_neg (c := (40 : Int32) ≤ nI k) (nI_ge (b := 40) (by omega) (by omega)), iS, ast_nI (by omega) (by omega)]
    have w1 : ∀ j, ga 50 16 (pa 50 16 (upd (ga 50 16 m) (40 * o + k) 0) m) j = if j = 40 * o + k then 0 else ga 50 16 m j := fun j => rfl
    have f1 := fr_pa pC16 (upd (ga 50 16 m) (40 * o + k) 0) m
    generalize pa 50 16 (upd (ga 50 16 m) (40 * o + k) 0) m = A1 at w1 f1 ⊢
    have c1 := h.cl f1
    have K1 := hK.fr f1 (by unfold pCl; decide)
    have e15 : ga 50 15 A1 s = nI sz := by rw [f1.ga (by unfold pCl; decide)]; exact h15
    have hc1 : ∀ i, i < sz → ga 50 16 A1 (40 * s + i) = cs i := fun i hi => by
      rw [w1, if_neg (by omega)]
      exact hc i hi
    unfold f_X5_film_L146
    rw [ald_nI (by omega) (by omega), e15, nI_1]
    by_cases hks : sz ≤ k
    · rw [if_pos (nI_le hks (by omega))]
      obtain ⟨m', g1, g2, g3, g4, g5⟩ := ih q (k + 1) A1 (by rw [Nat.min_eq_right (by omega)]; rw [Nat.min_eq_right (by omega)] at c1; exact c1) K1 e15 hc1 (fun i h1 h2 => by
        rw [w1, if_neg (by omega)]
        exact hf i (by omega) h2) (by omega) (by omega)
      exact ⟨m', g1, g2, g3, fun j hj => by rw [g4 j hj, w1, if_neg (by omega)], (f1.mono (fun o k h => ⟨h.1, by have := h.2; omega⟩)).trans g5⟩
    · rw [if_neg (nI_ge (by omega) (by omega)), iS, ald_nI (by omega) (by omega), hc1 k (by omega)]
      rw [Nat.min_eq_left (by omega)] at c1
      have hN := sX_N (sX_run S cs k v0)
      obtain ⟨m1, m2, y, g1, g2, g3, g4, g5⟩ := m_min c1 (x := cs k) (by rw [hN]; exact hok k (by omega))
      have h6 := c1.2.1
      have er : minS1 S (cs k) (runS S cs k v0) = runS S cs (k + 1) v0 := by
        unfold runS
        rw [fold_succ, Nat.zero_add]
      rw [er] at g4
      rw [g1, bnd_some, g2, bnd_some, iM8, ald_nI (by omega) (by omega), g4.1.row (by omega), ast_nI (by omega) (by omega)]
      have w2 : ∀ j, ga 50 16 (pa 50 16 (upd (ga 50 16 m2) (40 * o + k) (sR (runS S cs (k + 1) v0) (12 * p + 8))) m2) j = if j = 40 * o + k then fiW S cs p v0 k else ga 50 16 m2 j := fun j => rfl
      have f2 := fr_pa pC16 (upd (ga 50 16 m2) (40 * o + k) (sR (runS S cs (k + 1) v0) (12 * p + 8))) m2
      generalize pa 50 16 (upd (ga 50 16 m2) (40 * o + k) (sR (runS S cs (k + 1) v0) (12 * p + 8))) m2 = A2 at w2 f2 ⊢
      have e2 : ga 50 16 m2 = ga 50 16 A1 := g5.ga (by unfold pRun; decide)
      have fa : fr pFi m A2 := ((f1.mono (fun o k h => ⟨h.1, by have := h.2; omega⟩)).trans (g5.mono pRun_fi)).trans (f2.mono (fun o k h => ⟨h.1, by have := h.2; omega⟩))
      obtain ⟨m', l1, l2, l3, l4, l5⟩ := ih q (k + 1) A2 (by rw [Nat.min_eq_left (by omega)]; exact g4.cl f2) ((K1.fr g5 (by unfold pRun; decide)).fr f2 (by unfold pCl; decide)) (by
        rw [f2.ga (by unfold pCl; decide), g5.ga (by unfold pRun; decide)]; exact e15) (fun i hi => by
        rw [w2, if_neg (by omega), e2]
        exact hc1 i hi) (fun i h1 h2 => by
        rw [w2]
        by_cases hik : i = k
        · rw [if_pos (by omega), hik]
        · rw [if_neg (by omega), e2, w1, if_neg (by omega)]
          exact hf i (by omega) h2) (by omega) (by omega)
      exact ⟨m', l1, l2, l3, fun j hj => by rw [l4 j hj, w2, if_neg (by omega), e2, w1, if_neg (by omega)], fa.trans l5⟩
/-! a fraction in its lowest terms -/
theorem lg_cmp_0 {a : Nat} (ha : a < 2147483648) : lg_cmp (lN a) 0 = 0 ↔ a = 0 := by
  unfold lg_cmp
  have e0 : (0 : Int64) = lN 0 := rfl
  rw [e0]
  by_cases h : a = 0
  · subst h
    simp [gt_iff_lt, lN_lt]
  · rw [if_pos (show lN a > lN 0 from (lN_lt (by omega) (by omega)).mpr (by omega))]
    exact ⟨fun z => absurd z (by decide), fun z => absurd z h⟩
theorem lN_ne0 {a : Nat} (ha : a < 2147483648) (h : a ≠ 0) : ¬ lN a = 0 := fun e => h ((lN_eq ha (by decide)).mp (show lN a = lN 0 from e))
def lowS (a b : Nat) (w : Int32) : Int64 := lN ((if w = 0 then a else b) / Nat.gcd a b)
theorem m_lowest_L (x y : Int64) (w : Int32) (σ : ST) : ∀ (b q a : Nat), b < q → a < 2147483648 → b < 2147483648 → f_X5_lowest_L16 q x y w (lN a) (lN b) σ = f_X5_lowest_L41 x y w (lN (Nat.gcd a b)) σ := by
  intro b
  induction b using Nat.strongRecOn with
  | ind b ih =>
    intro q a hq ha hb
    obtain ⟨q, rfl⟩ : ∃ z, q = z + 1 := ⟨q - 1, by omega⟩
    rw [f_X5_lowest_L16]
    by_cases h : b = 0
    · rw [if_pos ((lg_cmp_0 hb).mpr h), h, Nat.gcd_zero_right]
    · rw [if_neg (fun z => h ((lg_cmp_0 hb).mp z)), pk_lRem (by omega) (by omega) (by omega)]
      unfold ldv
      have hlt : a % b < b := Nat.mod_lt a (by omega)
      rw [if_neg (lN_ne0 hb h), ih (a % b) hlt q b (by omega) hb (by omega)]
      congr 2
      rw [Nat.gcd_comm a b, Nat.gcd_rec b a, Nat.gcd_comm]
theorem m_lowest {a b : Nat} {w : Int32} (ha : a ≤ 900) (hb : b ≤ 900) (h0 : 0 < b) (hw : w = 0 ∨ w = 1) (σ : ST) : f_X5_lowest (lN a) (lN b) w σ = some (lowS a b w, σ) := by
  unfold f_X5_lowest lowS
  by_cases h : a = 0
  · subst h
    rw [if_pos ((lg_cmp_0 (by omega)).mpr rfl)]
    rcases hw with rfl | rfl
    · rw [if_pos rfl, Nat.zero_div]
      rfl
    · rw [if_neg one_ne0, Nat.gcd_zero_left, Nat.div_self h0]
      rfl
  · rw [if_neg (fun z => h ((lg_cmp_0 (by omega)).mp z)), m_lowest_L _ _ _ _ b 1000 a (by omega) (by omega) (by omega)]
    have hg : 0 < Nat.gcd a b := Nat.gcd_pos_of_pos_right a h0
    have hg2 : Nat.gcd a b ≤ b := Nat.gcd_le_right a h0
    unfold f_X5_lowest_L41 f_X5_lowest_L51 ldv
    rw [if_neg (lN_ne0 (by omega) (by omega)), if_neg (lN_ne0 (by omega) (by omega)), pk_lDiv (by omega) hg (by omega), pk_lDiv (by omega) hg (by omega)]
    split <;> rfl
/-! one's kind, one's more, the rule, otherwise -/
def wK (p : Nat) (x : Int32) (v : VS) : VS := (v.1, upd v.2.1 p x, v.2.2)
def wO (p : Nat) (x : Int32) (v : VS) : VS := (v.1, v.2.1, upd v.2.2.1 p x, v.2.2.2)
def wL (t : Nat) (v : VS) : VS := (v.1, v.2.1, v.2.2.1, v.2.2.2.1, v.2.2.2.2.1, t)
theorem CM.wK (h : CM S n m v) (p : Nat) (x : Int32) : CM S n (pa 50 1 (upd (ga 50 1 m) p x) m) (wK p x v) := by
  refine h.fr4 ⟨h.1.1, h.1.2.1, h.1.2.2.1, h.1.2.2.2.1, fun j hj => ⟨?_, (h.1.2.2.2.2 j hj).2⟩⟩ rfl rfl (fr_pa (P := fun o k => o = 50 ∧ k = 1) ⟨rfl, rfl⟩ _ _) (by decide) (by decide)
  show upd (ga 50 1 m) p x j = upd (sK v) p x j
  rw [upd_at, upd_at, (h.1.2.2.2.2 j hj).1]
theorem CM.wO (h : CM S n m v) (p : Nat) (x : Int32) : CM S n (pa 50 2 (upd (ga 50 2 m) p x) m) (wO p x v) := by
  refine h.fr4 ⟨h.1.1, h.1.2.1, h.1.2.2.1, h.1.2.2.2.1, fun j hj => ⟨(h.1.2.2.2.2 j hj).1, ?_⟩⟩ rfl rfl (fr_pa (P := fun o k => o = 50 ∧ k = 2) ⟨rfl, rfl⟩ _ _) (by decide) (by decide)
  show upd (ga 50 2 m) p x j = upd (sO v) p x j
  rw [upd_at, upd_at, (h.1.2.2.2.2 j hj).2]
theorem CM.wL (h : CM S n m v) {t : Nat} (ht : t < n) : CM S n (ps 50 10 (nI t) m) (wL t v) :=
  ⟨⟨h.1.1, h.1.2.1, rfl, h.1.2.2.2.1, h.1.2.2.2.2⟩, h.2.1, ht, h.2.2.2.1, h.2.2.2.2⟩
def pKi (o k : Nat) : Prop := o = 50 ∧ (k = 1 ∨ k = 2 ∨ k = 3 ∨ k = 4 ∨ k = 27 ∨ k = 28 ∨ k = 29)
theorem pUn_ki (o k : Nat) (h : pUn o k) : pKi o k := ⟨h.1, by have := h.2; omega⟩
theorem pK1 : pKi 50 1 := ⟨rfl, by decide⟩
theorem pK2 : pKi 50 2 := ⟨rfl, by decide⟩
/-- what the k-th of the kinds (of the mores) is tried on -/
def kiV (w : Int32) (p k : Nat) (v : VS) : VS := if w = 0 then wK p (nI k) v else wO p (nI k) v
noncomputable def bitS (x : Int32) (k : Nat) (a : Int32) : Int32 := if x = -1 then a ||| (1 <<< (nI k &&& 31)) else a
noncomputable def kiS (S : LW) (cs ct : Nat → Int32) (z p : Nat) (w : Int32) (v : VS) : Int32 := fold (fun k a => bitS (unS S cs ct p z 0 (kiV w p k v)) k a) (if w = 0 then 6 else 10) 0 0
theorem m_kinds_L {s o p : Nat} (hs4 : s < 4) (ho : o < 4) (hp : p < sN v) (hle : hs.2.1 o ≤ hs.2.1 s) (hok : ∀ i, i < hs.2.1 s → celOk (sN v) (hs.2.2 s i)) {w : Int32} (hw : w = 0 ∨ w = 1) : ∀ (r q k : Nat) (m : ST) (a a1 b1 : Int32), CM S n m (wO p b1 (wK p a1 v)) → HM m hs → k + r = (if w = 0 then 6 else 10) → r < q → ∃ m', f_X5_kinds_L52 q (nI s) (nI o) (nI p) w (sK v p) (sO v p) a (nI k) m = some (fold (fun k a => bitS (unS S (hs.2.2 s) (hs.2.2 o) p (hs.2.1 o) 0 (kiV w p k v)) k a) r k a, m') ∧ CM S n m' v ∧ fr pKi m m' := by
  intro r
  induction r with
  | zero =>
    intro q k m a a1 b1 h hh hk hq
    obtain ⟨q, rfl⟩ : ∃ z, q = z + 1 := ⟨q - 1, by omega⟩
    have h6 : sN v ≤ 6 := h.2.1
    have fin : ∃ m', f_X5_kinds_L136 (nI p) (sK v p) (sO v p) a m = some (a, m') ∧ CM S n m' v ∧ fr pKi m m' := by
      unfold f_X5_kinds_L136
      rw [ast_nI (by omega) (by omega), ast_nI (by omega) (by omega)]
      refine ⟨_, rfl, ?_, (fr_pa pK1 _ _).trans (fr_pa pK2 _ _)⟩
      have z := (h.wK p (sK v p)).wO p (sO v p)
      have e : wO p (sO v p) (wK p (sK v p) (wO p b1 (wK p a1 v))) = v := by
        show (v.1, upd (upd v.2.1 p a1) p (v.2.1 p), upd (upd v.2.2.1 p b1) p (v.2.2.1 p), v.2.2.2) = v
        rw [fa_upd_twice, fa_upd_twice, fa_upd_same rfl, fa_upd_same rfl]
      rw [e] at z
      exact z
    rw [f_X5_kinds_L52]
    unfold f_X5_kinds_L66
    rcases hw with rfl | rfl
    · rw [if_pos rfl] at hk
      rw [if_pos rfl, if_pos (c := (6 : Int32) ≤ nI k) (nI_le (a := 6) (by omega) (by omega))]
      exact fin
    · rw [if_neg one_ne0] at hk
      rw [if_neg one_ne0, if_pos (c := (10 : Int32) ≤ nI k) (nI_le (a := 10) (by omega) (by omega))]
      exact fin
  | succ r ih =>
    intro q k m a a1 b1 h hh hk hq
    obtain ⟨q, rfl⟩ : ∃ z, q = z + 1 := ⟨q - 1, by omega⟩
    have h6 : sN v ≤ 6 := h.2.1
    have fin : ∀ (a2 b2 : Int32), wO p b2 (wK p a2 v) = kiV w p k v → ∀ A : ST, CM S n A (wO p b1 (wK p a2 v)) → HM A hs → fr pKi m A → ∃ m', ast 50 2 6 (nI p) b2 A (fun t105 => bnd (f_X5_unlike (nI s) (nI o) (nI p) t105) (fun y112 t112 => if y112 = -1 then f_X5_kinds_L52 q (nI s) (nI o) (nI p) w (sK v p) (sO v p) (a ||| (1 <<< (nI k &&& 31))) (nI k + 1) t112 else f_X5_kinds_L52 q (nI s) (nI o) (nI p) w (sK v p) (sO v p) (a ||| 0) (nI k + 1) t112)) = some (fold (fun k a => bitS (unS S (hs.2.2 s) (hs.2.2 o) p (hs.2.1 o) 0 (kiV w p k v)) k a) (r + 1) k a, m') ∧ CM S n m' v ∧ fr pKi m m' := by
      intro a2 b2 hv A hA hhA fA
      rw [ast_nI (by omega) (by omega)]
      have c1 := hA.wO p b2
      have e1 : wO p b2 (wO p b1 (wK p a2 v)) = kiV w p k v := by
        rw [← hv]
        show (v.1, upd v.2.1 p a2, upd (upd v.2.2.1 p b1) p b2, v.2.2.2) = (v.1, upd v.2.1 p a2, upd v.2.2.1 p b2, v.2.2.2)
        rw [fa_upd_twice]
      rw [e1] at c1
      have f1 := fr_pa pK2 (upd (ga 50 2 A) p b2) A
      have hh1 := hhA.fr f1 (by unfold pKi; decide)
      generalize pa 50 2 (upd (ga 50 2 A) p b2) A = B at c1 f1 hh1 ⊢
      have hN : sN (kiV w p k v) = sN v := by unfold kiV; split <;> rfl
      obtain ⟨m1, g1, g2, g3⟩ := m_unlike c1 hh1 hs4 ho (by rw [hN]; exact hp) hle (by rw [hN]; exact hok)
      rw [g1, bnd_some, or_0, nI_1, fold]
      have c2 : CM S n m1 (wO p b2 (wK p a2 v)) := by rw [hv]; exact g2
      have fa : fr pKi m m1 := (fA.trans f1).trans (g3.mono pUn_ki)
      unfold bitS
      by_cases hu : unS S (hs.2.2 s) (hs.2.2 o) p (hs.2.1 o) 0 (kiV w p k v) = -1
      · rw [if_pos hu, if_pos hu]
        obtain ⟨m', l1, l2, l3⟩ := ih q (k + 1) m1 (a ||| (1 <<< (nI k &&& 31))) a2 b2 c2 (hh1.fr g3 (by unfold pUn; decide)) (by omega) (by omega)
        exact ⟨m', l1, l2, fa.trans l3⟩
      · rw [if_neg hu, if_neg hu]
        obtain ⟨m', l1, l2, l3⟩ := ih q (k + 1) m1 a a2 b2 c2 (hh1.fr g3 (by unfold pUn; decide)) (by omega) (by omega)
        exact ⟨m', l1, l2, fa.trans l3⟩
    rw [f_X5_kinds_L52]
    unfold f_X5_kinds_L66 f_X5_kinds_L86 f_X5_kinds_L105 f_X5_kinds_L127
    have wk : ∀ x : Int32, CM S n (pa 50 1 (upd (ga 50 1 m) p x) m) (wO p b1 (wK p x v)) := fun x => by
      have z := h.wK p x
      have e : wK p x (wO p b1 (wK p a1 v)) = wO p b1 (wK p x v) := by
        show (v.1, upd (upd v.2.1 p a1) p x, upd v.2.2.1 p b1, v.2.2.2) = (v.1, upd v.2.1 p x, upd v.2.2.1 p b1, v.2.2.2)
        rw [fa_upd_twice]
      rw [e] at z
      exact z
    rcases hw with rfl | rfl
    · rw [if_pos rfl] at hk
      rw [if_pos rfl, if_neg (c := (6 : Int32) ≤ nI k) (nI_ge (b := 6) (by omega) (by omega)), if_pos rfl, ast_nI (by omega) (by omega), if_neg (by decide)]
      refine fin (nI k) (sO v p) ?_ _ (wk (nI k)) (hh.fr (fr_pa (P := pKi) pK1 _ _) (by unfold pKi; decide)) (fr_pa pK1 _ _)
      unfold kiV
      rw [if_pos rfl]
      show (v.1, upd v.2.1 p (nI k), upd v.2.2.1 p (v.2.2.1 p), v.2.2.2) = _
      rw [fa_upd_same rfl]
      rfl
    · rw [if_neg one_ne0] at hk
      rw [if_neg one_ne0, if_neg (c := (10 : Int32) ≤ nI k) (nI_ge (b := 10) (by omega) (by omega)), if_neg one_ne0, ast_nI (by omega) (by omega), if_pos rfl]
      refine fin (sK v p) (nI k) ?_ _ (wk (sK v p)) (hh.fr (fr_pa (P := pKi) pK1 _ _) (by unfold pKi; decide)) (fr_pa pK1 _ _)
      unfold kiV
      rw [if_neg one_ne0]
      show (v.1, upd v.2.1 p (v.2.1 p), upd v.2.2.1 p (nI k), v.2.2.2) = _
      rw [fa_upd_same rfl]
      rfl
end PM8
