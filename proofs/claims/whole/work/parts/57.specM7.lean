section PM7
variable {S : LW} {n : Nat} {m : ST} {v : VS} {hs : HS}
/-! lots -/
def lA (a : Nat) : Nat := a * 48271 % 2147483647
theorem lA_lt (a : Nat) : lA a < 2147483647 := Nat.mod_lt _ (by decide)
noncomputable def loS (S : LW) : Nat → Nat → Int32 × VS → Int32 × VS
  | 0, _, x => x
  | r + 1, a, x => if lA a % 6 < sN x.2 then loS S r (lA (lA a)) (x.1 + (tryS S (nI (10 * (lA a % 6) + lA (lA a) % 8)) x.2).1, minS1 S (nI (10 * (lA a % 6) + lA (lA a) % 8)) x.2) else loS S r (lA (lA a)) (x.1, (passS x.2).2)
theorem lot_e {a : Nat} (ha : a < 2147483648) : lN a * 48271 - lN a * 48271 / 2147483647 * 2147483647 = lN (lA a) := by
  show lN a * lN 48271 - lN a * lN 48271 / lN 2147483647 * lN 2147483647 = lN (lA a)
  rw [lN_mul]
  exact pk_lRem (by omega) (by omega) (by omega)
theorem lot_6 {a : Nat} (ha : a < 2147483648) : (lN a - lN a / 6 * 6).toInt32 = nI (a % 6) := by
  have e : lN a - lN a / lN 6 * lN 6 = lN (a % 6) := pk_lRem (by omega) (by omega) (by omega)
  show (lN a - lN a / lN 6 * lN 6).toInt32 = _
  rw [e, lN_i]
theorem lot_8 {a : Nat} (ha : a < 2147483648) : (lN a - lN a / 8 * 8).toInt32 = nI (a % 8) := by
  have e : lN a - lN a / lN 8 * lN 8 = lN (a % 8) := pk_lRem (by omega) (by omega) (by omega)
  show (lN a - lN a / lN 8 * lN 8).toInt32 = _
  rw [e, lN_i]
theorem iT (p t : Nat) : (10 : Int32) * nI p + nI t = nI (10 * p + t) := by
  show nI 10 * nI p + nI t = _
  rw [nI_mul, nI_add]
def pLot (o k : Nat) : Prop := o = 50 ∧ (k = 3 ∨ k = 4 ∨ k = 27 ∨ k = 28 ∨ k = 29 ∨ k = 32)
theorem pRun_lot (o k : Nat) (h : pRun o k) : pLot o k := ⟨h.1, by have := h.2; omega⟩
theorem pPass_lot (o k : Nat) (h : pPass o k) : pLot o k := ⟨h.1, by have := h.2; omega⟩
theorem pTake_lot (o k : Nat) (h : pTake o k) : pLot o k := ⟨h.1, by have := h.2; omega⟩
theorem pKeep_lot (o k : Nat) (h : pKeep o k) : pLot o k := ⟨h.1, by have := h.2; omega⟩
theorem pL32 : pLot 50 32 := ⟨rfl, by decide⟩
theorem CM.ps32 (h : CM S n m v) (x : Int32) : CM S n (ps 50 32 x m) v := ⟨h.1, h.2⟩
theorem m_lot_L {v0 : VS} {N : Nat} (hN : N ≤ 60) : ∀ (r q k a : Nat) (m : ST) (x : Int32 × VS), CM S n m x.2 → KP m v0 → sX x.2 = sX v0 → gs 50 32 m = x.1 → k + r = N → a < 2147483648 → r < q → ∃ m', f_X5_lotEvening_L17 q (nI N) (lN a) (nI k) m = some (witS (loS S r a x).2, m') ∧ CM S n m' v0 ∧ gs 50 32 m' = (loS S r a x).1 ∧ fr pLot m m' := by
  intro r
  induction r with
  | zero =>
    intro q k a m x h hK hX h32 hk ha hq
    obtain ⟨q, rfl⟩ : ∃ z, q = z + 1 := ⟨q - 1, by omega⟩
    rw [f_X5_lotEvening_L17, if_pos (nI_le (by omega) (by omega))]
    unfold f_X5_lotEvening_L108
    obtain ⟨m', e, c, f⟩ := m_lays h hK hX
    rw [m_witAll h, bnd_some, e, bnd_some]
    exact ⟨m', rfl, c, (f.gs (by unfold pPass; decide)).trans h32, f.mono pPass_lot⟩
  | succ r ih =>
    intro q k a m x h hK hX h32 hk ha hq
    obtain ⟨q, rfl⟩ : ∃ z, q = z + 1 := ⟨q - 1, by omega⟩
    have h6 := h.2.1
    have a1 := lA_lt a
    have a2 := lA_lt (lA a)
    rw [f_X5_lotEvening_L17, if_neg (nI_ge (by omega) (by omega)), lot_e ha, lot_e (by omega), lot_6 (by omega), lot_8 (by omega), h.1.1, iT]
    unfold f_X5_lotEvening_L93 f_X5_lotEvening_L97 loS
    by_cases hp : lA a % 6 < sN x.2
    · rw [if_neg (nI_ge hp (by omega)), if_pos hp]
      have ok : celOk (sN x.2) (nI (10 * (lA a % 6) + lA (lA a) % 8)) := Or.inr ⟨_, _, hp, by omega, rfl⟩
      generalize nI (10 * (lA a % 6) + lA (lA a) % 8) = two at ok ⊢
      obtain ⟨m1, g1, g2, g3⟩ := m_takesOne h ok
      have e32 : gs 50 32 m1 = gs 50 32 m := g3.gs (by unfold pTake; decide)
      rw [g1, bnd_some]
      have hb := tryS_bool S two x.2
      generalize (tryS S two x.2).1 = y at hb ⊢
      have key : ∃ m', put 50 32 (gs 50 32 m + y) m1 (fun t94 => bnd (f_X5_minuteOf t94) (fun _ t98 => f_X5_lotEvening_L17 q (nI N) (lN (lA (lA a))) (nI k + 1) t98)) = some (witS (loS S r (lA (lA a)) (x.1 + y, minS1 S two x.2)).2, m') ∧ CM S n m' v0 ∧ gs 50 32 m' = (loS S r (lA (lA a)) (x.1 + y, minS1 S two x.2)).1 ∧ fr pLot m m' := by
        rw [put_eq]
        obtain ⟨m2, k1, k2, k3⟩ := m_minuteOf (g2.ps32 (gs 50 32 m + y))
        rw [k1, bnd_some, nI_1]
        have fa : fr pLot m m2 := ((g3.mono pTake_lot).trans (fr_ps pL32 _ _)).trans (k3.mono pPass_lot)
        have hK2 : KP m2 v0 := ((hK.fr g3 (by unfold pTake; decide)).fr (fr_ps (P := fun o k => o = 50 ∧ k = 32) ⟨rfl, rfl⟩ (gs 50 32 m + y) m1) (by decide)).fr k3 (by unfold pPass; decide)
        obtain ⟨m', l1, l2, l3, l4⟩ := ih q (k + 1) (lA (lA a)) m2 (x.1 + y, minS1 S two x.2) k2 hK2 ((sX_min S two x.2).trans hX) (by
          rw [k3.gs (by unfold pPass; decide), gs_ps, if_pos ⟨rfl, rfl⟩, h32]) (by omega) (by omega) (by omega)
        exact ⟨m', l1, l2, l3, fa.trans l4⟩
      rcases hb with hb | hb
      · subst hb
        rw [if_pos rfl]
        exact key
      · subst hb
        rw [if_neg one_ne0]
        exact key
    · rw [if_pos (nI_le (by omega) (by omega)), if_neg hp]
      obtain ⟨m2, k1, k2, k3⟩ := m_minuteOf h
      rw [k1, bnd_some, nI_1]
      obtain ⟨m', l1, l2, l3, l4⟩ := ih q (k + 1) (lA (lA a)) m2 (x.1, (passS x.2).2) k2 (hK.fr k3 (by unfold pPass; decide)) ((sX_pass x.2).trans hX) ((k3.gs (by unfold pPass; decide)).trans h32) (by omega) (by omega) (by omega)
      exact ⟨m', l1, l2, l3, (k3.mono pPass_lot).trans l4⟩
theorem m_lotEvening (h : CM S n m v) {seed N : Nat} (hseed : seed < 2147483647) (hN : N ≤ 60) : ∃ m', f_X5_lotEvening (nI seed) (nI N) m = some (witS (loS S N (seed + 1) (0, v)).2, m') ∧ CM S n m' v ∧ gs 50 32 m' = (loS S N (seed + 1) (0, v)).1 ∧ fr pLot m m' := by
  unfold f_X5_lotEvening
  rw [put_eq, nI_l (by omega), lN_1]
  obtain ⟨m1, e1, c1, k1, f1⟩ := m_keeps (h.ps32 0)
  rw [e1, bnd_some]
  obtain ⟨m', l1, l2, l3, l4⟩ := m_lot_L hN N 1000 0 (seed + 1) m1 (0, v) c1 k1 rfl ((f1.gs (by unfold pKeep; decide)).trans rfl) (by omega) (by omega) (by omega)
  exact ⟨m', l1, l2, l3, ((fr_ps pL32 0 m).trans (f1.mono pKeep_lot)).trans l4⟩
/-! which pinch is best -/
noncomputable def whS1 (S : LW) (v : VS) (p t : Nat) (a : Int32 × Int32) : Int32 × Int32 :=
  if sR v (12 * p + 10) = -1 ∧ 0 < sR v (12 * p + t) then (if a.1 = -1 ∨ a.2 < wiS (sR v (12 * p + 8) + gaS S v p t) 0 99 then (nI t, wiS (sR v (12 * p + 8) + gaS S v p t) 0 99) else a) else a
theorem m_which_L {p : Nat} (hp : p < sN v) (w : Int32) : ∀ (r q k : Nat) (m : ST) (a : Int32 × Int32), CM S n m v → k + r = 8 → r < q → ∃ m', f_X5_which_L42 q (nI p) w a.1 a.2 (nI k) m = some (if w = 0 then (fold (whS1 S v p) r k a).1 else (fold (whS1 S v p) r k a).2, m') ∧ fr pSay m m' := by
  intro r
  induction r with
  | zero =>
    intro q k m a h hk hq
    obtain ⟨q, rfl⟩ : ∃ z, q = z + 1 := ⟨q - 1, by omega⟩
    rw [f_X5_which_L42, if_pos (c := (8 : Int32) ≤ nI k) (nI_le (a := 8) (by omega) (by omega))]
    refine ⟨m, ?_, fr.refl m⟩
    unfold f_X5_which_L138 f_X5_which_L148
    split <;> rfl
  | succ r ih =>
    intro q k m a h hk hq
    obtain ⟨q, rfl⟩ : ∃ z, q = z + 1 := ⟨q - 1, by omega⟩
    have h6 := h.2.1
    rw [f_X5_which_L42, if_neg (c := (8 : Int32) ≤ nI k) (nI_ge (b := 8) (by omega) (by omega)), fold]
    unfold f_X5_which_L99 f_X5_which_L104 f_X5_which_L117 f_X5_which_L130 f_X5_which_L132
    simp only [nI_1, one_ne0, reduceIte]
    by_cases hc : canS v p k
    · rw [m_can_yes h.1 (by omega) (by omega) hc, bnd_some, if_neg one_ne0, iM8, ald_nI (by omega) (by omega), h.1.row (by omega)]
      obtain ⟨m1, e1, f1⟩ := m_gainsOf h hp (t := k) (by omega)
      rw [e1, bnd_some, m_within, bnd_some]
      by_cases hb : a.1 = -1
      · rw [if_pos hb]
        have e : whS1 S v p k a = (nI k, wiS (sR v (12 * p + 8) + gaS S v p k) 0 99) := by
          have hc' : sR v (12 * p + 10) = -1 ∧ 0 < sR v (12 * p + k) := hc
          unfold whS1
          rw [if_pos hc', if_pos (Or.inl hb)]
        rw [e]
        obtain ⟨m', g1, g2⟩ := ih q (k + 1) m1 (nI k, wiS (sR v (12 * p + 8) + gaS S v p k) 0 99) (h.say f1) (by omega) (by omega)
        exact ⟨m', g1, f1.trans g2⟩
      · rw [if_neg hb]
        by_cases hl : wiS (sR v (12 * p + 8) + gaS S v p k) 0 99 ≤ a.2
        · rw [if_pos hl]
          have e : whS1 S v p k a = a := by
            have hc' : sR v (12 * p + 10) = -1 ∧ 0 < sR v (12 * p + k) := hc
            unfold whS1
            rw [if_pos hc', if_neg (fun z => z.elim hb (fun y => Int32.not_lt.mpr hl y))]
          rw [e]
          obtain ⟨m', g1, g2⟩ := ih q (k + 1) m1 a (h.say f1) (by omega) (by omega)
          exact ⟨m', g1, f1.trans g2⟩
        · rw [if_neg hl]
          have e : whS1 S v p k a = (nI k, wiS (sR v (12 * p + 8) + gaS S v p k) 0 99) := by
            have hc' : sR v (12 * p + 10) = -1 ∧ 0 < sR v (12 * p + k) := hc
            unfold whS1
            rw [if_pos hc', if_pos (Or.inr (Int32.not_le.mp hl))]
          rw [e]
          obtain ⟨m', g1, g2⟩ := ih q (k + 1) m1 (nI k, wiS (sR v (12 * p + 8) + gaS S v p k) 0 99) (h.say f1) (by omega) (by omega)
          exact ⟨m', g1, f1.trans g2⟩
    · rw [m_can_no h.1 (by omega) (by omega) hc, bnd_some, if_pos rfl]
      have e : whS1 S v p k a = a := if_neg hc
      rw [e]
      exact ih q (k + 1) m a h (by omega) (by omega)
/-! the tour -/
/-- the first sort from k on that isn't of one's sand, 8: none -/
def fuS (v : VS) (p : Nat) : Nat → Nat → Nat
  | 0, k => k
  | r + 1, k => if (sR v (12 * p + 9) >>> (nI k &&& 31)) &&& 1 = 0 then k else fuS v p r (k + 1)
theorem fuS_le (v : VS) (p : Nat) : ∀ r k, fuS v p r k ≤ k + r := by
  intro r
  induction r with
  | zero => intro k; exact Nat.le_refl _
  | succ r ih =>
    intro k
    rw [fuS]
    split
    · omega
    · have := ih (k + 1); omega
theorem m_firstUnseen_L {p : Nat} (hp : p < 6) (h : RM m v) : ∀ (r q k : Nat), k + r = 8 → r < q → f_X5_firstUnseen_L2 q (nI p) (nI k) m = some (if fuS v p r k = 8 then -1 else nI (fuS v p r k), m) := by
  intro r
  induction r with
  | zero =>
    intro q k hk hq
    obtain ⟨q, rfl⟩ : ∃ z, q = z + 1 := ⟨q - 1, by omega⟩
    rw [f_X5_firstUnseen_L2, if_pos (c := (8 : Int32) ≤ nI k) (nI_le (a := 8) (by omega) (by omega)), fuS, if_pos (by omega)]
  | succ r ih =>
    intro q k hk hq
    obtain ⟨q, rfl⟩ : ∃ z, q = z + 1 := ⟨q - 1, by omega⟩
    rw [f_X5_firstUnseen_L2, if_neg (c := (8 : Int32) ≤ nI k) (nI_ge (b := 8) (by omega) (by omega)), fuS, nI_1]
    by_cases hc : (sR v (12 * p + 9) >>> (nI k &&& 31)) &&& 1 = 0
    · rw [m_hasSand_no h hp hc, bnd_some, if_pos rfl, if_pos hc, if_neg (by omega)]
    · rw [m_hasSand_yes h hp hc, bnd_some, if_neg one_ne0, if_neg hc]
      exact ih q (k + 1) (by omega) (by omega)
theorem m_firstUnseen {p : Nat} (hp : p < 6) (h : RM m v) : f_X5_firstUnseen (nI p) m = some (if fuS v p 8 0 = 8 then -1 else nI (fuS v p 8 0), m) := m_firstUnseen_L hp h 8 1000 0 (by omega) (by omega)
noncomputable def toS (S : LW) (p : Nat) : Nat → Nat → VS → Int32
  | 0, _, _ => -1
  | r + 1, k, v => if sR v (12 * p + 10) = -1 then (if fuS v p 8 0 = 8 then nI k else if 0 < sR v (12 * p + fuS v p 8 0) then toS S p r (k + 1) (passS (takeS S v p (fuS v p 8 0))).2 else -1) else toS S p r (k + 1) (passS v).2
theorem m_tourOf_L {p : Nat} : ∀ (r q k : Nat) (m : ST) (v : VS), CM S n m v → p < sN v → k + r = 201 → r < q → ∃ m' v', f_X5_tourOf_L2 q (nI p) (nI k) m = some (toS S p r k v, m') ∧ CM S n m' v' ∧ sX v' = sX v ∧ fr pRun m m' := by
  intro r
  induction r with
  | zero =>
    intro q k m v h hp hk hq
    obtain ⟨q, rfl⟩ : ∃ z, q = z + 1 := ⟨q - 1, by omega⟩
    rw [f_X5_tourOf_L2, if_pos (c := (200 : Int32) < nI k) (nI_lt (a := 200) (by omega) (by omega))]
    exact ⟨m, v, rfl, h, rfl, fr.refl m⟩
  | succ r ih =>
    intro q k m v h hp hk hq
    obtain ⟨q, rfl⟩ : ∃ z, q = z + 1 := ⟨q - 1, by omega⟩
    have h6 := h.2.1
    rw [f_X5_tourOf_L2, if_neg (c := (200 : Int32) < nI k) (nI_nlt (b := k) (a := 200) (by omega) (by omega)), toS]
    unfold f_X5_tourOf_L47
    have go : ∀ (m1 : ST) (v1 : VS), CM S n m1 v1 → sX v1 = sX v → fr pRun m m1 → ∃ m' v', bnd (f_X5_minuteOf m1) (fun _ t48 => f_X5_tourOf_L2 q (nI p) (nI k + 1) t48) = some (toS S p r (k + 1) (passS v1).2, m') ∧ CM S n m' v' ∧ sX v' = sX v ∧ fr pRun m m' := by
      intro m1 v1 c1 x1 f1
      obtain ⟨m2, k1, k2, k3⟩ := m_minuteOf c1
      rw [k1, bnd_some, nI_1]
      obtain ⟨m', v', g1, g2, g3, g4⟩ := ih q (k + 1) m2 _ k2 (by rw [passS_N, sX_N x1]; exact hp) (by omega) (by omega)
      exact ⟨m', v', g1, g2, g3.trans ((sX_pass v1).trans x1), (f1.trans (k3.mono pPass_run)).trans g4⟩
    by_cases hh : sR v (12 * p + 10) = -1
    · rw [m_isHere_yes h.1 (by omega) hh, bnd_some, if_neg one_ne0, if_pos hh, m_firstUnseen (by omega) h.1, bnd_some]
      by_cases h8 : fuS v p 8 0 = 8
      · rw [if_pos h8, if_pos rfl, if_pos h8]
        exact ⟨m, v, rfl, h, rfl, fr.refl m⟩
      · have hlt : fuS v p 8 0 < 8 := by have := fuS_le v p 8 0; omega
        rw [if_neg h8, if_neg (nI_ne_m1 (by omega)), if_neg h8]
        by_cases hc : 0 < sR v (12 * p + fuS v p 8 0)
        · rw [m_can_yes h.1 (by omega) hlt ⟨hh, hc⟩, bnd_some, if_neg one_ne0, if_pos hc]
          obtain ⟨m1, e1, c1, f1⟩ := m_pinchOf h hp hlt
          rw [e1, bnd_some]
          exact go m1 _ c1 (sX_take S v _ _) (f1.mono pTake_run)
        · rw [m_can_no h.1 (by omega) hlt (fun z => hc z.2), bnd_some, if_pos rfl, if_neg hc]
          exact ⟨m, v, rfl, h, rfl, fr.refl m⟩
    · rw [m_isHere_no h.1 (by omega) hh, bnd_some, if_pos rfl, if_neg hh]
      exact go m v h rfl (fr.refl m)
/-- grains that are wanting for the tour -/
def unseenS (v : VS) (p : Nat) : Nat → Nat → Prop
  | 0, _ => False
  | r + 1, k => ((sR v (12 * p + 9) >>> (nI k &&& 31)) &&& 1 = 0 ∧ sR v (12 * p + k) = 0) ∨ unseenS v p r (k + 1)
theorem m_unseen_L {p : Nat} (hp : p < 6) (h : RM m v) : ∀ (r q k : Nat), k + r = 8 → r < q → (unseenS v p r k → f_X5_unseen_L2 q (nI p) (nI k) m = some (-1, m)) ∧ (¬ unseenS v p r k → f_X5_unseen_L2 q (nI p) (nI k) m = some (8 - popS (sR v (12 * p + 9)), m)) := by
  intro r
  induction r with
  | zero =>
    intro q k hk hq
    obtain ⟨q, rfl⟩ : ∃ z, q = z + 1 := ⟨q - 1, by omega⟩
    rw [f_X5_unseen_L2, if_pos (c := (8 : Int32) ≤ nI k) (nI_le (a := 8) (by omega) (by omega))]
    unfold f_X5_unseen_L39
    rw [iM9, ald_nI (by omega) (by omega), h.row (by omega), m_onesOf, bnd_some]
    exact ⟨fun z => z.elim, fun _ => rfl⟩
  | succ r ih =>
    intro q k hk hq
    obtain ⟨q, rfl⟩ : ∃ z, q = z + 1 := ⟨q - 1, by omega⟩
    rw [f_X5_unseen_L2, if_neg (c := (8 : Int32) ≤ nI k) (nI_ge (b := 8) (by omega) (by omega)), unseenS]
    unfold f_X5_unseen_L33
    rw [nI_1]
    obtain ⟨i1, i2⟩ := ih q (k + 1) (by omega) (by omega)
    by_cases hc : (sR v (12 * p + 9) >>> (nI k &&& 31)) &&& 1 = 0
    · rw [m_hasSand_no h hp hc, bnd_some, if_pos rfl, iM, ald_nI (by omega) (by omega), h.row (by omega)]
      by_cases h0 : sR v (12 * p + k) = 0
      · rw [if_pos h0]
        exact ⟨fun _ => rfl, fun z => absurd (Or.inl ⟨hc, h0⟩) z⟩
      · rw [if_neg h0]
        exact ⟨fun z => i1 (z.elim (fun y => absurd y.2 h0) id), fun z => i2 (fun y => z (Or.inr y))⟩
    · rw [m_hasSand_yes h hp hc, bnd_some, if_neg one_ne0]
      exact ⟨fun z => i1 (z.elim (fun y => absurd y.1 hc) id), fun z => i2 (fun y => z (Or.inr y))⟩
/-! sharing a grain -/
noncomputable def shTake (S : LW) (t p : Nat) (v : VS) : VS := if sR v (12 * p + 10) = -1 ∧ 0 < sR v (12 * p + t) then takeS S v p t else v
theorem sX_shTake (S : LW) (t p : Nat) (v : VS) : sX (shTake S t p v) = sX v := by
  unfold shTake
  split
  · exact sX_take S v p t
  · rfl
noncomputable def wshS (S : LW) (t : Nat) (v : VS) : Int32 := witS (fold (shTake S t) (sN v) 0 v)
theorem m_witSharing_L {t : Nat} (ht : t < 8) {N : Nat} : ∀ (r q k : Nat) (m : ST) (v : VS), CM S n m v → sN v = N → k + r = N → r < q → ∃ m', f_X5_witSharing_L2 q (nI t) (nI k) m = some (witS (fold (shTake S t) r k v), m') ∧ CM S n m' (fold (shTake S t) r k v) ∧ fr pRun m m' := by
  intro r
  induction r with
  | zero =>
    intro q k m v h hN hk hq
    obtain ⟨q, rfl⟩ : ∃ z, q = z + 1 := ⟨q - 1, by omega⟩
    have h6 := h.2.1
    rw [f_X5_witSharing_L2, h.1.1, if_pos (nI_le (by omega) (by omega))]
    unfold f_X5_witSharing_L31
    rw [m_witAll h, bnd_some]
    exact ⟨m, rfl, h, fr.refl m⟩
  | succ r ih =>
    intro q k m v h hN hk hq
    obtain ⟨q, rfl⟩ : ∃ z, q = z + 1 := ⟨q - 1, by omega⟩
    have h6 := h.2.1
    rw [f_X5_witSharing_L2, h.1.1, if_neg (nI_ge (by omega) (by omega)), fold]
    unfold f_X5_witSharing_L25
    rw [nI_1]
    by_cases hc : canS v k t
    · have e : shTake S t k v = takeS S v k t := if_pos hc
      rw [m_can_yes h.1 (by omega) ht hc, bnd_some, if_neg one_ne0, e]
      obtain ⟨m1, e1, c1, f1⟩ := m_pinchOf h (p := k) (by omega) ht
      rw [e1, bnd_some]
      obtain ⟨m', g1, g2, g3⟩ := ih q (k + 1) m1 _ c1 ((sX_N (sX_take S v k t)).trans hN) (by omega) (by omega)
      exact ⟨m', g1, g2, (f1.mono pTake_run).trans g3⟩
    · have e : shTake S t k v = v := if_neg hc
      rw [m_can_no h.1 (by omega) ht hc, bnd_some, if_pos rfl, e]
      exact ih q (k + 1) m v h hN (by omega) (by omega)
theorem m_witSharing (h : CM S n m v) {t : Nat} (ht : t < 8) : ∃ m', f_X5_witSharing (nI t) m = some (wshS S t v, m') ∧ CM S n m' (fold (shTake S t) (sN v) 0 v) ∧ fr pRun m m' :=
  m_witSharing_L ht (sN v) 1000 0 m v h rfl (by omega) (by have := h.2.1; omega)
noncomputable def shS1 (S : LW) (v : VS) (t q : Nat) (a : Int32 × Int32) : Int32 × Int32 :=
  if 9 ≤ sR v (12 * q + t) then a else if a.1 = -1 ∨ a.2 < wshS S t (wR (12 * q + t) (sR v (12 * q + t) + 1) v) then (nI q, wshS S t (wR (12 * q + t) (sR v (12 * q + t) + 1) v)) else a
theorem m_share_L {t : Nat} (ht : t < 8) (w : Int32) : ∀ (r q k : Nat) (m : ST) (a : Int32 × Int32), CM S n m v → KP m v → k + r = sN v → r < q → ∃ m', f_X5_share_L34 q (nI t) w a.1 a.2 (nI k) m = some (if w = 0 then (fold (shS1 S v t) r k a).1 else (fold (shS1 S v t) r k a).2, m') ∧ CM S n m' v ∧ fr pRun m m' := by
  intro r
  induction r with
  | zero =>
    intro q k m a h hK hk hq
    obtain ⟨q, rfl⟩ : ∃ z, q = z + 1 := ⟨q - 1, by omega⟩
    have h6 := h.2.1
    rw [f_X5_share_L34, h.1.1, if_pos (nI_le (by omega) (by omega))]
    refine ⟨m, ?_, h, fr.refl m⟩
    unfold f_X5_share_L138 f_X5_share_L148
    split <;> rfl
  | succ r ih =>
    intro q k m a h hK hk hq
    obtain ⟨q, rfl⟩ : ∃ z, q = z + 1 := ⟨q - 1, by omega⟩
    have h6 := h.2.1
    rw [f_X5_share_L34, h.1.1, if_neg (nI_ge (by omega) (by omega)), fold, iM, ald_nI (by omega) (by omega), ald_nI (by omega) (by omega), h.1.row (by omega)]
    unfold f_X5_share_L99 f_X5_share_L104 f_X5_share_L117 f_X5_share_L130 f_X5_share_L132
    simp only [nI_1, one_ne0, reduceIte]
    by_cases hc : 9 ≤ sR v (12 * k + t)
    · rw [if_pos hc]
      have e : shS1 S v t k a = a := if_pos hc
      rw [e]
      exact ih q (k + 1) m a h hK (by omega) (by omega)
    · rw [if_neg hc, ast_nI (by omega) (by omega)]
      have h4 := h.wr (i := 12 * k + t) (sR v (12 * k + t) + 1)
      have f4 := fr_pa pT3 (upd (ga 50 3 m) (12 * k + t) (sR v (12 * k + t) + 1)) m
      generalize pa 50 3 (upd (ga 50 3 m) (12 * k + t) (sR v (12 * k + t) + 1)) m = A1 at h4 f4 ⊢
      generalize hv1 : wR (12 * k + t) (sR v (12 * k + t) + 1) v = v1 at h4
      have x1 : sX v1 = sX v := by rw [← hv1]; rfl
      obtain ⟨m1, e1, c1, f1⟩ := m_witSharing h4 ht
      have hK1 : KP m1 v := (hK.fr f4 (by unfold pTake; decide)).fr f1 (by unfold pRun; decide)
      obtain ⟨m2, e2, c2, f2⟩ := m_lays c1 hK1 (fold_inv (P := fun w => sX w = sX v) (fun k a e => (sX_shTake S t k a).trans e) _ _ _ x1)
      have hK2 : KP m2 v := hK1.fr f2 (by unfold pPass; decide)
      have fa : fr pRun m m2 := ((f4.mono pTake_run).trans f1).trans (f2.mono pPass_run)
      rw [e1, bnd_some, e2, bnd_some]
      by_cases hb : a.1 = -1
      · rw [if_pos hb]
        have e : shS1 S v t k a = (nI k, wshS S t v1) := by
          unfold shS1
          rw [hv1, if_neg hc, if_pos (Or.inl hb)]
        rw [e]
        obtain ⟨m', g1, g2, g3⟩ := ih q (k + 1) m2 (nI k, wshS S t v1) c2 hK2 (by omega) (by omega)
        exact ⟨m', g1, g2, fa.trans g3⟩
      · rw [if_neg hb]
        by_cases hl : wshS S t v1 ≤ a.2
        · rw [if_pos hl]
          have e : shS1 S v t k a = a := by
            unfold shS1
            rw [hv1, if_neg hc, if_neg (fun z => z.elim hb (fun y => Int32.not_lt.mpr hl y))]
          rw [e]
          obtain ⟨m', g1, g2, g3⟩ := ih q (k + 1) m2 a c2 hK2 (by omega) (by omega)
          exact ⟨m', g1, g2, fa.trans g3⟩
        · rw [if_neg hl]
          have e : shS1 S v t k a = (nI k, wshS S t v1) := by
            unfold shS1
            rw [hv1, if_neg hc, if_pos (Or.inr (Int32.not_le.mp hl))]
          rw [e]
          obtain ⟨m', g1, g2, g3⟩ := ih q (k + 1) m2 (nI k, wshS S t v1) c2 hK2 (by omega) (by omega)
          exact ⟨m', g1, g2, fa.trans g3⟩
end PM7
