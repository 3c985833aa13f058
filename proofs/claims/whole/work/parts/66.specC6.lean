section PC6
variable {S : LW} {T : TX} {n o : Nat} {c : ST} {v : VS} {hs : HS}
/-! lots -/
theorem c_draw_L {N : Nat} (hN : N ≤ 60) : ∀ (r q k a : Nat) (c : ST) (x : Int32 × VS), CC S T 3 c x.2 → k + r = N → a < 2147483648 → r < q → ∃ c', f_X4_drawEvening_L22 T q (nI N) (lN a) x.1 (nI k) c = some ((loS S r a x).1, c') ∧ CC S T 3 c' (loS S r a x).2 ∧ fr (pCo 3) c c' := by
  intro r
  induction r with
  | zero =>
    intro q k a c x h hk ha hq
    obtain ⟨q, rfl⟩ : ∃ z, q = z + 1 := ⟨q - 1, by omega⟩
    rw [f_X4_drawEvening_L22, if_pos (nI_le (by omega) (by omega))]
    exact ⟨c, rfl, h, fr.refl c⟩
  | succ r ih =>
    intro q k a c x h hk ha hq
    obtain ⟨q, rfl⟩ : ∃ z, q = z + 1 := ⟨q - 1, by omega⟩
    have h6 := h.2.1
    have a1 := lA_lt a
    have a2 := lA_lt (lA a)
    rw [f_X4_drawEvening_L22, if_neg (nI_ge (by omega) (by omega)), lot_e ha, lot_e (by omega), lot_6 (by omega), lot_8 (by omega), iT]
    unfold f_X4_drawEvening_L85 loS
    rw [nI_1]
    by_cases hp : lA a % 6 < sN x.2
    · rw [if_pos hp]
      have ok : celOk (sN x.2) (nI (10 * (lA a % 6) + lA (lA a) % 8)) := Or.inr ⟨_, _, hp, by omega, rfl⟩
      generalize nI (10 * (lA a % 6) + lA (lA a) % 8) = two at ok ⊢
      obtain ⟨c1, c2, y, g1, g2, g3, g4, f1, f2⟩ := c_min h h3 ok
      obtain ⟨c', l1, l2, l3⟩ := ih q (k + 1) (lA (lA a)) c2 (x.1 + (tryS S two x.2).1, minS1 S two x.2) g4 (by omega) (by omega) (by omega)
      rw [g1, bnd_some, g2, bnd_some, bnd_some]
      refine ⟨c', ?_, l2, (f1.trans f2).trans l3⟩
      rcases tryS_bool S two x.2 with hb | hb
      · rw [hb, if_pos rfl]
        rw [hb] at l1
        have e : x.1 + 0 = x.1 := add_0 _
        rw [← l1]
        show _ = f_X4_drawEvening_L22 T q (nI N) (lN (lA (lA a))) (x.1 + 0) (nI (k + 1)) c2
        rw [e]
      · rw [hb, if_neg one_ne0]
        rw [hb] at l1
        exact l1
    · rw [if_neg hp]
      have d := two_div (p := lA a % 6) (t := lA (lA a) % 8) (by omega) (by omega)
      have e0 : f_X0_tries T 3 (nI (10 * (lA a % 6) + lA (lA a) % 8)) c = some (0, c) := by
        unfold f_X0_tries f_X0_tries_L19
        rw [if_neg (nI_pos (by omega)), d.2, d.1, c_can_out h.1 h6 (fun z => by
          obtain ⟨k', hk', e'⟩ := z
          have := (nI_eq (by omega) (by omega)).mp e'
          omega), bnd_some, if_pos rfl]
        rfl
      obtain ⟨c2, g1, g2, g3⟩ := c_pass h
      rw [e0, bnd_some, if_pos rfl, g1, bnd_some]
      obtain ⟨c', l1, l2, l3⟩ := ih q (k + 1) (lA (lA a)) c2 (x.1, (passS x.2).2) g2 (by omega) (by omega) (by omega)
      exact ⟨c', l1, l2, g3.trans l3⟩
theorem c_drawEvening (h : CC S T 2 c v) {seed N : Nat} (hseed : seed < 2147483647) (hN : N ≤ 60) : ∃ c', f_X4_drawEvening T (nI seed) (nI N) c = some ((loS S N (seed + 1) (0, v)).1, c') ∧ CC S T 3 c' (loS S N (seed + 1) (0, v)).2 ∧ CC S T 2 c' v ∧ fr (pCo 3) c c' := by
  obtain ⟨c1, e1, d1, d2, f1⟩ := c_think h
  unfold f_X4_drawEvening
  rw [e1, bnd_some, nI_1, nI_l (by omega)]
  obtain ⟨c', l1, l2, l3⟩ := c_draw_L hN N 1000 0 (seed + 1) c1 (0, v) d1 (by omega) (by omega) (by omega)
  exact ⟨c', l1, l2, d2.k2 l3 (fun k hk => pCo3_2 hk), f1.trans l3⟩
/-! which pinch is best -/
theorem c_which_L {p : Nat} (hp : p < sN v) (w : Int32) : ∀ (r q k : Nat) (c : ST) (a : Int32 × Int32), CC S T 2 c v → fstOk a.1 → k + r = 8 → r < q → ∃ c', f_X4_which_L42 T q (nI p) w a.1 a.2 (nI k) c = some (if w = 0 then (fold (whS1 S v p) r k a).1 else (fold (whS1 S v p) r k a).2, c') ∧ fr pSt c c' := by
  intro r
  induction r with
  | zero =>
    intro q k c a h hf hk hq
    obtain ⟨q, rfl⟩ : ∃ z, q = z + 1 := ⟨q - 1, by omega⟩
    rw [f_X4_which_L42, if_pos (c := (8 : Int32) ≤ nI k) (nI_le (a := 8) (by omega) (by omega))]
    refine ⟨c, ?_, fr.refl c⟩
    unfold f_X4_which_L114 f_X4_which_L124
    split <;> rfl
  | succ r ih =>
    intro q k c a h hf hk hq
    obtain ⟨q, rfl⟩ : ∃ z, q = z + 1 := ⟨q - 1, by omega⟩
    have h6 := h.2.1
    rw [f_X4_which_L42, if_neg (c := (8 : Int32) ≤ nI k) (nI_ge (b := 8) (by omega) (by omega)), fold]
    unfold f_X4_which_L101 f_X4_which_L108
    rw [nI_1]
    by_cases hc : canS v p k
    · rw [c_can_yes h.1 h6 hp (by omega) hc, bnd_some, if_neg one_ne0, ald_nI (by omega) (by omega), h.1.wit (by omega)]
      obtain ⟨c1, e1, f1⟩ := c_gains h h2c hp (t := k) (by omega)
      have hc' : sR v (12 * p + 10) = -1 ∧ 0 < sR v (12 * p + k) := hc
      rw [e1, bnd_some, c_bounded (by decide), bnd_some]
      by_cases hb : a.1 = -1
      · rw [if_pos ((fst_neg hf).mpr hb)]
        have e : whS1 S v p k a = (nI k, wiS (sR v (12 * p + 8) + gaS S v p k) 0 99) := by
          unfold whS1
          rw [if_pos hc', if_pos (Or.inl hb)]
        rw [e]
        obtain ⟨m', g1, g2⟩ := ih q (k + 1) c1 (nI k, wiS (sR v (12 * p + 8) + gaS S v p k) 0 99) (h.st f1) (Or.inr ⟨k, by omega, rfl⟩) (by omega) (by omega)
        exact ⟨m', g1, f1.trans g2⟩
      · rw [if_neg (fun z => hb ((fst_neg hf).mp z))]
        by_cases hl : wiS (sR v (12 * p + 8) + gaS S v p k) 0 99 ≤ a.2
        · rw [if_pos hl]
          have e : whS1 S v p k a = a := by
            unfold whS1
            rw [if_pos hc', if_neg (fun z => z.elim hb (fun y => Int32.not_lt.mpr hl y))]
          rw [e]
          obtain ⟨m', g1, g2⟩ := ih q (k + 1) c1 a (h.st f1) hf (by omega) (by omega)
          exact ⟨m', g1, f1.trans g2⟩
        · rw [if_neg hl]
          have e : whS1 S v p k a = (nI k, wiS (sR v (12 * p + 8) + gaS S v p k) 0 99) := by
            unfold whS1
            rw [if_pos hc', if_pos (Or.inr (Int32.not_le.mp hl))]
          rw [e]
          obtain ⟨m', g1, g2⟩ := ih q (k + 1) c1 (nI k, wiS (sR v (12 * p + 8) + gaS S v p k) 0 99) (h.st f1) (Or.inr ⟨k, by omega, rfl⟩) (by omega) (by omega)
          exact ⟨m', g1, f1.trans g2⟩
    · rw [c_can_no h.1 h6 hp (by omega) hc, bnd_some, if_pos rfl]
      have e : whS1 S v p k a = a := if_neg hc
      rw [e]
      exact ih q (k + 1) c a h hf (by omega) (by omega)
/-! the tour -/
theorem c_tourMinutes_L {p : Nat} : ∀ (r q k : Nat) (c : ST) (v : VS), CC S T 3 c v → p < sN v → k + r = 201 → r < q → ∃ c', f_X4_tourMinutes_L13 T q (nI p) (nI k) c = some (toS S p r k v, c') ∧ fr (pCo 3) c c' := by
  intro r
  induction r with
  | zero =>
    intro q k c v h hp hk hq
    obtain ⟨q, rfl⟩ : ∃ z, q = z + 1 := ⟨q - 1, by omega⟩
    rw [f_X4_tourMinutes_L13, if_pos (c := (200 : Int32) < nI k) (nI_lt (a := 200) (by omega) (by omega))]
    exact ⟨c, rfl, fr.refl c⟩
  | succ r ih =>
    intro q k c v h hp hk hq
    obtain ⟨q, rfl⟩ : ∃ z, q = z + 1 := ⟨q - 1, by omega⟩
    have h6 := h.2.1
    rw [f_X4_tourMinutes_L13, if_neg (c := (200 : Int32) < nI k) (nI_nlt (b := k) (a := 200) (by omega) (by omega)), toS, ald_nI (by omega) (by omega), h.1.place (by omega)]
    unfold f_X4_tourMinutes_L73
    rw [nI_1]
    have go : ∀ (c1 : ST) (v1 : VS), CC S T 3 c1 v1 → sX v1 = sX v → fr (pCo 3) c c1 → ∃ c', bnd (f_X0_pass T 3 c1) (fun _ t77 => f_X4_tourMinutes_L13 T q (nI p) (nI (k + 1)) t77) = some (toS S p r (k + 1) (passS v1).2, c') ∧ fr (pCo 3) c c' := by
      intro c1 v1 d1 x1 f1
      obtain ⟨c2, k1, k2, k3⟩ := c_pass d1
      rw [k1, bnd_some]
      obtain ⟨c', g1, g2⟩ := ih q (k + 1) c2 _ k2 (by rw [passS_N, sX_N x1]; exact hp) (by omega) (by omega)
      exact ⟨c', g1, (f1.trans k3).trans g2⟩
    by_cases hh : sR v (12 * p + 10) = -1
    · rw [if_pos hh, if_pos hh, c_firstUnseen (by omega) h.1, bnd_some]
      by_cases h8 : fuS v p 8 0 = 8
      · rw [if_pos (show nI (fuS v p 8 0) = 8 by rw [h8]; rfl), if_pos h8]
        exact ⟨c, rfl, fr.refl c⟩
      · have hlt : fuS v p 8 0 < 8 := by have := fuS_le v p 8 0; omega
        rw [if_neg (c := nI (fuS v p 8 0) = 8) (fun z => h8 ((nI_eq (by omega) (by omega)).mp (show nI (fuS v p 8 0) = nI 8 from z))), if_neg h8]
        by_cases hc : 0 < sR v (12 * p + fuS v p 8 0)
        · rw [c_can_yes h.1 h6 hp hlt ⟨hh, hc⟩, bnd_some, if_neg one_ne0, if_pos hc]
          obtain ⟨c1, e1, d1, f1⟩ := c_take h h3 hp hlt ⟨hh, hc⟩
          rw [e1, bnd_some]
          exact go c1 _ d1 (sX_take S v _ _) f1
        · rw [c_can_no h.1 h6 hp hlt (fun z => hc z.2), bnd_some, if_pos rfl, if_neg hc]
          exact ⟨c, rfl, fr.refl c⟩
    · rw [if_neg hh, if_neg hh]
      exact go c v h rfl (fr.refl c)
/-- how many aren't of one's sand, from k on -/
def cntS (v : VS) (p : Nat) : Nat → Nat → Nat
  | 0, _ => 0
  | r + 1, k => (if (sR v (12 * p + 9) >>> (nI k &&& 31)) &&& 1 = 0 then 1 else 0) + cntS v p r (k + 1)
theorem c_tour_L {p : Nat} (hp : p < sN v) (w : Int32) (h : RC 2 c v) (iv : IV v) (h6 : sN v ≤ 6) : ∀ (r q k a : Nat), k + r = 8 → r < q → (unseenS v p r k → f_X4_tour_L31 T q (nI p) w (nI a) (nI k) c = some (-1, c)) ∧ (¬ unseenS v p r k → f_X4_tour_L31 T q (nI p) w (nI a) (nI k) c = f_X4_tour_L80 T (nI p) w (nI (a + cntS v p r k)) c) := by
  intro r
  induction r with
  | zero =>
    intro q k a hk hq
    obtain ⟨q, rfl⟩ : ∃ z, q = z + 1 := ⟨q - 1, by omega⟩
    rw [f_X4_tour_L31, if_pos (c := (8 : Int32) ≤ nI k) (nI_le (a := 8) (by omega) (by omega))]
    exact ⟨fun z => z.elim, fun _ => rfl⟩
  | succ r ih =>
    intro q k a hk hq
    obtain ⟨q, rfl⟩ : ∃ z, q = z + 1 := ⟨q - 1, by omega⟩
    rw [f_X4_tour_L31, if_neg (c := (8 : Int32) ≤ nI k) (nI_ge (b := 8) (by omega) (by omega)), unseenS, cntS]
    unfold f_X4_tour_L74
    rw [nI_1, nI_1]
    obtain ⟨j, hj, ej⟩ := (iv p hp).1 k (by omega)
    by_cases hc : (sR v (12 * p + 9) >>> (nI k &&& 31)) &&& 1 = 0
    · rw [c_hasSand_no h (by omega) hc, bnd_some, if_pos rfl, iC, ald_nI (by omega) (by omega), h.g (by omega) (by omega), if_pos hc]
      by_cases h0 : sR v (12 * p + k) = 0
      · rw [h0, if_neg (by decide)]
        exact ⟨fun _ => rfl, fun z => absurd (Or.inl ⟨hc, rfl⟩) z⟩
      · have hpos : 0 < sR v (12 * p + k) := by
          rw [ej] at h0 ⊢
          have : ¬ j = 0 := fun e => h0 (by rw [e]; rfl)
          exact nI_lt (a := 0) (by omega) (by omega)
        rw [if_pos hpos]
        obtain ⟨i1, i2⟩ := ih q (k + 1) (a + 1) (by omega) (by omega)
        rw [show a + (1 + cntS v p r (k + 1)) = a + 1 + cntS v p r (k + 1) by omega]
        exact ⟨fun z => i1 (z.elim (fun y => absurd y.2 h0) id), fun z => i2 (fun y => z (Or.inr y))⟩
    · obtain ⟨i1, i2⟩ := ih q (k + 1) a (by omega) (by omega)
      rw [c_hasSand_yes h (by omega) hc, bnd_some, if_neg one_ne0, if_neg hc, Nat.zero_add]
      exact ⟨fun z => i1 (z.elim (fun y => absurd y.1 hc) id), fun z => i2 (fun y => z (Or.inr y))⟩
end PC6
