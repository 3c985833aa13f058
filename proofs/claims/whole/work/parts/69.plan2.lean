section PPlan2
variable {S : LW} {T : TX} {n o : Nat} {m c : ST} {v : VS} {hs : HS}
/-! the reference's plan -/
def pPl (o k : Nat) : Prop := o = 50 ∧ (k = 27 ∨ k = 28 ∨ k = 31)
theorem pGa_pl (o k : Nat) (h : pGa o k) : pPl o k := ⟨h.1, by have := h.2; omega⟩
theorem pSay_pl (o k : Nat) (h : pSay o k) : pPl o k := ⟨h.1, by have := h.2; omega⟩
theorem CM.pl {m' : ST} (h : CM S n m v) (f : fr pPl m m') : CM S n m' v := h.fr4 (h.1.fr f (by unfold pPl; decide)) rfl rfl f (by unfold pPl; decide) (by unfold pPl; decide)
theorem m_plan_L99 {p t : Nat} (hp : p < sN v) (ht : t < 8) {d : Nat} (hd : 1 ≤ d) (hd2 : d < 1000) (g x2 x3 : Int32) (K : Int32 → Int32 → Int32 → Int32 → ST → Option (Int32 × ST)) {z : Nat} (hz : z ≤ 9) (ez : sR v (12 * p + t) = nI z) : ∀ (r q k : Nat) (m : ST) (G : Nat → Int32), CM S n m v → (∀ j, j < 61 → ga 50 31 m j = G j) → k + r = z → r < q → ∃ m', f_X5_plan_L99 q K (nI p) x2 x3 (nI t) (nI d) g (nI k) m = K (nI p) x2 x3 (nI (t + 1)) m' ∧ (∀ j, j < 61 → ga 50 31 m' j = fold (fun _ G => agS d g G) r k G j) ∧ CM S n m' v ∧ fr pPl m m' := by
  intro r
  induction r with
  | zero =>
    intro q k m G h hG hk hq
    obtain ⟨q, rfl⟩ : ∃ z, q = z + 1 := ⟨q - 1, by omega⟩
    have h6 := h.2.1
    rw [f_X5_plan_L99, iM, ald_nI (by omega) (by omega), h.1.row (by omega), ez, if_pos (nI_le (by omega) (by omega))]
    unfold f_X5_plan_L130
    rw [nI_1]
    exact ⟨m, rfl, hG, h, fr.refl m⟩
  | succ r ih =>
    intro q k m G h hG hk hq
    obtain ⟨q, rfl⟩ : ∃ z, q = z + 1 := ⟨q - 1, by omega⟩
    have h6 := h.2.1
    rw [f_X5_plan_L99, iM, ald_nI (by omega) (by omega), h.1.row (by omega), ez, if_neg (nI_ge (by omega) (by omega))]
    obtain ⟨m1, e1, g1, f1⟩ := m_addsGrain hd hd2 g hG
    rw [e1, bnd_some, nI_1]
    obtain ⟨m', l1, l2, l3, l4⟩ := ih q (k + 1) m1 _ (h.pl (f1.mono pGa_pl)) g1 (by omega) (by omega)
    exact ⟨m', l1, l2, l3, (f1.mono pGa_pl).trans l4⟩
theorem m_plan_L71 {p : Nat} (hp : p < sN v) (iv : IV v) (x2 x3 : Int32) : ∀ (r q t : Nat) (m : ST) (G : Nat → Int32), CM S n m v → (∀ j, j < 61 → ga 50 31 m j = G j) → t + r = 8 → r < q → ∃ m', f_X5_plan_L71 q (nI p) x2 x3 (nI t) m = f_X5_plan_L136 x2 x3 m' ∧ (∀ j, j < 61 → ga 50 31 m' j = fold (fun t B => fold (fun _ B => agS (goS S v p t).toNatClampNeg (gaS S v p t) B) (sR v (12 * p + t)).toNatClampNeg 0 B) r t G j) ∧ CM S n m' v ∧ fr pPl m m' := by
  intro r
  induction r with
  | zero =>
    intro q t m G h hG ht hq
    obtain ⟨q, rfl⟩ : ∃ z, q = z + 1 := ⟨q - 1, by omega⟩
    rw [f_X5_plan_L71, if_pos (c := (8 : Int32) ≤ nI t) (nI_le (a := 8) (by omega) (by omega))]
    exact ⟨m, rfl, hG, h, fr.refl m⟩
  | succ r ih =>
    intro q t m G h hG ht hq
    obtain ⟨q, rfl⟩ : ∃ z, q = z + 1 := ⟨q - 1, by omega⟩
    have h6 := h.2.1
    rw [f_X5_plan_L71, if_neg (c := (8 : Int32) ≤ nI t) (nI_ge (b := 8) (by omega) (by omega))]
    obtain ⟨d, hd1, hd2, ed⟩ := goS_nI S iv hp t
    obtain ⟨z, hz, ez⟩ := (iv p hp).1 t (by omega)
    obtain ⟨m1, e1, f1⟩ := m_goneOf h hp (t := t) (by omega)
    have h1 := h.say f1
    obtain ⟨m2, e2, f2⟩ := m_gainsOf h1 hp (t := t) (by omega)
    have h2 := h1.say f2
    have f12 := (f1.trans f2).mono pSay_pl
    have hG2 : ∀ j, j < 61 → ga 50 31 m2 j = G j := fun j hj => by rw [(f1.trans f2).ga (by unfold pSay; decide)]; exact hG j hj
    rw [e1, bnd_some, e2, bnd_some, ed, fold]
    obtain ⟨m3, g1, g2, g3, g4⟩ := m_plan_L99 hp (show t < 8 by omega) hd1 (by omega) (gaS S v p t) x2 x3 (fun v1 v2 v3 v4 σ => f_X5_plan_L71 q v1 v2 v3 v4 σ) hz ez z 1000 0 m2 G h2 hG2 (Nat.zero_add _) (by omega)
    rw [show (0 : Int32) = nI 0 from rfl, g1]
    obtain ⟨m', l1, l2, l3, l4⟩ := ih q (t + 1) m3 _ g3 g2 (by omega) (by omega)
    refine ⟨m', l1, ?_, l3, (f12.trans g4).trans l4⟩
    rw [clamp_le ez (by omega), clamp_le ed (by omega)]
    exact l2
theorem m_plan_L142 {M : Nat} (hM : M ≤ 60) (w : Int32) {G : Nat → Int32} (hG : ∀ j, j < 61 → ga 50 31 m j = G j) : ∀ (r q k b : Nat), k + r = M + 1 → b ≤ 60 → b < k → r < q → f_X5_plan_L142 q (nI M) w (nI b) (nI k) m = some (if w = 0 then G (bestN G r k b) else nI (bestN G r k b), m) := by
  intro r
  induction r with
  | zero =>
    intro q k b hk hb hbk hq
    obtain ⟨q, rfl⟩ : ∃ z, q = z + 1 := ⟨q - 1, by omega⟩
    rw [f_X5_plan_L142, if_pos (nI_lt (by omega) (by omega)), bestN]
    unfold f_X5_plan_L180 f_X5_plan_L196
    rw [ald_nI (by omega) (by omega), hG b (by omega)]
    split <;> rfl
  | succ r ih =>
    intro q k b hk hb hbk hq
    obtain ⟨q, rfl⟩ : ∃ z, q = z + 1 := ⟨q - 1, by omega⟩
    rw [f_X5_plan_L142, if_neg (nI_nlt (by omega) (by omega)), ald_nI (by omega) (by omega), ald_nI (by omega) (by omega), hG b (by omega), hG k (by omega), bestN]
    unfold f_X5_plan_L172
    rw [nI_1]
    by_cases hc : G k ≤ G b
    · rw [if_pos hc, if_pos hc]
      exact ih q (k + 1) b (by omega) (by omega) (by omega) (by omega)
    · rw [if_neg hc, if_neg hc]
      exact ih q (k + 1) k (by omega) (by omega) (by omega) (by omega)
theorem m_plan_L36 (x1 x2 x3 : Int32) : ∀ (r q k : Nat) (m : ST), (∀ j, j < k → ga 50 31 m j = if j = 0 then 0 else -9999) → k + r = 61 → r < q → ∃ m', f_X5_plan_L36 q x1 x2 x3 (nI k) m = f_X5_plan_L68 x1 x2 x3 m' ∧ (∀ j, j < 61 → ga 50 31 m' j = if j = 0 then 0 else -9999) ∧ fr pGa m m' := by
  intro r
  induction r with
  | zero =>
    intro q k m hG hk hq
    obtain ⟨q, rfl⟩ : ∃ z, q = z + 1 := ⟨q - 1, by omega⟩
    rw [f_X5_plan_L36, if_pos (c := (60 : Int32) < nI k) (nI_lt (a := 60) (by omega) (by omega))]
    exact ⟨m, rfl, fun j hj => hG j (by omega), fr.refl m⟩
  | succ r ih =>
    intro q k m hG hk hq
    obtain ⟨q, rfl⟩ : ∃ z, q = z + 1 := ⟨q - 1, by omega⟩
    rw [f_X5_plan_L36, if_neg (c := (60 : Int32) < nI k) (nI_nlt (a := 60) (by omega) (by omega))]
    unfold f_X5_plan_L61
    rw [nI_1]
    have go : ∀ x : Int32, x = (if k = 0 then 0 else -9999) → ∃ m', ast 50 31 61 (nI k) x m (fun t61 => f_X5_plan_L36 q x1 x2 x3 (nI (k + 1)) t61) = f_X5_plan_L68 x1 x2 x3 m' ∧ (∀ j, j < 61 → ga 50 31 m' j = if j = 0 then 0 else -9999) ∧ fr pGa m m' := by
      intro x hx
      rw [ast_nI (by omega) (by omega)]
      obtain ⟨m', g1, g2, g3⟩ := ih q (k + 1) (pa 50 31 (upd (ga 50 31 m) k x) m) (fun j hj => by
        rw [ga_pa, if_pos ⟨rfl, rfl⟩, upd_at]
        by_cases hjk : j = k
        · rw [if_pos hjk, hjk, hx]
        · rw [if_neg hjk, hG j (by omega)]) (by omega) (by omega)
      exact ⟨m', g1, g2, (fr_pa pG31 _ _).trans g3⟩
    by_cases h0 : k = 0
    · rw [if_pos (by rw [h0]; rfl)]
      exact go 0 (by rw [if_pos h0])
    · rw [if_neg (nI_ne0 (by omega) (by omega))]
      exact go (-9999) (by rw [if_neg h0])
/-- both plans' answer -/
noncomputable def planS (S : LW) (v : VS) (p M : Nat) (w : Int32) : Int32 := if w = 0 then plS S v p agS (fun j => if j = 0 then 0 else -9999) (bestN (plS S v p agS (fun j => if j = 0 then 0 else -9999)) M 1 0) else nI (bestN (plS S v p agS (fun j => if j = 0 then 0 else -9999)) M 1 0)
theorem m_plan (h : CM S n m v) (iv : IV v) {p M : Nat} (hp : p < sN v) (hM : M ≤ 60) (w : Int32) : ∃ m', f_X5_plan_L36 1000 (nI p) (nI M) w 0 m = some (planS S v p M w, m') ∧ CM S n m' v ∧ fr pPl m m' := by
  obtain ⟨m1, e1, g1, f1⟩ := m_plan_L36 (nI p) (nI M) w 61 1000 0 m (fun j hj => by omega) (by omega) (by omega)
  obtain ⟨m2, e2, g2, h2, f2⟩ := m_plan_L71 hp iv (nI M) w 8 1000 0 m1 _ (h.pl (f1.mono pGa_pl)) g1 (by omega) (by omega)
  refine ⟨m2, ?_, h2, (f1.mono pGa_pl).trans f2⟩
  rw [show (0 : Int32) = nI 0 from rfl, e1]
  unfold f_X5_plan_L68
  rw [show f_X5_plan_L71 1000 (nI p) (nI M) w 0 m1 = _ from e2]
  unfold f_X5_plan_L136
  exact m_plan_L142 hM w g2 M 1000 1 0 (Nat.add_comm _ _) (by omega) (by omega) (by omega)
end PPlan2
