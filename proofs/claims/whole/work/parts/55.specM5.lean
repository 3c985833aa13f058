/-! the host's sheets: sort, size, cells -/
abbrev HS : Type := (Nat → Int32) × (Nat → Nat) × (Nat → Nat → Int32)
section PM5
variable {S : LW} {n : Nat} {m : ST} {v : VS} {hs : HS}
def HM (m : ST) (hs : HS) : Prop := ∀ s, s < 4 → ga 50 14 m s = hs.1 s ∧ ga 50 15 m s = nI (hs.2.1 s) ∧ hs.2.1 s ≤ 40 ∧ ∀ i, i < hs.2.1 s → ga 50 16 m (40 * s + i) = hs.2.2 s i
theorem HM.fr {P : Nat → Nat → Prop} {m m' : ST} (h : HM m hs) (f : fr P m m') (g : ¬ P 50 14 ∧ ¬ P 50 15 ∧ ¬ P 50 16) : HM m' hs := by
  intro s hs4
  rw [f.ga g.1, f.ga g.2.1, f.ga g.2.2]
  exact h s hs4
theorem iS (s k : Nat) : (40 : Int32) * nI s + nI k = nI (40 * s + k) := by
  show nI 40 * nI s + nI k = _
  rw [nI_mul, nI_add]
/-- what an evening may tell in a minute -/
def celOk (N : Nat) (x : Int32) : Prop := x = -1 ∨ ∃ p t, p < N ∧ t < 8 ∧ x = nI (10 * p + t)
theorem i32_of {x : Int32} (h : ¬ x < 0) : ∃ j, j < 2147483648 ∧ x = nI j := nI_of h
theorem m_eveningWrong_L (h : CM S n m v) (hh : HM m hs) {s : Nat} (hs4 : s < 4) : ∀ (r q k : Nat), k + r = hs.2.1 s → r < q →
    ((∀ i, k ≤ i → i < hs.2.1 s → celOk (sN v) (hs.2.2 s i)) → f_X5_eveningWrong_L27 q (nI s) (nI k) m = some (0, m)) ∧ ((¬ ∀ i, k ≤ i → i < hs.2.1 s → celOk (sN v) (hs.2.2 s i)) → f_X5_eveningWrong_L27 q (nI s) (nI k) m = some (-2, m)) := by
  obtain ⟨e1, e2, e3, e4⟩ := hh s hs4
  have h6 := h.2.1
  intro r
  induction r with
  | zero =>
    intro q k hk hq
    obtain ⟨q, rfl⟩ : ∃ z, q = z + 1 := ⟨q - 1, by omega⟩
    rw [f_X5_eveningWrong_L27, ald_nI (by omega) (by omega), e2, if_pos (nI_le (by omega) (by omega))]
    exact ⟨fun _ => rfl, fun g => absurd (fun i h1 h2 => by omega) g⟩
  | succ r ih =>
    intro q k hk hq
    obtain ⟨q, rfl⟩ : ∃ z, q = z + 1 := ⟨q - 1, by omega⟩
    rw [f_X5_eveningWrong_L27, ald_nI (by omega) (by omega), e2, if_neg (nI_ge (by omega) (by omega)), iS, ald_nI (by omega) (by omega), e4 k (by omega)]
    unfold f_X5_eveningWrong_L82 f_X5_eveningWrong_L79
    rw [nI_1]
    have hrec := ih q (k + 1) (by omega) (by omega)
    have step : celOk (sN v) (hs.2.2 s k) → ((∀ i, k ≤ i → i < hs.2.1 s → celOk (sN v) (hs.2.2 s i)) ↔ ∀ i, k + 1 ≤ i → i < hs.2.1 s → celOk (sN v) (hs.2.2 s i)) := fun g => ⟨fun z i h1 h2 => z i (by omega) h2, fun z i h1 h2 => by
      by_cases hik : i = k
      · rw [hik]; exact g
      · exact z i (by omega) h2⟩
    have bad : ¬ celOk (sN v) (hs.2.2 s k) → ¬ ∀ i, k ≤ i → i < hs.2.1 s → celOk (sN v) (hs.2.2 s i) := fun g z => g (z k (Nat.le_refl _) (by omega))
    by_cases h1 : hs.2.2 s k = -1
    · rw [if_pos h1, step (Or.inl h1)]
      exact hrec
    · rw [if_neg h1]
      by_cases h0 : hs.2.2 s k < 0
      · rw [if_pos h0]
        have b : ¬ celOk (sN v) (hs.2.2 s k) := by
          rintro (z | ⟨p, t, hp, ht, z⟩)
          · exact h1 z
          · rw [z] at h0; exact nI_pos (by omega) h0
        exact ⟨fun z => absurd z (bad b), fun _ => rfl⟩
      · rw [if_neg h0]
        obtain ⟨j, hj, ej⟩ := i32_of h0
        rw [ej]
        have d1 : nI j / 10 = nI (j / 10) := pk_div (a := j) (d := 10) (by omega) (by omega) (by omega)
        have d2 : nI j - nI j / 10 * 10 = nI (j % 10) := pk_rem (a := j) (d := 10) (by omega) (by omega) (by omega)
        rw [d2, d1]
        have ok : celOk (sN v) (hs.2.2 s k) ↔ j / 10 < sN v ∧ j % 10 < 8 := by
          constructor
          · rintro (z | ⟨p, t, hp, ht, z⟩)
            · exact absurd z h1
            · rw [ej] at z
              have := (nI_eq (by omega) (by omega)).mp z
              omega
          · rintro ⟨z1, z2⟩
            exact Or.inr ⟨j / 10, j % 10, z1, z2, by rw [ej]; congr 1; omega⟩
        by_cases hp : j / 10 < sN v
        · rw [m_isOne_yes h hp, bnd_some, if_neg one_ne0]
          by_cases ht : j % 10 < 8
          · rw [m_isPlace_yes ht, bnd_some, if_neg one_ne0, step (ok.mpr ⟨hp, ht⟩)]
            exact hrec
          · rw [m_isPlace_no (fun z => by obtain ⟨k', hk', e'⟩ := z; have := (nI_eq (by omega) (by omega)).mp e'; omega), bnd_some, if_pos rfl]
            exact ⟨fun z => absurd z (bad (fun y => ht (ok.mp y).2)), fun _ => rfl⟩
        · rw [m_isOne_no h (fun z => by obtain ⟨k', hk', e'⟩ := z; have := (nI_eq (by omega) (by omega)).mp e'; omega), bnd_some, if_pos rfl]
          exact ⟨fun z => absurd z (bad (fun y => hp (ok.mp y).1)), fun _ => rfl⟩
/-- what an evening by a sheet is refused with -/
noncomputable def ewS (N : Nat) (hs : HS) (s : Nat) : Int32 := if hs.1 s = -1 then -11 else @ite Int32 (∀ i, i < hs.2.1 s → celOk N (hs.2.2 s i)) (Classical.propDecidable _) 0 (-2)
theorem m_eveningWrong_yes (h : CM S n m v) (hh : HM m hs) {s : Nat} (hs4 : s < 4) : f_X5_eveningWrong (nI s) m = some (ewS (sN v) hs s, m) := by
  unfold f_X5_eveningWrong ewS
  rw [m_in_yes (b := 3) m ((in_nI (n := 3) (by omega)).mpr ⟨s, by omega, rfl⟩), bnd_some, if_neg one_ne0, ald_nI (by omega) (by omega), (hh s hs4).1]
  by_cases h1 : hs.1 s = -1
  · rw [if_pos h1, if_pos h1]
  · rw [if_neg h1, if_neg h1]
    obtain ⟨a, b⟩ := m_eveningWrong_L h hh hs4 (hs.2.1 s) 1000 0 (by omega) (by have := (hh s hs4).2.2.1; omega)
    by_cases h2 : ∀ i, i < hs.2.1 s → celOk (sN v) (hs.2.2 s i)
    · rw [if_pos h2]; exact a (fun i _ hi => h2 i hi)
    · rw [if_neg h2]; exact b (fun z => h2 (fun i hi => z i (Nat.zero_le _) hi))
theorem m_eveningWrong_no {s : Int32} (hs4 : ¬ ∃ k, k < 4 ∧ s = nI k) : f_X5_eveningWrong s m = some (-2, m) := by
  unfold f_X5_eveningWrong
  rw [m_in_no m (fun z => hs4 (by obtain ⟨k, hk, e⟩ := (in_nI (n := 3) (by omega)).mp z; exact ⟨k, by omega, e⟩)), bnd_some, if_pos rfl]
theorem ewS_0 {N : Nat} {s : Nat} (h : ewS N hs s = 0) : hs.1 s ≠ -1 ∧ ∀ i, i < hs.2.1 s → celOk N (hs.2.2 s i) := by
  unfold ewS at h
  split at h
  · exact absurd h (by decide)
  · split at h
    · rename_i a b; exact ⟨a, b⟩
    · exact absurd h (by decide)
/-- one tries a pinch -/
noncomputable def tryS (S : LW) (x : Int32) (v : VS) : Int32 × VS :=
  if x = -1 then (0, v) else if sR v (12 * (x.toNatClampNeg / 10) + 10) = -1 ∧ 0 < sR v (12 * (x.toNatClampNeg / 10) + x.toNatClampNeg % 10) then (1, takeS S v (x.toNatClampNeg / 10) (x.toNatClampNeg % 10)) else (0, v)
theorem tryS_yes {x : Int32} {p t : Nat} (hx : x = nI (10 * p + t)) (hp : p < 6) (ht : t < 8) (hc : canS v p t) : tryS S x v = (1, takeS S v p t) := by
  unfold tryS
  rw [hx, if_neg (nI_ne_m1 (by omega)), nI_clamp (by omega), show (10 * p + t) / 10 = p by omega, show (10 * p + t) % 10 = t by omega]
  exact if_pos hc
theorem tryS_no {x : Int32} {p t : Nat} (hx : x = nI (10 * p + t)) (hp : p < 6) (ht : t < 8) (hc : ¬ canS v p t) : tryS S x v = (0, v) := by
  unfold tryS
  rw [hx, if_neg (nI_ne_m1 (by omega)), nI_clamp (by omega), show (10 * p + t) / 10 = p by omega, show (10 * p + t) % 10 = t by omega]
  exact if_neg hc
theorem m_takesOne (h : CM S n m v) {x : Int32} (hx : celOk (sN v) x) : ∃ m', f_X5_takesOne x m = some ((tryS S x v).1, m') ∧ CM S n m' (tryS S x v).2 ∧ fr pTake m m' := by
  have h6 := h.2.1
  rcases hx with rfl | ⟨p, t, hp, ht, rfl⟩
  · exact ⟨m, rfl, h, fr.refl m⟩
  · by_cases hc : canS v p t
    · rw [tryS_yes rfl (by omega) ht hc]
      exact m_takesOne_yes h hp ht hc
    · rw [tryS_no rfl (by omega) ht hc]
      exact ⟨m, m_takesOne_no h hp ht hc, h, fr.refl m⟩
theorem sX_try (S : LW) (x : Int32) (v : VS) : sX (tryS S x v).2 = sX v := by
  unfold tryS
  split
  · rfl
  · split
    · exact sX_take S v _ _
    · rfl
theorem sX_N {v w : VS} (h : sX v = sX w) : sN v = sN w := congrArg (fun q => q.2.2.1) h
/-- a minute behind what is tried -/
noncomputable def minS1 (S : LW) (x : Int32) (v : VS) : VS := (passS (tryS S x v).2).2
theorem sX_min (S : LW) (x : Int32) (v : VS) : sX (minS1 S x v) = sX v := (sX_pass _).trans (sX_try S x v)
theorem pRun_pass (o k : Nat) (h : pPass o k) : pRun o k := pPass_run o k h
theorem m_min (h : CM S n m v) {x : Int32} (hx : celOk (sN v) x) : ∃ m1 m' y, f_X5_takesOne x m = some ((tryS S x v).1, m1) ∧ f_X5_minuteOf m1 = some (y, m') ∧ CM S n m1 (tryS S x v).2 ∧ CM S n m' (minS1 S x v) ∧ fr pRun m m' := by
  obtain ⟨m1, e1, c1, f1⟩ := m_takesOne h hx
  obtain ⟨m2, e2, c2, f2⟩ := m_minuteOf c1
  exact ⟨m1, m2, _, e1, e2, c1, c2, (f1.mono pTake_run).trans (f2.mono pPass_run)⟩
/-- the first minute at which the wit isn't the told one -/
noncomputable def unS (S : LW) (cs ct : Nat → Int32) (p : Nat) : Nat → Nat → VS → Int32
  | 0, _, _ => -1
  | r + 1, k, v => if ct k = sR (minS1 S (cs k) v) (12 * p + 8) then unS S cs ct p r (k + 1) (minS1 S (cs k) v) else nI k
def pUn (o k : Nat) : Prop := o = 50 ∧ (k = 3 ∨ k = 4 ∨ k = 27 ∨ k = 28 ∨ k = 29)
theorem pRun_un (o k : Nat) (h : pRun o k) : pUn o k := ⟨h.1, by have := h.2; omega⟩
theorem pPass_un (o k : Nat) (h : pPass o k) : pUn o k := ⟨h.1, by have := h.2; omega⟩
theorem pKeep_un (o k : Nat) (h : pKeep o k) : pUn o k := ⟨h.1, by have := h.2; omega⟩
theorem m_unlike_L {s o p : Nat} (hs4 : s < 4) (ho : o < 4) {v0 : VS} (hp : p < sN v0) (hle : hs.2.1 o ≤ hs.2.1 s) (hok : ∀ i, i < hs.2.1 s → celOk (sN v0) (hs.2.2 s i)) : ∀ (r q k : Nat) (m : ST) (v : VS), CM S n m v → HM m hs → KP m v0 → sX v = sX v0 → k + r = hs.2.1 o → r < q → ∃ m', f_X5_unlike_L10 q (nI s) (nI o) (nI p) (-1) (nI k) m = some (unS S (hs.2.2 s) (hs.2.2 o) p r k v, m') ∧ CM S n m' v0 ∧ fr pUn m m' := by
  intro r
  induction r with
  | zero =>
    intro q k m v h hh hK hX hk hq
    obtain ⟨q, rfl⟩ : ∃ z, q = z + 1 := ⟨q - 1, by omega⟩
    have h40 := (hh o ho).2.2.1
    rw [f_X5_unlike_L10, ald_nI (by omega) (by omega), (hh o ho).2.1, if_pos (nI_le (by omega) (by omega))]
    obtain ⟨m', e, c, f⟩ := m_lays h hK hX
    unfold f_X5_unlike_L90
    rw [e]
    exact ⟨m', rfl, c, f.mono pPass_un⟩
  | succ r ih =>
    intro q k m v h hh hK hX hk hq
    obtain ⟨q, rfl⟩ : ∃ z, q = z + 1 := ⟨q - 1, by omega⟩
    have h40 := (hh o ho).2.2.1
    have hN := sX_N hX
    have h6 := h.2.1
    rw [f_X5_unlike_L10, ald_nI (by omega) (by omega), (hh o ho).2.1, if_neg (nI_ge (by omega) (by omega)), if_pos rfl, iS, ald_nI (by omega) (by omega), (hh s hs4).2.2.2 k (by omega)]
    obtain ⟨m1, m2, y, g1, g2, g3, g4, g5⟩ := m_min h (x := hs.2.2 s k) (by rw [hN]; exact hok k (by omega))
    have hh2 := hh.fr g5 (by unfold pRun; decide)
    rw [g1, bnd_some, g2, bnd_some, iS, ald_nI (by omega) (by omega), (hh2 o ho).2.2.2 k (by omega), iM8, ald_nI (by omega) (by omega), g4.1.row (by omega)]
    unfold f_X5_unlike_L82 unS
    rw [nI_1]
    by_cases hw : hs.2.2 o k = sR (minS1 S (hs.2.2 s k) v) (12 * p + 8)
    · rw [if_pos hw, if_pos hw]
      obtain ⟨m', e, c, f⟩ := ih q (k + 1) m2 _ g4 hh2 (hK.fr g5 (by unfold pRun; decide)) ((sX_min S _ v).trans hX) (by omega) (by omega)
      exact ⟨m', e, c, (g5.mono pRun_un).trans f⟩
    · rw [if_neg hw, if_neg hw]
      obtain ⟨q, rfl⟩ : ∃ z, q = z + 1 := ⟨q - 1, by omega⟩
      have lay := m_lays g4 (hK.fr g5 (by unfold pRun; decide)) ((sX_min S (hs.2.2 s k) v).trans hX)
      obtain ⟨m', e, c, f⟩ := lay
      have fin : f_X5_unlike_L90 (nI k) m2 = some (nI k, m') := by
        unfold f_X5_unlike_L90
        rw [e]
        rfl
      show ∃ m', f_X5_unlike_L10 (q + 1) (nI s) (nI o) (nI p) (nI k) (nI (k + 1)) m2 = some (nI k, m') ∧ CM S n m' v0 ∧ fr pUn m m'
      rw [f_X5_unlike_L10, ald_nI (by omega) (by omega), (hh2 o ho).2.1]
      by_cases hl : k + 1 = hs.2.1 o
      · rw [if_pos (nI_le (by omega) (by omega)), fin]
        exact ⟨m', rfl, c, (g5.mono pRun_un).trans (f.mono pPass_un)⟩
      · rw [if_neg (nI_ge (by omega) (by omega)), if_neg (nI_ne_m1 (by omega)), fin]
        exact ⟨m', rfl, c, (g5.mono pRun_un).trans (f.mono pPass_un)⟩
theorem m_unlike (h : CM S n m v) (hh : HM m hs) {s o p : Nat} (hs4 : s < 4) (ho : o < 4) (hp : p < sN v) (hle : hs.2.1 o ≤ hs.2.1 s) (hok : ∀ i, i < hs.2.1 s → celOk (sN v) (hs.2.2 s i)) : ∃ m', f_X5_unlike (nI s) (nI o) (nI p) m = some (unS S (hs.2.2 s) (hs.2.2 o) p (hs.2.1 o) 0 v, m') ∧ CM S n m' v ∧ fr pUn m m' := by
  obtain ⟨m1, e1, c1, k1, f1⟩ := m_keeps h
  have hh1 := hh.fr f1 (by unfold pKeep; decide)
  obtain ⟨m', e, c, f⟩ := m_unlike_L hs4 ho hp hle hok (hs.2.1 o) 1000 0 m1 v c1 hh1 k1 rfl (by omega) (by have := (hh o ho).2.2.1; omega)
  unfold f_X5_unlike
  rw [e1, bnd_some]
  exact ⟨m', e, c, (f1.mono pKeep_un).trans f⟩
end PM5
