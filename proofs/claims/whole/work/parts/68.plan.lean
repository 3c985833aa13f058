section PPlan
variable {S : LW} {T : TX} {n o : Nat} {m c : ST} {v : VS}
/-! what is best: exactly m minutes (the reference) and at most m minutes (the class) -/
def abS (M d : Nat) (g : Int32) (B : Nat → Int32) (j : Nat) : Int32 := if d ≤ j ∧ j ≤ M then mxI (B j) (B (j - d) + g) else B j
noncomputable def plS (S : LW) (v : VS) (p : Nat) (step : Nat → Int32 → (Nat → Int32) → Nat → Int32) (B : Nat → Int32) : Nat → Int32 := fold (fun t B => fold (fun _ B => step (goS S v p t).toNatClampNeg (gaS S v p t) B) (sR v (12 * p + t)).toNatClampNeg 0 B) 8 0 B
def i32In (x : Int32) (a b : Int) : Prop := a ≤ x.toInt ∧ x.toInt ≤ b
/-- how the two stand behind k grains -/
def pinv (M k : Nat) (G B : Nat → Int32) : Prop := G 0 = 0 ∧ (∀ j, j ≤ 60 → i32In (G j) (-10300) (300 * k)) ∧ ∀ j, j ≤ M → (∃ i, i ≤ j ∧ G i = B j) ∧ ∀ i, i ≤ j → (G i).toInt ≤ (B j).toInt
theorem agS_to {d : Nat} {g : Int32} {G : Nat → Int32} {k j : Nat} (hk : k ≤ 100) (hG : ∀ j, j ≤ 60 → i32In (G j) (-10300) (300 * k)) (hg : i32In g (-300) 300) (hj : j ≤ 60) : (agS d g G j).toInt = if d ≤ j ∧ -9999 < (G (j - d)).toInt then max (G j).toInt ((G (j - d)).toInt + g.toInt) else (G j).toInt := by
  have h1 := hG j hj
  have h2 := hG (j - d) (by omega)
  unfold i32In at h1 h2 hg
  have e9 : (-9999 : Int32).toInt = -9999 := by decide
  have ea : (G (j - d) + g).toInt = (G (j - d)).toInt + g.toInt := i32_add (by omega) (by omega)
  unfold agS
  simp only [Int32.le_iff_toInt_le, e9]
  by_cases hc : d ≤ j ∧ -9999 < (G (j - d)).toInt
  · rw [if_pos ⟨hc.1, by omega⟩, if_pos hc, ea]
    by_cases hl : (G (j - d)).toInt + g.toInt ≤ (G j).toInt
    · rw [if_pos hl]; omega
    · rw [if_neg hl, ea]; omega
  · rw [if_neg (fun z => hc ⟨z.1, by omega⟩), if_neg hc]
theorem mxI_to (a b : Int32) : (mxI a b).toInt = max a.toInt b.toInt := by
  unfold mxI
  simp only [Int32.lt_iff_toInt_lt]
  split <;> omega
theorem pinv_step {M k d : Nat} {g : Int32} {G B : Nat → Int32} (hM : M ≤ 60) (hk : k < 100) (hd : 1 ≤ d) (hg : i32In g (-300) 300) (h : pinv M k G B) : pinv M (k + 1) (agS d g G) (abS M d g B) := by
  obtain ⟨h0, hG, hB⟩ := h
  have aG := fun j (hj : j ≤ 60) => agS_to (d := d) (j := j) (by omega) hG hg hj
  refine ⟨?_, fun j hj => ?_, fun j hj => ?_⟩
  · unfold agS
    rw [if_neg (fun z => by omega), h0]
  · have e := aG j hj
    have h1 := hG j hj
    have h2 := hG (j - d) (by omega)
    unfold i32In at h1 h2 hg ⊢
    rw [e]
    split <;> omega
  · obtain ⟨⟨i0, hi0, ei0⟩, hup⟩ := hB j hj
    by_cases hdj : d ≤ j
    · obtain ⟨⟨i1, hi1, ei1⟩, hup1⟩ := hB (j - d) (by omega)
      have b1 := hG i1 (by omega)
      have b0 := hG i0 (by omega)
      have z0 : (0 : Int) ≤ (B (j - d)).toInt := by
        have := hup1 0 (Nat.zero_le _)
        rw [h0] at this
        have e0 : (0 : Int32).toInt = 0 := by decide
        omega
      rw [ei1] at b1
      rw [ei0] at b0
      unfold i32In at b1 b0 hg
      have eb : (B (j - d) + g).toInt = (B (j - d)).toInt + g.toInt := i32_add (by omega) (by omega)
      have eB : (abS M d g B j).toInt = max (B j).toInt ((B (j - d)).toInt + g.toInt) := by
        unfold abS
        rw [if_pos ⟨hdj, hj⟩, mxI_to, eb]
      have up : ∀ i, i ≤ j → (agS d g G i).toInt ≤ (abS M d g B j).toInt := by
        intro i hi
        rw [aG i (by omega), eB]
        have u0 := hup i hi
        by_cases hc : d ≤ i ∧ -9999 < (G (i - d)).toInt
        · rw [if_pos hc]
          have u1 := hup1 (i - d) (by omega)
          omega
        · rw [if_neg hc]
          omega
      refine ⟨?_, up⟩
      by_cases hl : (B (j - d)).toInt + g.toInt ≤ (B j).toInt
      · refine ⟨i0, hi0, Int32.toInt_inj.mp ?_⟩
        have u := up i0 hi0
        have e := aG i0 (by omega)
        have ge : (G i0).toInt ≤ (agS d g G i0).toInt := by rw [e]; split <;> omega
        rw [ei0] at ge
        rw [eB] at u ⊢
        omega
      · refine ⟨i1 + d, by omega, Int32.toInt_inj.mp ?_⟩
        have u := up (i1 + d) (by omega)
        have e := aG (i1 + d) (by omega)
        rw [show i1 + d - d = i1 by omega, ei1, if_pos ⟨by omega, by omega⟩] at e
        rw [eB] at u ⊢
        omega
    · have eB : abS M d g B j = B j := by
        unfold abS
        rw [if_neg (fun z => hdj z.1)]
      have eG : ∀ i, i ≤ j → agS d g G i = G i := fun i hi => by
        unfold agS
        rw [if_neg (fun z => by omega)]
      rw [eB]
      exact ⟨⟨i0, hi0, by rw [eG i0 hi0]; exact ei0⟩, fun i hi => by rw [eG i hi]; exact hup i hi⟩
theorem pinv_rep {M d : Nat} {g : Int32} (hM : M ≤ 60) (hd : 1 ≤ d) (hg : i32In g (-300) 300) : ∀ (r j k : Nat) (G B : Nat → Int32), k + r ≤ 100 → pinv M k G B → pinv M (k + r) (fold (fun _ G => agS d g G) r j G) (fold (fun _ B => abS M d g B) r j B) := by
  intro r
  induction r with
  | zero => intro j k G B _ h; exact h
  | succ r ih =>
    intro j k G B hk h
    have z := ih (j + 1) (k + 1) _ _ (by omega) (pinv_step hM (by omega) hd hg h)
    rw [show k + (r + 1) = k + 1 + r by omega]
    exact z
/-- gains, as numbers -/
theorem gaS_in (S : LW) {v : VS} (iv : IV v) {p : Nat} (hp : p < sN v) (t : Nat) : i32In (gaS S v p t) (-300) 300 := by
  obtain ⟨o, ho, eo⟩ := (iv p hp).2.2.2.2.2.2
  have h99 : i32In (askS S v 1 p t) (-99) 99 := by
    have e : askS S v 1 p t = wiS (S (sL v) 1 (nmS v p t)) (-99) 99 := rfl
    have e1 : (-99 : Int32).toInt = -99 := by decide
    have e2 : (99 : Int32).toInt = 99 := by decide
    rw [e]
    unfold wiS i32In
    simp only [Int32.le_iff_toInt_le, e1, e2]
    split
    · split <;> omega
    · omega
  have o9 : (nI o).toInt = (o : Int) := nI_toInt (by omega)
  have e0 : (0 : Int32).toInt = 0 := by decide
  unfold i32In at h99 ⊢
  have ea : (askS S v 1 p t + nI o).toInt = (askS S v 1 p t).toInt + (nI o).toInt := i32_add (by omega) (by omega)
  have en : (-askS S v 1 p t).toInt = -(askS S v 1 p t).toInt := by
    rw [Int32.toInt_neg]
    exact Int.bmod_eq_of_le (by omega) (by omega)
  have e2m : (2 * (askS S v 1 p t + nI o)).toInt = 2 * ((askS S v 1 p t).toInt + (nI o).toInt) := by
    rw [Int32.toInt_mul, ea]
    have : (2 : Int32).toInt = 2 := by decide
    rw [this]
    exact Int.bmod_eq_of_le (by omega) (by omega)
  unfold gaS
  rw [eo]
  split
  · split
    · rw [ea]; omega
    · omega
  · split
    · split
      · rw [e2m]; omega
      · rw [e0]; omega
    · split
      · rw [en]; omega
      · omega
theorem clamp_le {x : Int32} {k : Nat} (e : x = nI k) (hk : k < 2147483648) : x.toNatClampNeg = k := by rw [e, nI_clamp hk]
theorem pinv_plan (S : LW) {v : VS} (iv : IV v) {p : Nat} (hp : p < sN v) {M : Nat} (hM : M ≤ 60) : ∀ (r t k : Nat) (G B : Nat → Int32), t + r = 8 → k + 9 * r ≤ 90 → pinv M k G B → ∃ k', k' ≤ 90 ∧ pinv M k' (fold (fun t B => fold (fun _ B => agS (goS S v p t).toNatClampNeg (gaS S v p t) B) (sR v (12 * p + t)).toNatClampNeg 0 B) r t G) (fold (fun t B => fold (fun _ B => abS M (goS S v p t).toNatClampNeg (gaS S v p t) B) (sR v (12 * p + t)).toNatClampNeg 0 B) r t B) := by
  intro r
  induction r with
  | zero => intro t k G B _ hk h; exact ⟨k, by omega, h⟩
  | succ r ih =>
    intro t k G B ht hk h
    obtain ⟨d, hd1, hd2, ed⟩ := goS_nI S iv hp t
    obtain ⟨z, hz, ez⟩ := (iv p hp).1 t (by omega)
    rw [fold, fold]
    have h2 := pinv_rep (d := (goS S v p t).toNatClampNeg) hM (by rw [clamp_le ed (by omega)]; exact hd1) (gaS_in S iv hp t) (sR v (12 * p + t)).toNatClampNeg 0 k G B (by rw [clamp_le ez (by omega)]; omega) h
    exact ih (t + 1) (k + (sR v (12 * p + t)).toNatClampNeg) _ _ (by omega) (by rw [clamp_le ez (by omega)]; omega) h2
theorem pinv_0 (M : Nat) : pinv M 0 (fun j => if j = 0 then 0 else -9999) (fun _ => 0) := by
  have e0 : (0 : Int32).toInt = 0 := by decide
  have e9 : (-9999 : Int32).toInt = -9999 := by decide
  refine ⟨rfl, fun j hj => ?_, fun j hj => ⟨⟨0, Nat.zero_le _, rfl⟩, fun i hi => ?_⟩⟩
  · unfold i32In
    show _ ≤ (if j = 0 then (0 : Int32) else -9999).toInt ∧ (if j = 0 then (0 : Int32) else -9999).toInt ≤ _
    split
    · rw [e0]; omega
    · rw [e9]; omega
  · show (if i = 0 then (0 : Int32) else -9999).toInt ≤ (0 : Int32).toInt
    split
    · exact Int.le_refl _
    · rw [e0, e9]; decide
/-- the least place of the most -/
def bestN (G : Nat → Int32) : Nat → Nat → Nat → Nat
  | 0, _, b => b
  | r + 1, k, b => bestN G r (k + 1) (if G k ≤ G b then b else k)
theorem bestN_spec (G : Nat → Int32) : ∀ (r k b : Nat), b < k → (∀ i, i < k → (G i).toInt ≤ (G b).toInt) → (∀ i, i < b → (G i).toInt < (G b).toInt) → bestN G r k b < k + r ∧ (∀ i, i < k + r → (G i).toInt ≤ (G (bestN G r k b)).toInt) ∧ ∀ i, i < bestN G r k b → (G i).toInt < (G (bestN G r k b)).toInt := by
  intro r
  induction r with
  | zero => intro k b hb h1 h2; exact ⟨hb, h1, h2⟩
  | succ r ih =>
    intro k b hb h1 h2
    rw [bestN]
    by_cases hc : G k ≤ G b
    · rw [if_pos hc]
      have hc' := Int32.le_iff_toInt_le.mp hc
      obtain ⟨a1, a2, a3⟩ := ih (k + 1) b (by omega) (fun i hi => by
        by_cases hik : i = k
        · rw [hik]; exact hc'
        · exact h1 i (by omega)) h2
      exact ⟨by omega, fun i hi => a2 i (by omega), a3⟩
    · rw [if_neg hc]
      have hc' : (G b).toInt < (G k).toInt := Int32.lt_iff_toInt_lt.mp (Int32.not_le.mp hc)
      obtain ⟨a1, a2, a3⟩ := ih (k + 1) k (by omega) (fun i hi => by
        by_cases hik : i = k
        · rw [hik]; exact Int.le_refl _
        · have := h1 i (by omega); omega) (fun i hi => by have := h1 i (by omega); omega)
      exact ⟨by omega, fun i hi => a2 i (by omega), a3⟩
/-- the least place at which the class's row has its last value -/
theorem best_eq {M k : Nat} {G B : Nat → Int32} (h : pinv M k G B) : B M = G (bestN G M 1 0) ∧ B (bestN G M 1 0) = B M ∧ bestN G M 1 0 ≤ M ∧ ∀ j, j < bestN G M 1 0 → ¬ B j = B M := by
  obtain ⟨a1, a2, a3⟩ := bestN_spec G M 1 0 (by decide) (fun i hi => by rw [show i = 0 by omega]; exact Int.le_refl _) (fun i hi => by omega)
  generalize bestN G M 1 0 = b at a1 a2 a3 ⊢
  obtain ⟨h0, hG, hB⟩ := h
  have bM : (B M).toInt = (G b).toInt := by
    obtain ⟨⟨i, hi, ei⟩, hu⟩ := hB M (Nat.le_refl _)
    have := a2 i (by omega)
    have := hu b (by omega)
    rw [← ei] at *
    omega
  have bb : (B b).toInt = (G b).toInt := by
    obtain ⟨⟨i, hi, ei⟩, hu⟩ := hB b (by omega)
    have := a2 i (by omega)
    have := hu b (Nat.le_refl _)
    rw [← ei] at *
    omega
  refine ⟨Int32.toInt_inj.mp bM, Int32.toInt_inj.mp (bb.trans bM.symm), by omega, fun j hj e => ?_⟩
  obtain ⟨⟨i, hi, ei⟩, hu⟩ := hB j (by omega)
  have := a3 i (by omega)
  rw [ei, e] at this
  omega
end PPlan
