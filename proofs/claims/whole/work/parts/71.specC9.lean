section PC9
variable {S : LW} {T : TX} {n o : Nat} {c : ST} {v : VS} {hs : HS}
theorem pinv_00 {M : Nat} {B : Nat → Int32} (hB : ∀ j, j ≤ M → B j = 0) : pinv M 0 (fun j => if j = 0 then 0 else -9999) B := by
  obtain ⟨a, b, d⟩ := pinv_0 M
  refine ⟨a, b, fun j hj => ?_⟩
  rw [hB j hj]
  exact d j hj
theorem c_plan_L56 {M b : Nat} {B : Nat → Int32} (hM : M ≤ 60) (hB : ∀ j, j < 61 → ga 0 8 c j = B j) (h1 : B b = B M) (h2 : b ≤ M) (h3 : ∀ j, j < b → ¬ B j = B M) : ∀ (r q k : Nat), k + r = b → r < q → f_X4_plan_L56 T q (nI M) (nI k) c = some (nI b, c) := by
  intro r
  induction r with
  | zero =>
    intro q k hk hq
    obtain ⟨q, rfl⟩ : ∃ z, q = z + 1 := ⟨q - 1, by omega⟩
    have e : k = b := by omega
    subst e
    rw [f_X4_plan_L56]
    unfold f_X4_plan_L84
    by_cases hm : M ≤ k
    · rw [if_pos (nI_le hm (by omega))]
    · rw [if_neg (nI_ge (by omega) (by omega)), ald_nI (by omega) (by omega), ald_nI (by omega) (by omega), hB k (by omega), hB M (by omega), if_pos h1]
  | succ r ih =>
    intro q k hk hq
    obtain ⟨q, rfl⟩ : ∃ z, q = z + 1 := ⟨q - 1, by omega⟩
    rw [f_X4_plan_L56, if_neg (nI_ge (by omega) (by omega)), ald_nI (by omega) (by omega), ald_nI (by omega) (by omega), hB k (by omega), hB M (by omega), if_neg (h3 k (by omega)), nI_1]
    exact ih q (k + 1) (by omega) (by omega)
theorem c_plan (h : CC S T 2 c v) {p M : Nat} (hp : p < sN v) (hM : M ≤ 60) (w : Int32) : ∃ c', bnd (f_X4_fillBest T (nI p) (nI M) c) (fun _ t39 => if w = 0 then ald (ga 0 8 t39) 61 (nI M) (fun x51 => some (x51, t39)) else f_X4_plan_L56 T 1000 (nI M) 0 t39) = some (planS S v p M w, c') ∧ CC S T 2 c' v ∧ fr pBs c c' := by
  obtain ⟨c1, e1, g1, f1⟩ := c_fill_L2 (T := T) hM (nI p) (M + 1) 1000 0 c (fun j hj => by omega) (Nat.zero_add _) (by omega)
  have h1 := h.bs (f1.mono pBe_s)
  obtain ⟨c2, e2, g2, h2, f2⟩ := c_fill_L22 (c := c1) (B := fun j => ga 0 8 c1 j) hp hM 8 1000 0 h1 (fun j hj => rfl) (by omega) (by omega)
  obtain ⟨k', hk', pv⟩ := pinv_plan S h.2.2.2.2.2 hp hM 8 0 0 _ _ (by decide) (by decide) (pinv_00 (B := fun j => ga 0 8 c1 j) g1)
  obtain ⟨b1, b2, b3, b4⟩ := best_eq pv
  refine ⟨c2, ?_, h2, (f1.mono pBe_s).trans f2⟩
  unfold f_X4_fillBest
  rw [show (0 : Int32) = nI 0 from rfl, e1]
  unfold f_X4_fillBest_L20
  rw [show f_X4_fillBest_L22 T 1000 (nI p) (nI M) 0 c1 = _ from e2, bnd_some]
  unfold planS plS
  by_cases hw : w = nI 0
  · rw [if_pos hw, if_pos (show w = 0 from hw), ald_nI (by omega) (by omega), g2 M (by omega), b1]
  · rw [if_neg hw, if_neg (show ¬ w = 0 from hw)]
    exact c_plan_L56 hM g2 b2 b3 b4 _ 1000 0 (Nat.zero_add _) (by omega)
/-! sheets that are written -/
def nrS (sort x : Int32) : Int32 := if sort = 0 then x.toInt8.toInt32 else if sort = 1 then x.toInt16.toInt32 else x
def pSh (s a k : Nat) : Prop := a = 5 + s
theorem c_write {s i z : Nat} {x : Int32} (hz : gs (5 + s) 2 c = nI z) (hz2 : z ≤ 40) (hi : i < z) : ∃ c', f_X1_write T (5 + s) (nI i) x c = some ((), c') ∧ c' = pa (5 + s) 0 (upd (ga (5 + s) 0 c) i (nrS (gs (5 + s) 1 c) x)) c := by
  unfold f_X1_write f_X1_has f_X1_write_L39 f_X1_write_L40 nrS
  rw [if_neg (nI_pos (by omega)), hz, if_neg (nI_ge (by omega) (by omega))]
  refine ⟨_, ?_, rfl⟩
  show bnd (some (1, c)) _ = _
  rw [bnd_some, if_neg one_ne0]
  by_cases h0 : gs (5 + s) 1 c = 0
  · rw [if_pos h0, if_pos h0, ast_nI (by omega) (by omega)]
  · rw [if_neg h0, if_neg h0]
    by_cases h1 : gs (5 + s) 1 c = 1
    · rw [if_pos h1, if_pos h1, ast_nI (by omega) (by omega)]
    · rw [if_neg h1, if_neg h1, ast_nI (by omega) (by omega)]
theorem c_shBecomes_L {s z : Nat} (hz2 : z ≤ 40) : ∀ (r q k : Nat) (c : ST), gs (5 + s) 2 c = nI z → (∀ i, i < k → ga (5 + s) 0 c i = 0) → k + r = z → r < q → ∃ c', f_X1_becomes_L21 T q (5 + s) (nI k) c = some ((), c') ∧ (∀ i, i < z → ga (5 + s) 0 c' i = 0) ∧ (∀ j, gs (5 + s) j c' = gs (5 + s) j c) ∧ fr (pSh s) c c' := by
  intro r
  induction r with
  | zero =>
    intro q k c hz hd hk hq
    obtain ⟨q, rfl⟩ : ∃ z, q = z + 1 := ⟨q - 1, by omega⟩
    rw [f_X1_becomes_L21, hz, if_pos (nI_le (by omega) (by omega))]
    exact ⟨c, rfl, fun i hi => hd i (by omega), fun j => rfl, fr.refl c⟩
  | succ r ih =>
    intro q k c hz hd hk hq
    obtain ⟨q, rfl⟩ : ∃ z, q = z + 1 := ⟨q - 1, by omega⟩
    rw [f_X1_becomes_L21, hz, if_neg (nI_ge (by omega) (by omega)), ast_nI (by omega) (by omega), nI_1]
    obtain ⟨c', g1, g2, g3, g4⟩ := ih q (k + 1) (pa (5 + s) 0 (upd (ga (5 + s) 0 c) k 0) c) hz (fun i hi => by
      rw [ga_pa, if_pos ⟨rfl, rfl⟩, upd_at]
      by_cases hik : i = k
      · rw [if_pos hik]
      · rw [if_neg hik, hd i (by omega)]) (by omega) (by omega)
    exact ⟨c', g1, g2, g3, (fr_pa (P := pSh s) rfl _ _).trans g4⟩
theorem c_shBecomes {s z : Nat} (hz2 : z ≤ 40) (x : Int32) (c : ST) : ∃ c', f_X1_becomes T (5 + s) x (nI z) c = some ((), c') ∧ gs (5 + s) 1 c' = x ∧ gs (5 + s) 2 c' = nI z ∧ (∀ i, i < z → ga (5 + s) 0 c' i = 0) ∧ fr (pSh s) c c' := by
  unfold f_X1_becomes
  have e : mxI 0 (mnI (nI z) 40) = nI z := by
    rw [mx_mn (by decide)]
    exact wi_in (nI_le (a := 0) (by omega) (by omega)) (nI_le (b := 40) (by omega) (by omega))
  rw [put_eq, e, put_eq]
  obtain ⟨c', g1, g2, g3, g4⟩ := c_shBecomes_L (T := T) (s := s) hz2 z 1000 0 (ps (5 + s) 2 (nI z) (ps (5 + s) 1 x c)) (by rw [gs_ps, if_pos ⟨rfl, rfl⟩]) (fun i hi => by omega) (by omega) (by omega)
  refine ⟨c', g1, ?_, ?_, g2, ((fr_ps (P := pSh s) rfl _ _).trans (fr_ps (P := pSh s) rfl _ _)).trans g4⟩
  · rw [g3, gs_ps, if_neg (by omega), gs_ps, if_pos ⟨rfl, rfl⟩]
  · rw [g3, gs_ps, if_pos ⟨rfl, rfl⟩]
/-- the sheets with one that is new -/
def hsW (hs : HS) (o : Nat) (x : Int32) (z : Nat) (W : Nat → Int32) : HS := (fun s => if s = o then x else hs.1 s, fun s => if s = o then z else hs.2.1 s, fun s => if s = o then W else hs.2.2 s)
theorem hc_sheet {c' : ST} {u z : Nat} {x : Int32} {W : Nat → Int32} (h : HC c hs) (f : fr (pSh u) c c') (h1 : gs (5 + u) 1 c' = x) (h2 : gs (5 + u) 2 c' = nI z) (h3 : z ≤ 40) (h4 : ∀ i, i < z → ga (5 + u) 0 c' i = W i) (h5 : x = -1 ∨ x = 0 ∨ x = 1 ∨ x = 2) : HC c' (hsW hs u x z W) := by
  intro s hs4
  unfold hsW
  by_cases hsu : s = u
  · subst hsu
    simp only [if_true]
    exact ⟨h1, h2, h3, h4, h5⟩
  · simp only [if_neg hsu]
    rw [f.gs (by unfold pSh; omega), f.gs (by unfold pSh; omega), f.ga (by unfold pSh; omega)]
    exact h s hs4
/-! a film -/
theorem runS_1 (S : LW) (cs : Nat → Int32) (k : Nat) (v : VS) : minS1 S (cs k) (runS S cs k v) = runS S cs (k + 1) v := by
  unfold runS
  rw [fold_succ, Nat.zero_add]
def pFm (u a k : Nat) : Prop := a = 3 ∨ (a = 2 ∧ k = 1) ∨ a = 5 + u
theorem pCo_fm (u a k : Nat) (h : pCo 3 a k) : pFm u a k := by
  rcases h with e | e
  · exact Or.inl e
  · exact Or.inr (Or.inl e)
theorem pSh_fm (u a k : Nat) (h : pSh u a k) : pFm u a k := Or.inr (Or.inr h)
theorem c_film_L {s u p sz : Nat} {cs : Nat → Int32} (hs4 : s < 4) (hu : u < 4) (hsu : s ≠ u) (hsz : sz ≤ 40) {v0 : VS} (hp : p < sN v0) (hok : ∀ i, i < sz → celOk (sN v0) (cs i)) : ∀ (r q k : Nat) (c : ST), CC S T 3 c (runS S cs k v0) → gs (5 + s) 2 c = nI sz → (∀ i, i < sz → ga (5 + s) 0 c i = cs i) → gs (5 + u) 1 c = 0 → gs (5 + u) 2 c = nI sz → (∀ i, i < k → ga (5 + u) 0 c i = fiW S cs p v0 i) → k + r = sz → r < q →
    ∃ c', f_X4_film_L85 T q (nI p) (5 + s) (5 + u) (nI k) c = some (nI sz, c') ∧ gs (5 + u) 1 c' = 0 ∧ gs (5 + u) 2 c' = nI sz ∧ (∀ i, i < sz → ga (5 + u) 0 c' i = fiW S cs p v0 i) ∧ fr (pFm u) c c' := by
  intro r
  induction r with
  | zero =>
    intro q k c h hz hc h1 h2 hf hk hq
    obtain ⟨q, rfl⟩ : ∃ z, q = z + 1 := ⟨q - 1, by omega⟩
    rw [f_X4_film_L85, hz, if_pos (nI_le (by omega) (by omega))]
    unfold f_X4_film_L141
    rw [hz]
    exact ⟨c, rfl, h1, h2, fun i hi => hf i (by omega), fr.refl c⟩
  | succ r ih =>
    intro q k c h hz hc h1 h2 hf hk hq
    obtain ⟨q, rfl⟩ : ∃ z, q = z + 1 := ⟨q - 1, by omega⟩
    have hN := sX_N (sX_run S cs k v0)
    rw [f_X4_film_L85, hz, if_neg (nI_ge (by omega) (by omega)), ald_nI (by omega) (by omega), hc k (by omega)]
    obtain ⟨c1, c2, y, g1, g2, g3, g4, f1, f2⟩ := c_min h h3 (x := cs k) (by rw [hN]; exact hok k (by omega))
    rw [runS_1] at g4
    have h6 := g4.2.1
    have hN1 := sX_N (sX_run S cs (k + 1) v0)
    have f12 := f1.trans f2
    have n5 : ∀ a j, 5 ≤ a → ¬ pCo 3 a j := fun a j ha => pCo_5 h3 ha
    rw [g1, bnd_some, g2, bnd_some, ald_nI (by omega) (by omega), g4.1.wit (by omega)]
    have hz2 : gs (5 + u) 2 c2 = nI sz := (f12.gs (n5 _ _ (by omega))).trans h2
    have hz1 : gs (5 + u) 1 c2 = 0 := (f12.gs (n5 _ _ (by omega))).trans h1
    obtain ⟨c3, e3, q3⟩ := c_write (T := T) (x := sR (runS S cs (k + 1) v0) (12 * p + 8)) hz2 hsz (show k < sz by omega)
    have en : nrS (gs (5 + u) 1 c2) (sR (runS S cs (k + 1) v0) (12 * p + 8)) = fiW S cs p v0 k := by
      obtain ⟨j, hj, ej⟩ := (g4.2.2.2.2.2 p (by rw [hN1]; exact hp)).2.1
      unfold nrS fiW
      rw [hz1, if_pos rfl, ej]
      exact fa_byte_small (by omega)
    rw [en] at q3
    have f3 : fr (pSh u) c2 c3 := by rw [q3]; exact fr_pa (P := pSh u) rfl _ _
    rw [e3, bnd_some, nI_1]
    have w3 : ∀ i, ga (5 + u) 0 c3 i = if i = k then fiW S cs p v0 k else ga (5 + u) 0 c2 i := fun i => by
      rw [q3, ga_pa, if_pos ⟨rfl, rfl⟩, upd_at]
    obtain ⟨c', l1, l2, l3, l4, l5⟩ := ih q (k + 1) c3 ⟨g4.1.fr f3 (fun k hk => by unfold pSh; omega), g4.2⟩ (by rw [f3.gs (by unfold pSh; omega), f12.gs (n5 _ _ (by omega))]; exact hz) (fun i hi => by rw [f3.ga (by unfold pSh; omega), f12.ga (n5 _ _ (by omega))]; exact hc i hi) (by rw [q3, gs_pa]; exact hz1) (by rw [q3, gs_pa]; exact hz2) (fun i hi => by
      rw [w3]
      by_cases hik : i = k
      · rw [if_pos hik, hik]
      · rw [if_neg hik, f12.ga (n5 _ _ (by omega))]
        exact hf i (by omega)) (by omega) (by omega)
    exact ⟨c', l1, l2, l3, l4, ((f12.mono (pCo_fm u)).trans (f3.mono (pSh_fm u))).trans l5⟩
end PC9
