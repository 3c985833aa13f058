section PPs8
variable {T : TX} {c m c1 m1 : ST}
def B0 : Nat → Int32 := sBy 12
theorem B0_43 : sLn 12 = 43 := by decide +kernel
theorem B0_hi : ∀ i, i < 160 → 43 ≤ i → B0 i = 0 := by decide +kernel
theorem B0_lit : ∀ i, i < 43 → litM_113_f i = B0 i := by decide +kernel
theorem B0_text : (pzT B0 43).2.isSome = true := by decide +kernel
theorem MW_lit : ∀ k, k < 12 → ∀ c, c < 8 → litM_373_f (8 * k + c) = (wd (prm k)).getD c 32 := by decide +kernel
theorem HM_lit : ∀ s, s < 4 → litM_73_f s = -1 := by decide +kernel
def pB0 (o k : Nat) : Prop := o = 1 ∧ (k = 0 ∨ k = 1)
theorem c_i_L : ∀ (r q k : Nat) (c : ST), (∀ i, i < 160 → ga 1 0 c i = if i < k then B0 i else 0) → gs 1 1 c = nI k → k + r = 43 → r < q → ∃ c', f_iL T q (nI k) c = f_iT T c' ∧ (∀ i, i < 160 → ga 1 0 c' i = if i < 43 then B0 i else 0) ∧ gs 1 1 c' = nI 43 ∧ fr pB0 c c' := by
  have h43 := B0_43
  intro r
  induction r with
  | zero =>
    intro q k c h h1 hk hq
    obtain ⟨q, rfl⟩ : ∃ y, q = y + 1 := ⟨q - 1, (by omega)⟩
    obtain rfl : k = 43 := (by omega)
    rw [f_iL, j_len (by omega), bnd_some, h43, if_pos (nI_le (Nat.le_refl _) (by omega))]
    exact ⟨c, rfl, h, h1, fr.refl c⟩
  | succ r ih =>
    intro q k c h h1 hk hq
    obtain ⟨q, rfl⟩ : ∃ y, q = y + 1 := ⟨q - 1, (by omega)⟩
    rw [f_iL, j_len (by omega), bnd_some, h43, if_neg (nI_ge (by omega) (by omega)), j_at (by omega) (by omega), bnd_some]
    unfold f_X2_add f_X2_add_L30
    rw [h1, if_neg (c := (160 : Int32) ≤ nI k) (nI_ge (b := 160) (by omega) (by omega)), ast_nI (by omega) (by omega), put_eq, bnd_some, gs_pa, h1, nI_1]
    have f := (fr_pa (P := pB0) (o := 1) (k := 0) ⟨rfl, (by decide)⟩ (upd (ga 1 0 c) k (sBy 12 k)) c).trans (fr_ps (P := pB0) (o := 1) (k := 1) ⟨rfl, (by decide)⟩ (nI (k + 1)) _)
    obtain ⟨c', g1, g2, g3, g4⟩ := ih q (k + 1) (ps 1 1 (nI (k + 1)) (pa 1 0 (upd (ga 1 0 c) k (sBy 12 k)) c)) (fun i hi => by
      rw [ga_ps, ga_pa_s, upd_at, h i hi]
      by_cases e : i = k
      · rw [if_pos e, if_pos (by omega), e]; rfl
      · rw [if_neg e]
        exact if_iff (by omega) _ _) (by rw [gs_ps, if_pos ⟨rfl, rfl⟩]) (by omega) (by omega)
    exact ⟨c', g1, g2, g3, f.trans g4⟩
theorem m_i_L : ∀ (r q k : Nat) (m : ST), (∀ i, i < 43 → ga 50 17 m i = B0 i) → (∀ i, i < 160 → ga 50 5 m i = if i < k then B0 i else 0) → k + r = 43 → r < q → ∃ m', f_X5_init_L997 q (nI k) m = f_X5_init_L1021 m' ∧ (∀ i, i < 160 → ga 50 5 m' i = if i < 43 then B0 i else 0) ∧ fr (fun o k => o = 50 ∧ k = 5) m m' := by
  intro r
  induction r with
  | zero =>
    intro q k m h17 h hk hq
    obtain ⟨q, rfl⟩ : ∃ y, q = y + 1 := ⟨q - 1, (by omega)⟩
    obtain rfl : k = 43 := (by omega)
    rw [f_X5_init_L997, if_pos (c := (43 : Int32) ≤ nI 43) (by decide)]
    exact ⟨m, rfl, h, fr.refl m⟩
  | succ r ih =>
    intro q k m h17 h hk hq
    obtain ⟨q, rfl⟩ : ∃ y, q = y + 1 := ⟨q - 1, (by omega)⟩
    rw [f_X5_init_L997, if_neg (c := (43 : Int32) ≤ nI k) (nI_ge (b := 43) (by omega) (by omega)), ald_nI (by omega) (by omega), ast_nI (by omega) (by omega), h17 k (by omega), nI_1]
    have f := fr_pa (P := fun o k => o = 50 ∧ k = 5) ⟨rfl, rfl⟩ (upd (ga 50 5 m) k (B0 k)) m
    obtain ⟨m', g1, g2, g3⟩ := ih q (k + 1) (pa 50 5 (upd (ga 50 5 m) k (B0 k)) m) (fun i hi => by rw [f.ga (by decide)]; exact h17 i hi) (fun i hi => by
      rw [ga_pa_s, upd_at, h i hi]
      by_cases e : i = k
      · rw [if_pos e, if_pos (by omega), e]
      · rw [if_neg e]
        exact if_iff (by omega) _ _) (by omega) (by omega)
    exact ⟨m', g1, g2, f.trans g3⟩
def v0S : VS := (fun _ => 0, fun _ => 0, fun _ => 0, 0, 0, 0)
def h0S : HS := (fun _ => -1, fun _ => 0, fun _ _ => 0)
theorem ps_init : PSinit Rel := by
  obtain ⟨k, hk⟩ := Option.isSome_iff_exists.mp B0_text
  obtain ⟨c0, e1, b1, b2, f1⟩ := c_i_L (T := T0) 43 1000 0 sC0 (fun i hi => by rw [if_neg (Nat.not_lt_zero _)]; rfl) rfl rfl (by omega)
  have hB : ∀ i, i < 160 → (if i < 43 then B0 i else 0) = B0 i := fun i hi => by
    by_cases y : i < 43
    · rw [if_pos y]
    · rw [if_neg y, B0_hi i hi (by omega)]
  have hTB : TB c0 B0 43 := ⟨fun i hi => (b1 i hi).trans (hB i hi), b2, (by decide)⟩
  obtain ⟨r, c', e2, f2, -, S1⟩ := c_isText (T := T0) hTB
  obtain ⟨hr, hE, q0, q1, q2⟩ := S1 k hk
  obtain ⟨m0, e3, d1, f3⟩ := m_i_L 43 1000 0 sM0 (fun i hi => B0_lit i hi) (fun i hi => by rw [if_neg (Nat.not_lt_zero _)]; rfl) rfl (by omega)
  have f4 : fr (fun o k => o = 50 ∧ (k = 5 ∨ k = 6)) sM0 (ps 50 6 43 m0) := (f3.mono (fun o k y => ⟨y.1, Or.inl y.2⟩)).trans (fr_ps (P := fun o k => o = 50 ∧ (k = 5 ∨ k = 6)) (o := 50) (k := 6) ⟨rfl, (by decide)⟩ 43 m0)
  have hMW : MW (ps 50 6 43 m0) := fun k hk c hc => by rw [f4.ga (by decide)]; exact MW_lit k hk c hc
  have hMB : MB (ps 50 6 43 m0) B0 43 := ⟨fun i hi => by rw [ga_ps]; exact (d1 i hi).trans (hB i hi), by rw [gs_ps, if_pos ⟨rfl, rfl⟩]; rfl, (by decide), hMW⟩
  obtain ⟨-, S2⟩ := m_text hMB (t := 0) ((f4.gs (by decide)).trans rfl) (by decide)
  obtain ⟨m', e4, g6, g9, F, a0, a1, a2, a3, a4⟩ := S2 k hk
  have hg : goodL k := (pzT_facts (z := 43) (by decide)).2 k hk
  have G : ∀ j, (∀ P : Nat → Nat → Prop, P = pFt → ¬ P 50 j) → ¬ (50 = 50 ∧ (j = 5 ∨ j = 6)) → gs 50 j m' = gs 50 j sM0 ∧ ga 50 j m' = ga 50 j sM0 := fun j y1 y2 => ⟨(F.1.gs (y1 _ rfl)).trans (f4.gs y2), (F.1.ga (y1 _ rfl)).trans (f4.ga y2)⟩
  refine ⟨c', m', ?_, ?_, fun q => ⟨v0S, h0S, ?_⟩⟩
  · rw [show f_iL T0 1000 0 sC0 = _ from e1]
    unfold f_iT
    rw [e2, bnd_some, hr, if_neg one_ne0]
  · unfold f_X5_init
    rw [show f_X5_init_L997 1000 0 sM0 = _ from e3]
    unfold f_X5_init_L1021
    rw [put_eq, e4, bnd_some]
  · have hto : TO (tC1 q c') m' := fun t ht => by
      obtain rfl : t = 0 := Nat.lt_one_iff.mp ht
      obtain ⟨x, y⟩ := CT_new (T' := tC1 q c') (t := 0) (q := q) rfl hE q0 q1 q2 hg
      exact ⟨_, _, _, x, a0, a1, a2, a3, fun i hi => by rw [a4 i hi, y i hi, gd_map hi]⟩
    refine ⟨hto, ⟨⟨rfl, rfl, rfl, fun p hp => ⟨fun t ht => rfl, rfl, rfl, rfl, rfl⟩, fun p hp => absurd hp (Nat.not_lt_zero _)⟩, Nat.zero_le _, Nat.zero_lt_one, (by decide : 1 ≤ 6), hto.lc, fun p hp => absurd hp (Nat.not_lt_zero _)⟩, ⟨⟨?_, ?_, ?_, fun j hj => ?_, fun p hp => absurd hp (Nat.not_lt_zero _)⟩, Nat.zero_le _, Nat.zero_lt_one, (by decide : 1 ≤ 6), hto.lm (by decide : 1 ≤ 6)⟩, fun s hs => ?_, fun s hs => ⟨?_, ?_, Nat.zero_le _, fun i hi => absurd hi (Nat.not_lt_zero _)⟩, rfl, g9, ⟨0, Nat.zero_le _, rfl, g6, fun i hi => ?_, ?_⟩, Or.inl ⟨rfl, ?_⟩, ⟨0, Nat.zero_le _, rfl⟩⟩
    · exact (G 0 (fun P e => by rw [e]; unfold pFt; decide) (by decide)).1
    · exact (G 4 (fun P e => by rw [e]; unfold pFt; decide) (by decide)).1
    · exact (G 10 (fun P e => by rw [e]; unfold pFt; decide) (by decide)).1
    · rw [(G 3 (fun P e => by rw [e]; unfold pFt; decide) (by decide)).2]; rfl
    · rcases (show s = 0 ∨ s = 1 ∨ s = 2 ∨ s = 3 by omega) with rfl | rfl | rfl | rfl
      · exact ⟨rfl, rfl, Nat.zero_le _, fun i hi => absurd hi (Nat.not_lt_zero _), Or.inl rfl⟩
      · exact ⟨rfl, rfl, Nat.zero_le _, fun i hi => absurd hi (Nat.not_lt_zero _), Or.inl rfl⟩
      · exact ⟨rfl, rfl, Nat.zero_le _, fun i hi => absurd hi (Nat.not_lt_zero _), Or.inl rfl⟩
      · exact ⟨rfl, rfl, Nat.zero_le _, fun i hi => absurd hi (Nat.not_lt_zero _), Or.inl rfl⟩
    · rw [(G 14 (fun P e => by rw [e]; unfold pFt; decide) (by decide)).2]; exact HM_lit s hs
    · rw [(G 15 (fun P e => by rw [e]; unfold pFt; decide) (by decide)).2]; rfl
    · rw [F.1.ga (by unfold pFt; decide)]
      show ga 1 0 c' i = _
      rw [f2.ga (by unfold pIt; decide), hTB.1 i hi, hMB.1 i hi]
    · unfold MW
      rw [F.1.ga (by unfold pFt; decide)]
      exact hMW
    · exact (G 11 (fun P e => by rw [e]; unfold pFt; decide) (by decide)).1
end PPs8
