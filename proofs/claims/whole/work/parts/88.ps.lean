section PPs7
variable {S : LW} {T : TX} {c m c1 m1 : ST} {v v' : VS} {hs hs' : HS}
theorem segL_eq {F : Nat → Int32} : ∀ (l : List Int32) (b : Nat), (∀ i, i < l.length → F (b + i) = l.getD i 0) → segL F b l.length = l := by
  intro l
  induction l with
  | nil => intro b h; rfl
  | cons x l ih =>
    intro b h
    show F b :: segL F (b + 1) l.length = x :: l
    rw [ih (b + 1) (fun i hi => by
      have := h (i + 1) (Nat.succ_lt_succ hi)
      rw [List.getD_cons_succ] at this
      rw [← this, show b + 1 + i = b + (i + 1) by omega]), show F b = x from h 0 (Nat.succ_pos _)]
theorem gd_l {a b : List Int32} {i : Nat} (h : i < a.length) : (a ++ b).getD i 0 = a.getD i 0 := by
  rw [List.getD_eq_getElem?_getD, List.getElem?_append_left h, ← List.getD_eq_getElem?_getD]
theorem gd_r {a b : List Int32} (i : Nat) : (a ++ b).getD (a.length + i) 0 = b.getD i 0 := by
  rw [List.getD_eq_getElem?_getD, List.getElem?_append_right (Nat.le_add_right _ _), Nat.add_sub_cancel_left, ← List.getD_eq_getElem?_getD]
theorem gd_mem {a : List Int32} {i : Nat} (h : i < a.length) : a.getD i 0 ∈ a := by
  rw [List.getD_eq_getElem?_getD, List.getElem?_eq_getElem h]
  exact List.getElem_mem h
theorem gd_map {a : List Int32} {i : Nat} (h : i < a.length) : (a.map cv).getD i 0 = cv (a.getD i 0) := by
  rw [List.getD_eq_getElem?_getD, List.getD_eq_getElem?_getD, List.getElem?_map, List.getElem?_eq_getElem h]
  rfl
theorem mn_nI {a n : Nat} (h : a ≤ n) (hn : n ≤ 160) : mnI (nI a) (nI n) = nI a := by
  unfold mnI
  rw [if_neg (nI_nlt h (by omega))]
theorem txZ_nI {n : Nat} (hn : n ≤ 160) : txZ (nI n) = nI n := by
  unfold txZ
  rw [show mnI (nI n) 160 = nI n from mn_nI (n := 160) hn (by decide)]
  unfold mxI
  by_cases h0 : n = 0
  · rw [h0]; rfl
  · rw [if_pos (c := (0 : Int32) < nI n) (nI_lt (a := 0) (by omega) (by omega))]
theorem CT_new {T' : TX} {σ : ST} {t : Nat} {q : Nat × Nat × Nat} {k : L3} (eT : T'.2 t = ((q.1, q.2.1, q.2.2, (txZ (gs 1 7 σ)).toNatClampNeg), txC (ga 1 6 σ) (gs 1 7 σ), txE (ga 1 8 σ) (gs 1 7 σ))) (he : Em σ (k.1 ++ k.2.1 ++ k.2.2)) (e0 : ga 1 8 σ 0 = nI k.1.length) (e1 : ga 1 8 σ 1 = nI (k.1 ++ k.2.1).length) (e2 : ga 1 8 σ 2 = nI (k.1 ++ k.2.1 ++ k.2.2).length) (hg : goodL k) : CT T' t k.1.length (k.1 ++ k.2.1).length (k.1 ++ k.2.1 ++ k.2.2).length ∧ ∀ i, i < (k.1 ++ k.2.1 ++ k.2.2).length → tCode T' t i = (k.1 ++ k.2.1 ++ k.2.2).getD i 0 := by
  obtain ⟨k0, k1, k2⟩ := k
  obtain ⟨g0, g1, g2, gk, gl⟩ := hg
  obtain ⟨h7, h160, h6⟩ := he
  simp only at e0 e1 e2 g0 g1 g2 gk gl h7 h160 h6 ⊢
  have l1 : (k0 ++ k1).length = k0.length + k1.length := List.length_append
  have l2 : (k0 ++ k1 ++ k2).length = (k0 ++ k1).length + k2.length := List.length_append
  have hz : txZ (gs 1 7 σ) = nI (k0 ++ k1 ++ k2).length := by rw [h7, txZ_nI h160]
  have tc : ∀ i, i < (k0 ++ k1 ++ k2).length → tCode T' t i = (k0 ++ k1 ++ k2).getD i 0 := by
    intro i hi
    unfold tCode
    rw [eT]
    show txC (ga 1 6 σ) (gs 1 7 σ) i = _
    unfold txC
    rw [hz, nI_clamp (by omega)]
    show va_cpy (ga 1 6 σ) (fun _ => 0) 0 0 (k0 ++ k1 ++ k2).length i = _
    rw [cpy_in hi, h6 i hi]
  have te : ∀ j, j < 3 → tEnds T' t j = mnI (ga 1 8 σ j) (nI (k0 ++ k1 ++ k2).length) := by
    intro j hj
    unfold tEnds
    rw [eT]
    show txE (ga 1 8 σ) (gs 1 7 σ) j = _
    unfold txE
    rw [hz]
    show upd (upd (upd (fun _ => 0) 0 (mnI (ga 1 8 σ 0) (nI (k0 ++ k1 ++ k2).length))) 1 (mnI (ga 1 8 σ 1) (nI (k0 ++ k1 ++ k2).length))) 2 (mnI (ga 1 8 σ 2) (nI (k0 ++ k1 ++ k2).length)) j = _
    rcases (show j = 0 ∨ j = 1 ∨ j = 2 by omega) with rfl | rfl | rfl
    · rw [upd_ne _ _ (by decide), upd_ne _ _ (by decide), upd_eq]
    · rw [upd_ne _ _ (by decide), upd_eq]
    · rw [upd_eq]
  refine ⟨⟨?_, ?_, ?_, (by omega), (by omega), h160, ?_, fun i hi => ?_, ?_, ?_, ?_⟩, tc⟩
  · rw [te 0 (by omega), e0, mn_nI (by omega) h160]
  · rw [te 1 (by omega), e1, mn_nI (by omega) h160]
  · rw [te 2 (by omega), e2, mn_nI (by omega) h160]
  · unfold tL
    rw [eT]
    show (txZ (gs 1 7 σ)).toNatClampNeg = _
    rw [hz, nI_clamp (by omega)]
  · rw [tc i hi]
    exact gk _ (gd_mem hi)
  · rw [segL_eq k0 0 (fun i hi => by rw [Nat.zero_add, tc i (by omega), gd_l (by omega), gd_l hi])]
    exact g0
  · rw [show (k0 ++ k1).length - k0.length = k1.length by omega, segL_eq k1 _ (fun i hi => by rw [tc _ (by omega), gd_l (by omega), gd_r])]
    exact g1
  · rw [show (k0 ++ k1 ++ k2).length - (k0 ++ k1).length = k2.length by omega, segL_eq k2 _ (fun i hi => by rw [tc _ (by omega), gd_r])]
    exact g2
theorem TO.add {k : L3} (h : TO T m) (f : FT (tN T) m m1) (he : Em c1 (k.1 ++ k.2.1 ++ k.2.2)) (e0 : ga 1 8 c1 0 = nI k.1.length) (e1 : ga 1 8 c1 1 = nI (k.1 ++ k.2.1).length) (e2 : ga 1 8 c1 2 = nI (k.1 ++ k.2.1 ++ k.2.2).length) (hg : goodL k) (a0 : ga 50 8 m1 (4 * tN T) = 0) (a1 : ga 50 8 m1 (4 * tN T + 1) = nI k.1.length) (a2 : ga 50 8 m1 (4 * tN T + 2) = nI (k.1 ++ k.2.1).length) (a3 : ga 50 8 m1 (4 * tN T + 3) = nI (k.1 ++ k.2.1 ++ k.2.2).length) (a4 : ∀ i, i < (k.1 ++ k.2.1 ++ k.2.2).length → ga 50 7 m1 (200 * tN T + i) = ((k.1 ++ k.2.1 ++ k.2.2).map cv).getD i 0) (q : Nat × Nat × Nat) : TO (tAdd T q c1) m1 := by
  intro t ht
  have ht : t < tN T + 1 := ht
  by_cases e : t = tN T
  · subst e
    obtain ⟨x, y⟩ := CT_new (T' := tAdd T q c1) (t := tN T) (q := q) (if_pos rfl) he e0 e1 e2 hg
    exact ⟨_, _, _, x, a0, a1, a2, a3, fun i hi => by rw [a4 i hi, y i hi, gd_map hi]⟩
  · obtain ⟨n0, n1, n2, hc, b0, b1, b2, b3, b4⟩ := h t (by omega)
    have eT : (tAdd T q c1).2 t = T.2 t := if_neg e
    have h160 := hc.2.2.2.2.2.1
    refine ⟨n0, n1, n2, ?_, ?_, ?_, ?_, ?_, fun i hi => ?_⟩
    · unfold CT tEnds tL tCode at hc ⊢
      rw [eT]
      exact hc
    · rw [f.2.2 _ (by omega)]; exact b0
    · rw [f.2.2 _ (by omega)]; exact b1
    · rw [f.2.2 _ (by omega)]; exact b2
    · rw [f.2.2 _ (by omega)]; exact b3
    · unfold tCode
      rw [f.2.1 _ (by omega), eT]
      exact b4 i hi
def pFc (o k : Nat) : Prop := (o = 1 ∧ 1 ≤ k) ∨ (o = 0 ∧ k = 1)
theorem RelV.text {T' : TX} (h : RelV T c m v hs) (fc : fr pFc c c1) (fm : fr pFt m m1) (ht : TO T' m1) (hle : tN T ≤ tN T') (h6 : tN T' ≤ 6) (n0 : gs 0 1 c1 = nI (tN T')) (n9 : gs 50 9 m1 = nI (tN T')) (z1 : gs 1 1 c1 = 0) (z6 : gs 50 6 m1 = 0) : RelV T' c1 m1 v hs := by
  have hlt : sL v < tN T' := Nat.lt_of_lt_of_le h.cc.2.2.1 hle
  obtain ⟨z, hz, w1, w2, w3, w4⟩ := h.tp
  refine ⟨ht, ⟨h.cc.1.fr fc (fun k _ => by unfold pFc; omega), h.n6, hlt, h6, ht.lc, h.iv⟩, ⟨h.cm.1.fr fm (by unfold pFt; refine ⟨?_, ?_, ?_, ?_, ?_, ?_⟩ <;> decide), h.n6, hlt, h6, ht.lm h6⟩, h.hc.fr fc (fun a k _ => by unfold pFc; omega), h.hm.fr fm (by unfold pFt; decide), n0, n9, ⟨0, Nat.zero_le _, z1, z6, fun i hi => by rw [fc.ga (by unfold pFc; decide), fm.ga (by unfold pFt; decide)]; exact w3 i hi, ?_⟩, ?_, h.tm⟩
  · unfold MW
    rw [fm.ga (by unfold pFt; decide)]
    exact w4
  · rcases h.im.step fc ⟨by unfold pFc; decide, fun k => by unfold pFc; omega⟩ fm (by unfold pFt; decide) (Nat.le_refl _) (fun _ _ => ⟨rfl, rfl⟩) with y | ⟨y1, y2, w, r4, b1, b2, b3, b4, b5, b6, b7, b8, b9⟩
    · exact Or.inl y
    · exact Or.inr ⟨y1, y2, w, r4, b1, b2, b3, b4, b5, b6, Nat.lt_of_lt_of_le b7 hle, b8, b9⟩
theorem pIt_fc (o k : Nat) (h : pIt o k) : pFc o k := Or.inl ⟨h.1, by have := h.2; omega⟩
theorem ps_3 : PS_3 Rel := by
  rintro T c m ⟨v, hs, h⟩
  obtain ⟨z, hz, w1, w2, w3, w4⟩ := h.tp
  have t6 := h.t6
  have hTB : TB c (ga 1 0 c) z := ⟨fun _ _ => rfl, w1, hz⟩
  have hMB : MB m (ga 1 0 c) z := ⟨fun i hi => (w3 i hi).symm, w2, hz, w4⟩
  by_cases h6 : tN T = 6
  · refine ⟨-4, false, c, m, ?_, ?_, fun q => h.rel⟩
    · unfold f_X4_text f_X4_textA
      rw [h.nc, if_neg (c := nI (tN T) < (6 : Int32)) (nI_nlt (b := 6) (by omega) (by omega)), bnd_some]
      rfl
    · unfold f_X5_text
      rw [h.nm, h6, if_pos (c := nI 6 = (6 : Int32)) rfl]
  · obtain ⟨r, c', e1, f1, N1, S1⟩ := c_isText (T := T) hTB
    obtain ⟨N2, S2⟩ := m_text hMB h.nm (t := tN T) (by omega)
    have F1 : fr pFc c (ps 1 1 0 c') := (f1.mono pIt_fc).trans (fr_ps (P := pFc) (Or.inl ⟨rfl, Nat.le_refl _⟩) 0 c')
    have g01 : gs 0 1 (ps 1 1 0 c') = nI (tN T) := by rw [gs_ps, if_neg (by decide), f1.gs (by unfold pIt; decide)]; exact h.nc
    cases hk : (pzT (ga 1 0 c) z).2 with
    | none =>
      obtain ⟨hr, g12⟩ := N1 hk
      obtain ⟨m', e2, g6, g9, F⟩ := N2 hk
      refine ⟨-100 - nI (lxS (ga 1 0 c) z (pzT (ga 1 0 c) z).1), false, ps 1 1 0 c', m', ?_, e2, fun q => ?_⟩
      · unfold f_X4_text f_X4_textA
        rw [h.nc, if_pos (c := nI (tN T) < (6 : Int32)) (nI_lt (b := 6) (by omega) (by omega)), e1, bnd_some, put_eq, if_pos hr, bnd_some, gs_ps, if_neg (c := 1 = 1 ∧ 2 = 1) (by decide), g12]
        rfl
      · have hto : TO T m' := fun t ht => by
          obtain ⟨n0, n1, n2, hc, b0, b1, b2, b3, b4⟩ := h.to t ht
          have h160 := hc.2.2.2.2.2.1
          exact ⟨n0, n1, n2, hc, (F.2.2 _ (by omega)).trans b0, (F.2.2 _ (by omega)).trans b1, (F.2.2 _ (by omega)).trans b2, (F.2.2 _ (by omega)).trans b3, fun i hi => (F.2.1 _ (by omega)).trans (b4 i hi)⟩
        exact (h.text F1 F.1 hto (Nat.le_refl _) t6 g01 g9 (by rw [gs_ps, if_pos ⟨rfl, rfl⟩]) g6).rel
    | some k =>
      obtain ⟨hr, hE, q0, q1, q2⟩ := S1 k hk
      obtain ⟨m', e2, g6, g9, F, a0, a1, a2, a3, a4⟩ := S2 k hk
      have hg : goodL k := (pzT_facts hz).2 k hk
      refine ⟨nI (tN T), true, ps 0 1 (nI (tN T + 1)) (ps 1 1 0 c'), m', ?_, e2, fun q => ?_⟩
      · unfold f_X4_text f_X4_textA
        rw [h.nc, if_pos (c := nI (tN T) < (6 : Int32)) (nI_lt (b := 6) (by omega) (by omega)), e1, bnd_some, put_eq, hr, if_neg one_ne0, bnd_some, if_pos rfl, g01, nI_clamp (by omega), if_pos rfl, if_neg (by
          rintro (y | y)
          · exact nI_pos (by omega) y
          · omega), nI_1]
      · show Rel (tAdd T q (ps 0 1 (nI (tN T + 1)) (ps 1 1 0 c'))) (ps 0 1 (nI (tN T + 1)) (ps 1 1 0 c')) m'
        have fe : fr (fun o k => (o = 1 ∧ k = 1) ∨ (o = 0 ∧ k = 1)) c' (ps 0 1 (nI (tN T + 1)) (ps 1 1 0 c')) := (fr_ps (P := fun o k => (o = 1 ∧ k = 1) ∨ (o = 0 ∧ k = 1)) (Or.inl ⟨rfl, rfl⟩) _ _).trans (fr_ps (P := fun o k => (o = 1 ∧ k = 1) ∨ (o = 0 ∧ k = 1)) (Or.inr ⟨rfl, rfl⟩) _ _)
        have hto : TO (tAdd T q (ps 0 1 (nI (tN T + 1)) (ps 1 1 0 c'))) m' := TO.add h.to F (hE.fr fe (by decide)) (by rw [fe.ga (by decide)]; exact q0) (by rw [fe.ga (by decide)]; exact q1) (by rw [fe.ga (by decide)]; exact q2) hg a0 a1 a2 a3 a4 q
        exact (h.text (F1.trans (fr_ps (P := pFc) (Or.inr ⟨rfl, rfl⟩) _ _)) F.1 hto (Nat.le_succ _) (show tN T + 1 ≤ 6 by omega) (by rw [gs_ps, if_pos ⟨rfl, rfl⟩]; rfl) g9 (by rw [gs_ps, if_neg (by decide), gs_ps, if_pos ⟨rfl, rfl⟩]) g6).rel
end PPs7
