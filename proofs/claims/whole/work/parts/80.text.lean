/-! a whole text: three parts, and the end -/
section PText
variable {T : TX} {m c : ST} {B : Nat → Int32} {z a t : Nat}
def pzP (B : Nat → Int32) (z part a : Nat) : PR := if lxT B z a = nI (1000 + part) then pzE B z (lxE B z a) else (a, none)
abbrev L3 : Type := List Int32 × List Int32 × List Int32
abbrev PT : Type := Nat × Option L3
def pbT (r : PR) (K : Nat → List Int32 → PT) : PT := match r.2 with
  | none => (r.1, none)
  | some ds => K r.1 ds
def pzT (B : Nat → Int32) (z : Nat) : PT := pbT (pzP B z 0 0) (fun b0 k0 => pbT (pzP B z 1 b0) (fun b1 k1 => pbT (pzP B z 2 b1) (fun b2 k2 => if lxT B z b2 = 0 then (b2, some (k0, k1, k2)) else (b2, none))))
theorem pbT_none (b : Nat) (K : Nat → List Int32 → PT) : pbT (b, none) K = (b, none) := rfl
theorem pbT_some (b : Nat) (ds : List Int32) (K : Nat → List Int32 → PT) : pbT (b, some ds) K = K b ds := rfl
theorem pzP_facts {part : Nat} (ha : a ≤ z) : pfacts z a (pzP B z part a) := by
  unfold pzP
  by_cases h : lxT B z a = nI (1000 + part)
  · rw [if_pos h]
    by_cases h0 : lxT B z a = 0
    · have e : lxE B z a = lxS B z a := by
        unfold lxE
        by_cases hs : z ≤ lxS B z a
        · rw [if_pos hs]
        · exfalso
          have h2 := lxT_cases B z a
          unfold lxT at h0
          rw [if_neg hs] at h0
          by_cases hl : ltB (B (lxS B z a)) = true
          · rw [if_pos hl] at h0
            rcases wdT_cases (segL B (lxS B z a) (lxE B z a - lxS B z a)) 12 with e | ⟨i, hi, e⟩
            · rw [e] at h0; exact absurd h0 (by decide)
            · rw [e] at h0
              have := (nI_eq (a := 1000 + i) (b := 0) (by omega) (by omega)).mp h0
              omega
          · rw [if_neg hl] at h0
            by_cases hd : dgB (B (lxS B z a)) = true
            · rw [if_pos hd] at h0
              split at h0
              · exact absurd h0 (by decide)
              · exact absurd h0 (by decide)
            · rw [if_neg hd] at h0
              by_cases hg : sgB (B (lxS B z a)) = true
              · rw [if_pos hg] at h0
                rw [h0] at hg
                exact absurd hg (by decide)
              · rw [if_neg hg] at h0
                exact absurd h0 (by decide)
      have hL := lxE_le B ha
      have hS := lxS_le B ha
      obtain ⟨f1, f2⟩ := pzE_facts (B := B) hL.2
      exact ⟨f1, fun ds e => by
        obtain ⟨k1, k2, k3, k4⟩ := f2 ds e
        exact ⟨by omega, by omega, k3, k4⟩⟩
    · have hL := lxE_lt B ha h0
      obtain ⟨f1, f2⟩ := pzE_facts (B := B) hL.2.1
      exact ⟨f1, fun ds e => by
        obtain ⟨k1, k2, k3, k4⟩ := f2 ds e
        exact ⟨by omega, by omega, k3, k4⟩⟩
  · rw [if_neg h]
    exact ⟨ha, fun ds e => by cases e⟩
/-- what the lists of a text are -/
def goodL (k : L3) : Prop := one1 k.1 ∧ one1 k.2.1 ∧ one1 k.2.2 ∧ (∀ s, s ∈ k.1 ++ k.2.1 ++ k.2.2 → okc s) ∧ (k.1 ++ k.2.1 ++ k.2.2).length ≤ 160
theorem pzT_facts (hz : z ≤ 160) : (pzT B z).1 ≤ z ∧ ∀ k, (pzT B z).2 = some k → goodL k := by
  unfold pzT
  have h0 := pzP_facts (B := B) (z := z) (part := 0) (a := 0) (Nat.zero_le _)
  generalize pzP B z 0 0 = p at h0 ⊢
  obtain ⟨b0, o⟩ := p
  cases o with
  | none => exact ⟨h0.1, fun k e => by cases e⟩
  | some k0 =>
    obtain ⟨p1, p2, p3, p4⟩ := h0.2 k0 rfl
    have p1 : 0 + 1 ≤ b0 := p1
    have p2 : 0 + k0.length ≤ b0 := p2
    rw [pbT_some]
    have h1 := pzP_facts (B := B) (z := z) (part := 1) (a := b0) h0.1
    generalize pzP B z 1 b0 = p at h1 ⊢
    obtain ⟨b1, o⟩ := p
    cases o with
    | none => exact ⟨h1.1, fun k e => by cases e⟩
    | some k1 =>
      obtain ⟨q1, q2, q3, q4⟩ := h1.2 k1 rfl
      have q1 : b0 + 1 ≤ b1 := q1
      have q2 : b0 + k1.length ≤ b1 := q2
      rw [pbT_some]
      have h2 := pzP_facts (B := B) (z := z) (part := 2) (a := b1) h1.1
      generalize pzP B z 2 b1 = p at h2 ⊢
      obtain ⟨b2, o⟩ := p
      cases o with
      | none => exact ⟨h2.1, fun k e => by cases e⟩
      | some k2 =>
        obtain ⟨r1, r2, r3, r4⟩ := h2.2 k2 rfl
        have r1 : b1 + 1 ≤ b2 := r1
        have r2 : b1 + k2.length ≤ b2 := r2
        have hb : b2 ≤ z := h2.1
        rw [pbT_some]
        by_cases he : lxT B z b2 = 0
        · rw [if_pos he]
          refine ⟨hb, fun k e => ?_⟩
          cases e
          refine ⟨p3, q3, r3, fun s hs => ?_, ?_⟩
          · rcases List.mem_append.mp hs with g | g
            · exact (List.mem_append.mp g).elim (p4 s) (q4 s)
            · exact r4 s g
          · rw [List.length_append, List.length_append]
            show k0.length + k1.length + k2.length ≤ 160
            omega
        · rw [if_neg he]
          exact ⟨hb, fun k e => by cases e⟩
/-! the class -/
def pIt (o k : Nat) : Prop := o = 1 ∧ (k = 2 ∨ k = 3 ∨ k = 4 ∨ k = 5 ∨ k = 6 ∨ k = 7 ∨ k = 8)
theorem pTx_it (o k : Nat) (h : pTx o k) : pIt o k := ⟨h.1, by have := h.2; omega⟩
theorem pTk_it (o k : Nat) (h : pTk o k) : pIt o k := ⟨h.1, by have := h.2; omega⟩
theorem pIt_n : ¬ pIt 1 0 ∧ ¬ pIt 1 1 := by unfold pIt; decide
theorem c_part {part q : Nat} {cs : List Int32} (hp : part < 3) (h : TB c B z) (hc : TCur c B z a) (he : Em c cs) (hl : cs.length ≤ a) (ha : a ≤ z) : ((pzP B z part a).2 = none → ∃ c', f_X2_isText_L16 T (q + 1) (nI part) c = some (0, c') ∧ gs 1 2 c' = nI (lxS B z (pzP B z part a).1) ∧ fr pIt c c') ∧ ∀ ds, (pzP B z part a).2 = some ds → ∃ c', f_X2_isText_L16 T (q + 1) (nI part) c = f_X2_isText_L16 T q (nI (part + 1)) c' ∧ TCur c' B z (pzP B z part a).1 ∧ Em c' (cs ++ ds) ∧ ga 1 8 c' part = nI (cs ++ ds).length ∧ (∀ j, j ≠ part → ga 1 8 c' j = ga 1 8 c j) ∧ fr pIt c c' := by
  have hz2 := h.2.2
  rw [f_X2_isText_L16, if_neg (c := (3 : Int32) ≤ nI part) (nI_ge (b := 3) hp (by omega)), show (1000 : Int32) + nI part = nI (1000 + part) from nI_add 1000 part]
  unfold f_X2_passes f_X2_isText_L50 pzP
  rw [hc.2.2.1]
  by_cases ht : lxT B z a = nI (1000 + part)
  · rw [if_pos ht, if_pos ht]
    have hL := lxE_lt B ha (by rw [ht]; intro g; have := (nI_eq (a := 1000 + part) (b := 0) (by omega) (by omega)).mp g; omega)
    obtain ⟨c1, e1, k1, f1⟩ := c_readToken (T := T) h hc.2.1 hL.2.1
    have t1 := h.fr f1 pTk_n
    rw [e1, bnd_some, retz_1, bnd_some, if_neg one_ne0]
    obtain ⟨r2, c2, e2, f2, o1, o3, o4⟩ := c_rd (T := T) (B := B) (z := z) 60 0 0 (by omega) (by omega) (by omega) (lxE B z a) c1 cs hL.2.1 t1 k1 (he.fr f1 pTk_e) (by omega)
    have t2 := t1.fr f2 pTx_n
    have f12 := (f1.mono pTk_it).trans (f2.mono pTx_it)
    have h8 : ∀ j, ga 1 8 c2 j = ga 1 8 c j := fun j => by rw [f2.ga (by unfold pTx; decide), f1.ga (by unfold pTk; decide)]
    rw [show f_rd T 60 0 0 c1 = f_rd T 60 0 (nI 0) c1 from rfl, e2, bnd_some]
    unfold pzE
    have hpf := pz_facts (B := B) 60 0 0 _ hL.2.1
    generalize pz B z 60 0 0 (lxE B z a) = p at o3 o4 hpf ⊢
    obtain ⟨b, o⟩ := p
    cases o with
    | none =>
      obtain ⟨rfl, s2⟩ := o3 rfl
      rw [if_pos rfl, pbd_none]
      exact ⟨fun _ => ⟨c2, rfl, s2, f12⟩, fun es e => by cases e⟩
    | some ds =>
      obtain ⟨rfl, k2, m2⟩ := o4 ds rfl
      have hb : b ≤ z := hpf.1
      rw [if_neg one_ne0, pbd_some, k2.2.2.1]
      by_cases h59 : lxT B z b = 59
      · rw [if_pos h59, if_pos h59]
        have hL2 := lxE_lt B hb (by rw [h59]; decide)
        obtain ⟨c3, e3, k3, f3⟩ := c_readToken (T := T) t2 k2.2.1 hL2.2.1
        have m3 := m2.fr f3 pTk_e
        rw [e3, bnd_some, retz_1, bnd_some, if_neg one_ne0, ast_nI hp (by omega), m3.1, nI_1]
        refine ⟨(fun e => by cases e), fun es e => ?_⟩
        cases e
        have f4 := fr_pa (P := fun o k => o = 1 ∧ k = 8) ⟨rfl, rfl⟩ (upd (ga 1 8 c3) part (nI (cs ++ ds).length)) c3
        refine ⟨_, rfl, k3.fr f4 (by decide), m3.fr f4 (by decide), ?_, fun j hj => ?_, (f12.trans (f3.mono pTk_it)).trans (f4.mono (fun o k y => ⟨y.1, by have := y.2; omega⟩))⟩
        · rw [ga_pa, if_pos ⟨rfl, rfl⟩, upd_eq]
        · rw [ga_pa, if_pos ⟨rfl, rfl⟩, upd_ne _ _ hj, f3.ga (by unfold pTk; decide)]
          exact h8 j
      · rw [if_neg h59, if_neg h59, retz_0, bnd_some, if_pos rfl]
        exact ⟨fun _ => ⟨c2, rfl, k2.1, f12⟩, fun es e => by cases e⟩
  · rw [if_neg ht, if_neg ht, retz_0, bnd_some, if_pos rfl]
    exact ⟨fun _ => ⟨c, rfl, hc.1, fr.refl c⟩, fun es e => by cases e⟩
theorem c_isText (h : TB c B z) : ∃ r c', f_X2_isText T c = some (r, c') ∧ fr pIt c c' ∧ ((pzT B z).2 = none → r = 0 ∧ gs 1 2 c' = nI (lxS B z (pzT B z).1)) ∧ ∀ k, (pzT B z).2 = some k → r = 1 ∧ Em c' (k.1 ++ k.2.1 ++ k.2.2) ∧ ga 1 8 c' 0 = nI k.1.length ∧ ga 1 8 c' 1 = nI (k.1 ++ k.2.1).length ∧ ga 1 8 c' 2 = nI (k.1 ++ k.2.1 ++ k.2.2).length := by
  unfold f_X2_isText pzT
  rw [put_eq, put_eq]
  have f0 := (fr_ps (P := pIt) (o := 1) (k := 3) ⟨rfl, (by decide)⟩ 0 c).trans (fr_ps (P := pIt) (o := 1) (k := 7) ⟨rfl, (by decide)⟩ 0 _)
  have t0 := h.fr f0 pIt_n
  have g3 : gs 1 3 (ps 1 7 0 (ps 1 3 0 c)) = nI 0 := by rw [gs_ps, if_neg (by decide), gs_ps, if_pos ⟨rfl, rfl⟩]; rfl
  have m0 : Em (ps 1 7 0 (ps 1 3 0 c)) [] := ⟨by rw [gs_ps, if_pos ⟨rfl, rfl⟩]; rfl, Nat.zero_le _, fun i hi => absurd hi (Nat.not_lt_zero _)⟩
  generalize ps 1 7 0 (ps 1 3 0 c) = A at f0 t0 g3 m0 ⊢
  obtain ⟨c1, e1, k1, f1⟩ := c_readToken (T := T) t0 g3 (Nat.zero_le _)
  have t1 := t0.fr f1 pTk_n
  have F1 := f0.trans (f1.mono pTk_it)
  rw [e1, bnd_some, show f_X2_isText_L16 T 1000 0 c1 = f_X2_isText_L16 T 1000 (nI 0) c1 from rfl]
  obtain ⟨a1, a2⟩ := c_part (T := T) (part := 0) (q := 999) (cs := []) (by decide) t1 k1 (m0.fr f1 pTk_e) (Nat.zero_le _) (Nat.zero_le _)
  have h0 := pzP_facts (B := B) (z := z) (part := 0) (a := 0) (Nat.zero_le _)
  generalize pzP B z 0 0 = p at a1 a2 h0 ⊢
  obtain ⟨b0, o⟩ := p
  cases o with
  | none =>
    obtain ⟨c2, e2, g2, f2⟩ := a1 rfl
    rw [e2, pbT_none]
    exact ⟨0, c2, rfl, F1.trans f2, fun _ => ⟨rfl, g2⟩, fun k e => by cases e⟩
  | some k0 =>
    obtain ⟨c2, e2, kc2, m2, n2, -, f2⟩ := a2 k0 rfl
    obtain ⟨p1, p2, -, -⟩ := h0.2 k0 rfl
    have p2 : 0 + k0.length ≤ b0 := p2
    have t2 := t1.fr f2 pIt_n
    rw [List.nil_append] at m2 n2
    rw [e2, pbT_some]
    obtain ⟨a1, a2⟩ := c_part (T := T) (part := 1) (q := 998) (cs := k0) (by decide) t2 kc2 m2 (show k0.length ≤ b0 by omega) h0.1
    have h1 := pzP_facts (B := B) (z := z) (part := 1) (a := b0) h0.1
    generalize pzP B z 1 b0 = p at a1 a2 h1 ⊢
    obtain ⟨b1, o⟩ := p
    cases o with
    | none =>
      obtain ⟨c3, e3, g3, f3⟩ := a1 rfl
      rw [e3, pbT_none]
      exact ⟨0, c3, rfl, (F1.trans f2).trans f3, fun _ => ⟨rfl, g3⟩, fun k e => by cases e⟩
    | some k1 =>
      obtain ⟨c3, e3, kc3, m3, n3, u3, f3⟩ := a2 k1 rfl
      obtain ⟨q1, q2, -, -⟩ := h1.2 k1 rfl
      have q2 : b0 + k1.length ≤ b1 := q2
      have t3 := t2.fr f3 pIt_n
      rw [e3, pbT_some]
      obtain ⟨a1, a2⟩ := c_part (T := T) (part := 2) (q := 997) (cs := k0 ++ k1) (by decide) t3 kc3 m3 (show (k0 ++ k1).length ≤ b1 by rw [List.length_append]; omega) h1.1
      have h2 := pzP_facts (B := B) (z := z) (part := 2) (a := b1) h1.1
      generalize pzP B z 2 b1 = p at a1 a2 h2 ⊢
      obtain ⟨b2, o⟩ := p
      cases o with
      | none =>
        obtain ⟨c4, e4, g4, f4⟩ := a1 rfl
        rw [e4, pbT_none]
        exact ⟨0, c4, rfl, ((F1.trans f2).trans f3).trans f4, fun _ => ⟨rfl, g4⟩, fun k e => by cases e⟩
      | some k2 =>
        obtain ⟨c4, e4, kc4, m4, n4, u4, f4⟩ := a2 k2 rfl
        have F4 := ((F1.trans f2).trans f3).trans f4
        rw [e4, pbT_some, f_X2_isText_L16, if_pos (c := (3 : Int32) ≤ nI (2 + 1)) (by decide)]
        unfold f_X2_isText_L68 f_X2_isText_L80
        rw [kc4.2.2.1]
        by_cases he : lxT B z b2 = 0
        · rw [if_pos he, if_pos he]
          refine ⟨1, c4, rfl, F4, (fun e => by cases e), fun k e => ?_⟩
          cases e
          exact ⟨rfl, m4, by rw [u4 0 (by decide), u3 0 (by decide)]; exact n2, by rw [u4 1 (by decide)]; exact n3, n4⟩
        · rw [if_neg he, if_neg he]
          exact ⟨0, c4, rfl, F4, fun _ => ⟨rfl, kc4.1⟩, fun k e => by cases e⟩
/-! the reference -/
def pFt (o k : Nat) : Prop := o = 50 ∧ (k = 6 ∨ k = 7 ∨ k = 8 ∨ k = 9 ∨ k = 18 ∨ k = 19 ∨ k = 20 ∨ k = 21 ∨ k = 23 ∨ k = 24 ∨ k = 25 ∨ k = 26)
def FT (t : Nat) (m m' : ST) : Prop := fr pFt m m' ∧ (∀ j, j < 200 * t → ga 50 7 m' j = ga 50 7 m j) ∧ ∀ j, j < 4 * t → ga 50 8 m' j = ga 50 8 m j
theorem FT.refl (m : ST) : FT t m m := ⟨fr.refl m, fun _ _ => rfl, fun _ _ => rfl⟩
theorem FT.trans {m1 m2 m3 : ST} (h : FT t m1 m2) (g : FT t m2 m3) : FT t m1 m3 := ⟨h.1.trans g.1, fun j hj => (g.2.1 j hj).trans (h.2.1 j hj), fun j hj => (g.2.2 j hj).trans (h.2.2 j hj)⟩
theorem pMx_ft (o k : Nat) (h : pMx o k) : pFt o k := ⟨h.1, by have := h.2; omega⟩
theorem FM.ft {m' : ST} (h : FM t m m') : FT t m m' := ⟨h.1.mono pMx_ft, h.2, fun j hj => by rw [h.1.ga (by unfold pMx; decide)]⟩
theorem mT3 (h : mT (lxT B z a) = 3) : ∃ k, k < 3 ∧ lxT B z a = nI (1000 + k) := by
  rcases lxT_cases B z a with e | e | e | ⟨i, hi, e⟩ | e
  · rw [e] at h; exact absurd h (by decide)
  · rw [e] at h; exact absurd h (by decide)
  · rw [e] at h; exact absurd h (by decide)
  · rcases (show i < 3 ∨ i = 3 ∨ i = 4 ∨ i = 5 ∨ 6 ≤ i by omega) with g | rfl | rfl | rfl | g
    · exact ⟨i, g, e⟩
    · rw [e] at h; exact absurd h (by decide)
    · rw [e] at h; exact absurd h (by decide)
    · rw [e] at h; exact absurd h (by decide)
    · rw [e, show 1000 + i = 1006 + (i - 6) by omega, mT_name (i - 6) (by omega)] at h
      exact absurd h (by decide)
  · rw [mT_sg e] at h
    rw [h] at e
    exact absurd e (by decide)
theorem mT0 : mT (lxT B z a) = 0 ↔ lxT B z a = 0 := by
  constructor
  · intro h
    rcases lxT_cases B z a with e | e | e | ⟨i, hi, e⟩ | e
    · exact e
    · rw [e] at h; exact absurd h (by decide)
    · rw [e] at h; exact absurd h (by decide)
    · rcases (show i < 3 ∨ i = 3 ∨ i = 4 ∨ i = 5 ∨ 6 ≤ i by omega) with g | rfl | rfl | rfl | g
      · rw [e, mT_key i g] at h; exact absurd h (by decide)
      · rw [e] at h; exact absurd h (by decide)
      · rw [e] at h; exact absurd h (by decide)
      · rw [e] at h; exact absurd h (by decide)
      · rw [e, show 1000 + i = 1006 + (i - 6) by omega, mT_name (i - 6) (by omega)] at h
        exact absurd h (by decide)
    · rw [mT_sg e] at h
      exact h
  · intro h
    rw [h]
    rfl
theorem m_part {part q : Nat} {E : List Int32} (hp : part < 3) (b0 : MB m B z) (g18 : gs 50 18 m = nI a) (o0 : MO m t E) (hl : E.length ≤ a) (ha : a ≤ z) : ((pzP B z part a).2 = none → ∃ m', f_X5_text_L26 (q + 2) 1 (nI part) m = f_X5_text_L122 0 m' ∧ gs 50 19 m' = nI (lxS B z (pzP B z part a).1) ∧ gs 50 9 m' = nI t ∧ FT t m m') ∧ ∀ ds, (pzP B z part a).2 = some ds → ∃ m', f_X5_text_L26 (q + 2) 1 (nI part) m = f_X5_text_L26 (q + 1) 1 (nI (part + 1)) m' ∧ gs 50 18 m' = nI (pzP B z part a).1 ∧ MB m' B z ∧ MO m' t (E ++ ds.map cv) ∧ ga 50 8 m' (4 * t + part) = nI E.length ∧ (∀ j, j ≠ 4 * t + part → ga 50 8 m' j = ga 50 8 m j) ∧ FT t m m' := by
  have hz2 := b0.2.2.1
  have ht6 := o0.2.1
  obtain ⟨m1, e1, k1, f1⟩ := m_next b0 g18 ha
  have b1 := b0.fr f1 pNx_n
  have o1 := o0.fr f1 pNx_o
  have F1 : FM t m m1 := FM.nx f1
  rw [f_X5_text_L26, if_neg (c := (3 : Int32) ≤ nI part) (nI_ge (b := 3) hp (by omega)), if_neg one_ne0, e1, bnd_some]
  unfold f_X5_text_L59 f_X5_text_L60 f_X5_text_L93 f_X5_text_L94
  rw [nI_1]
  have e4 : (4 : Int32) * gs 50 9 m1 + nI part = nI (4 * t + part) := by
    rw [o1.1]
    show nI 4 * nI t + nI part = _
    rw [nI_mul, nI_add]
  have f2 := fr_pa (P := fun o k => o = 50 ∧ k = 8) ⟨rfl, rfl⟩ (upd (ga 50 8 m1) (4 * t + part) (nI E.length)) m1
  have F2 : FT t m1 (pa 50 8 (upd (ga 50 8 m1) (4 * t + part) (nI E.length)) m1) := ⟨f2.mono (fun o k y => ⟨y.1, by have := y.2; omega⟩), fun j hj => by rw [f2.ga (by decide)], fun j hj => by rw [ga_pa, if_pos ⟨rfl, rfl⟩, upd_ne _ _ (by omega)]⟩
  have u2 : ga 50 8 (pa 50 8 (upd (ga 50 8 m1) (4 * t + part) (nI E.length)) m1) (4 * t + part) = nI E.length ∧ ∀ j, j ≠ 4 * t + part → ga 50 8 (pa 50 8 (upd (ga 50 8 m1) (4 * t + part) (nI E.length)) m1) j = ga 50 8 m1 j := ⟨by rw [ga_pa, if_pos ⟨rfl, rfl⟩, upd_eq], fun j hj => by rw [ga_pa, if_pos ⟨rfl, rfl⟩, upd_ne _ _ hj]⟩
  have st : ∀ K : ST → Option (Int32 × ST), ast 50 8 24 (4 * gs 50 9 m1 + nI part) (gs 50 26 m1) m1 K = K (pa 50 8 (upd (ga 50 8 m1) (4 * t + part) (nI E.length)) m1) := fun K => by rw [e4, ast_nI (by omega) (by omega), o1.2.2.1]
  have stop : ∀ m3 : ST, f_X5_text_L26 (q + 1) 0 (nI (part + 1)) m3 = f_X5_text_L122 0 m3 := fun m3 => by
    rw [f_X5_text_L26]
    unfold f_X5_text_L101
    rw [if_pos rfl, if_pos rfl]
    split <;> rfl
  rw [st, st]
  have b2 := b1.fr f2 (by decide)
  have o2 := o1.fr f2 (by decide)
  have k219 : gs 50 19 (pa 50 8 (upd (ga 50 8 m1) (4 * t + part) (nI E.length)) m1) = nI (lxS B z a) := by rw [gs_pa]; exact k1.2.1
  have k218 : gs 50 18 (pa 50 8 (upd (ga 50 8 m1) (4 * t + part) (nI E.length)) m1) = nI (lxE B z a) := by rw [gs_pa]; exact k1.1
  have k29 : gs 50 9 (pa 50 8 (upd (ga 50 8 m1) (4 * t + part) (nI E.length)) m1) = nI t := o2.1
  generalize pa 50 8 (upd (ga 50 8 m1) (4 * t + part) (nI E.length)) m1 = A at F2 u2 b2 o2 k219 k218 k29 ⊢
  unfold pzP
  by_cases ht : lxT B z a = nI (1000 + part)
  · have hL := lxE_lt B ha (by rw [ht]; intro g; have := (nI_eq (a := 1000 + part) (b := 0) (by omega) (by omega)).mp g; omega)
    rw [if_pos ht, k1.2.2.1, ht, mT_key part hp, if_pos rfl, k1.2.2.2.2.1 part hp ht, if_pos rfl, if_neg one_ne0]
    obtain ⟨r1, r2⟩ := m_eRead (t := t) (E := E) b2 k218 o2 (by omega) hL.2.1
    generalize pzE B z (lxE B z a) = p at r1 r2 ⊢
    obtain ⟨b, o⟩ := p
    cases o with
    | none =>
      obtain ⟨m3, e3, g3, F3⟩ := r1 rfl
      rw [e3, bnd_some, if_pos rfl]
      exact ⟨fun _ => ⟨m3, stop m3, g3, (F3.1.gs (by unfold pMx; decide)).trans k29, (F1.ft.trans F2).trans F3.ft⟩, fun es e => by cases e⟩
    | some ds =>
      obtain ⟨m3, e3, g3, o3, F3⟩ := r2 ds rfl
      rw [e3, bnd_some, if_neg one_ne0]
      refine ⟨(fun e => by cases e), fun es e => ?_⟩
      cases e
      have h8 : ∀ j, ga 50 8 m3 j = ga 50 8 A j := fun j => by rw [F3.1.ga (by unfold pMx; decide)]
      exact ⟨m3, rfl, g3, FM.mb b2 F3, o3, (h8 _).trans u2.1, fun j hj => (h8 j).trans ((u2.2 j hj).trans (by rw [f1.ga (by unfold pNx; decide)])), (F1.ft.trans F2).trans F3.ft⟩
  · rw [if_neg ht]
    refine ⟨fun _ => ⟨A, ?_, k219, k29, F1.ft.trans F2⟩, fun es e => by cases e⟩
    by_cases h3 : gs 50 20 m1 = 3
    · rw [if_pos h3]
      obtain ⟨k, hk, ek⟩ := mT3 (B := B) (z := z) (a := a) (by rw [← k1.2.2.1]; exact h3)
      rw [k1.2.2.2.2.1 k hk ek, if_neg (fun g => ht (by rw [ek, (nI_eq (a := k) (b := part) (by omega) (by omega)).mp g]))]
      exact stop A
    · rw [if_neg h3]
      exact stop A
theorem m_text_L122 {v : Int32} (h9 : gs 50 9 m = nI t) (ht : t < 6) : ∃ A, (v = 0 → f_X5_text_L122 v m = some (-100 - gs 50 19 m, A)) ∧ (¬ v = 0 → f_X5_text_L122 v m = some (nI t, ps 50 9 (nI (t + 1)) A)) ∧ gs 50 6 A = 0 ∧ gs 50 9 A = nI t ∧ ga 50 8 A (4 * t + 3) = gs 50 26 m ∧ (∀ j, j ≠ 4 * t + 3 → ga 50 8 A j = ga 50 8 m j) ∧ fr (fun o k => o = 50 ∧ (k = 6 ∨ k = 8)) m A := by
  have e4 : (4 : Int32) * gs 50 9 m + 3 = nI (4 * t + 3) := by
    rw [h9]
    show nI 4 * nI t + nI 3 = _
    rw [nI_mul, nI_add]
  unfold f_X5_text_L122
  rw [e4, ast_nI (by omega) (by omega), put_eq]
  have f := (fr_pa (P := fun o k => o = 50 ∧ (k = 6 ∨ k = 8)) (o := 50) (k := 8) ⟨rfl, (by decide)⟩ (upd (ga 50 8 m) (4 * t + 3) (gs 50 26 m)) m).trans (fr_ps (P := fun o k => o = 50 ∧ (k = 6 ∨ k = 8)) (o := 50) (k := 6) ⟨rfl, (by decide)⟩ 0 _)
  refine ⟨ps 50 6 0 (pa 50 8 (upd (ga 50 8 m) (4 * t + 3) (gs 50 26 m)) m), fun h => ?_, fun h => ?_, ?_, ?_, ?_, fun j hj => ?_, f⟩
  · rw [if_pos h, f.gs (by decide)]
  · rw [if_neg h, put_eq, f.gs (by decide), h9, nI_1, gs_ps, if_pos ⟨rfl, rfl⟩, nI_pred]
  · rw [gs_ps, if_pos ⟨rfl, rfl⟩]
  · rw [f.gs (by decide)]; exact h9
  · rw [ga_ps, ga_pa, if_pos ⟨rfl, rfl⟩, upd_eq]
  · rw [ga_ps, ga_pa, if_pos ⟨rfl, rfl⟩, upd_ne _ _ hj]
theorem m_text (b0 : MB m B z) (h9 : gs 50 9 m = nI t) (ht : t < 6) : ((pzT B z).2 = none → ∃ m', f_X5_text m = some (-100 - nI (lxS B z (pzT B z).1), m') ∧ gs 50 6 m' = 0 ∧ gs 50 9 m' = nI t ∧ FT t m m') ∧ ∀ k, (pzT B z).2 = some k → ∃ m', f_X5_text m = some (nI t, m') ∧ gs 50 6 m' = 0 ∧ gs 50 9 m' = nI (t + 1) ∧ FT t m m' ∧ ga 50 8 m' (4 * t) = 0 ∧ ga 50 8 m' (4 * t + 1) = nI k.1.length ∧ ga 50 8 m' (4 * t + 2) = nI (k.1 ++ k.2.1).length ∧ ga 50 8 m' (4 * t + 3) = nI (k.1 ++ k.2.1 ++ k.2.2).length ∧ ∀ i, i < (k.1 ++ k.2.1 ++ k.2.2).length → ga 50 7 m' (200 * t + i) = ((k.1 ++ k.2.1 ++ k.2.2).map cv).getD i 0 := by
  unfold f_X5_text pzT
  rw [h9, if_neg (fun g => by have := (nI_eq (a := t) (b := 6) (by omega) (by omega)).mp g; omega), put_eq, put_eq]
  have f0 := (fr_ps (P := fun o k => o = 50 ∧ (k = 18 ∨ k = 26)) (o := 50) (k := 18) ⟨rfl, (by decide)⟩ 0 m).trans (fr_ps (P := fun o k => o = 50 ∧ (k = 18 ∨ k = 26)) (o := 50) (k := 26) ⟨rfl, (by decide)⟩ 0 _)
  have F0 : FT t m (ps 50 26 0 (ps 50 18 0 m)) := ⟨f0.mono (fun o k y => ⟨y.1, by have := y.2; omega⟩), fun j hj => by rw [f0.ga (by decide)], fun j hj => by rw [f0.ga (by decide)]⟩
  have bA := b0.fr f0 (by decide)
  have gA : gs 50 18 (ps 50 26 0 (ps 50 18 0 m)) = nI 0 := by rw [gs_ps, if_neg (by decide), gs_ps, if_pos ⟨rfl, rfl⟩]; rfl
  have oA : MO (ps 50 26 0 (ps 50 18 0 m)) t [] := ⟨by rw [f0.gs (by decide)]; exact h9, ht, by rw [gs_ps, if_pos ⟨rfl, rfl⟩]; rfl, Nat.zero_le _, fun i hi => absurd hi (Nat.not_lt_zero _)⟩
  generalize ps 50 26 0 (ps 50 18 0 m) = A at F0 bA gA oA ⊢
  have bad : ∀ (m1 : ST) (b : Nat), gs 50 19 m1 = nI (lxS B z b) → gs 50 9 m1 = nI t → FT t A m1 → ∃ m', f_X5_text_L122 0 m1 = some (-100 - nI (lxS B z b), m') ∧ gs 50 6 m' = 0 ∧ gs 50 9 m' = nI t ∧ FT t m m' := by
    intro m1 b g1 g9 F1
    obtain ⟨A2, q1, -, q3, q4, q5, q6, q7⟩ := m_text_L122 (m := m1) (v := 0) g9 ht
    refine ⟨A2, by rw [q1 rfl, g1], q3, q4, (F0.trans F1).trans ⟨q7.mono (fun o k y => ⟨y.1, by have := y.2; omega⟩), fun j hj => by rw [q7.ga (by decide)], fun j hj => q6 j (by omega)⟩⟩
  rw [show f_X5_text_L26 1000 1 0 A = f_X5_text_L26 1000 1 (nI 0) A from rfl]
  obtain ⟨a1, a2⟩ := m_part (t := t) (part := 0) (q := 998) (E := []) (by decide) bA gA oA (Nat.zero_le _) (Nat.zero_le _)
  have h0 := pzP_facts (B := B) (z := z) (part := 0) (a := 0) (Nat.zero_le _)
  generalize pzP B z 0 0 = p at a1 a2 h0 ⊢
  obtain ⟨c0, o⟩ := p
  cases o with
  | none =>
    obtain ⟨m1, e1, g1, g9, F1⟩ := a1 rfl
    rw [e1, pbT_none]
    exact ⟨fun _ => bad m1 c0 g1 g9 F1, fun k e => by cases e⟩
  | some k0 =>
    obtain ⟨m1, e1, g1, b1, o1, s1, u1, F1⟩ := a2 k0 rfl
    obtain ⟨p1, p2, -, -⟩ := h0.2 k0 rfl
    have p2 : 0 + k0.length ≤ c0 := p2
    rw [List.nil_append] at o1
    rw [e1, pbT_some]
    obtain ⟨a1, a2⟩ := m_part (t := t) (part := 1) (q := 997) (E := k0.map cv) (by decide) b1 g1 o1 (show (k0.map cv).length ≤ c0 by rw [List.length_map]; omega) h0.1
    have h1 := pzP_facts (B := B) (z := z) (part := 1) (a := c0) h0.1
    generalize pzP B z 1 c0 = p at a1 a2 h1 ⊢
    obtain ⟨c1, o⟩ := p
    cases o with
    | none =>
      obtain ⟨m2, e2, g2, g9, F2⟩ := a1 rfl
      rw [e2, pbT_none]
      exact ⟨fun _ => bad m2 c1 g2 g9 (F1.trans F2), fun k e => by cases e⟩
    | some k1 =>
      obtain ⟨m2, e2, g2, b2, o2, s2, u2, F2⟩ := a2 k1 rfl
      obtain ⟨q1, q2, -, -⟩ := h1.2 k1 rfl
      have q2 : c0 + k1.length ≤ c1 := q2
      rw [e2, pbT_some]
      obtain ⟨a1, a2⟩ := m_part (t := t) (part := 2) (q := 996) (E := k0.map cv ++ k1.map cv) (by decide) b2 g2 o2 (show (k0.map cv ++ k1.map cv).length ≤ c1 by rw [List.length_append, List.length_map, List.length_map]; omega) h1.1
      have h2 := pzP_facts (B := B) (z := z) (part := 2) (a := c1) h1.1
      generalize pzP B z 2 c1 = p at a1 a2 h2 ⊢
      obtain ⟨c2, o⟩ := p
      cases o with
      | none =>
        obtain ⟨m3, e3, g3, g9, F3⟩ := a1 rfl
        rw [e3, pbT_none]
        exact ⟨fun _ => bad m3 c2 g3 g9 ((F1.trans F2).trans F3), fun k e => by cases e⟩
      | some k2 =>
        obtain ⟨m3, e3, g3, b3, o3, s3, u3, F3⟩ := a2 k2 rfl
        obtain ⟨m4, e4, k4, f4⟩ := m_next b3 g3 h2.1
        have F4 : FT t A m4 := ((F1.trans F2).trans F3).trans (FM.nx (t := t) f4).ft
        have g94 : gs 50 9 m4 = nI t := (f4.gs (by unfold pNx; decide)).trans o3.1
        rw [e3, pbT_some, f_X5_text_L26, if_pos (c := (3 : Int32) ≤ nI (2 + 1)) (by decide)]
        unfold f_X5_text_L101 f_X5_text_L121
        rw [if_neg one_ne0, e4, bnd_some, k4.2.2.1]
        by_cases he : lxT B z c2 = 0
        · rw [if_pos he, if_pos (mT0.mpr he)]
          refine ⟨(fun e => by cases e), fun k e => ?_⟩
          cases e
          obtain ⟨A2, -, q1', q3, q4, q5, q6, q7⟩ := m_text_L122 (m := m4) (v := 1) g94 ht
          have F5 : FT t m4 (ps 50 9 (nI (t + 1)) A2) := ⟨(q7.mono (fun o k y => ⟨y.1, by have := y.2; omega⟩)).trans (fr_ps (P := pFt) (o := 50) (k := 9) ⟨rfl, (by decide)⟩ _ _), fun j hj => by rw [ga_ps, q7.ga (by decide)], fun j hj => by rw [ga_ps]; exact q6 j (by omega)⟩
          have h8 : ∀ j, ga 50 8 m4 j = ga 50 8 m3 j := fun j => by rw [f4.ga (by unfold pNx; decide)]
          have h7 : ∀ j, ga 50 7 (ps 50 9 (nI (t + 1)) A2) j = ga 50 7 m3 j := fun j => by rw [ga_ps, q7.ga (by decide), f4.ga (by unfold pNx; decide)]
          refine ⟨_, q1' one_ne0, ?_, ?_, (F0.trans F4).trans F5, ?_, ?_, ?_, ?_, fun i hi => ?_⟩
          · rw [gs_ps, if_neg (by decide)]; exact q3
          · rw [gs_ps, if_pos ⟨rfl, rfl⟩]
          · rw [ga_ps, q6 _ (by omega), h8, u3 _ (by omega), u2 _ (by omega), show 4 * t = 4 * t + 0 from rfl, s1]; rfl
          · rw [ga_ps, q6 _ (by omega), h8, u3 _ (by omega), s2, List.length_map]
          · rw [ga_ps, q6 _ (by omega), h8, s3, List.length_append, List.length_map, List.length_map, List.length_append]
          · rw [ga_ps, q5, f4.gs (by unfold pNx; decide), o3.2.2.1, List.length_append, List.length_append, List.length_map, List.length_map, List.length_map, List.length_append, List.length_append]
          · rw [h7, o3.2.2.2.2 i (by
              rw [List.length_append, List.length_append, List.length_map, List.length_map, List.length_map]
              rw [List.length_append, List.length_append] at hi
              exact hi), List.map_append, List.map_append]
        · rw [if_neg he, if_neg (fun g => he (mT0.mp g))]
          exact ⟨fun _ => bad m4 c2 k4.2.1 g94 F4, fun k e => by cases e⟩
end PText
