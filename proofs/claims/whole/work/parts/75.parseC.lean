/-! the class reads by the grammar -/
section PCParse
variable {T : TX} {c : ST} {B : Nat → Int32} {z a : Nat}
def pTx (o k : Nat) : Prop := o = 1 ∧ (k = 2 ∨ k = 3 ∨ k = 4 ∨ k = 5 ∨ k = 6 ∨ k = 7)
def pEm (o k : Nat) : Prop := o = 1 ∧ (k = 6 ∨ k = 7)
theorem pTk_x (o k : Nat) (h : pTk o k) : pTx o k := ⟨h.1, by have := h.2; omega⟩
theorem pEm_x (o k : Nat) (h : pEm o k) : pTx o k := ⟨h.1, by have := h.2; omega⟩
theorem pTx_n : ¬ pTx 1 0 ∧ ¬ pTx 1 1 := by unfold pTx; decide
theorem pEm_n : ¬ pEm 1 0 ∧ ¬ pEm 1 1 := by unfold pEm; decide
def LenOk (c : ST) : Prop := ∃ n, n ≤ 160 ∧ gs 1 7 c = nI n
def Em (c : ST) (cs : List Int32) : Prop := gs 1 7 c = nI cs.length ∧ cs.length ≤ 160 ∧ ∀ i, i < cs.length → ga 1 6 c i = cs.getD i 0
theorem Em.len {cs : List Int32} (h : Em c cs) : LenOk c := ⟨cs.length, h.2.1, h.1⟩
theorem Em.fr {P : Nat → Nat → Prop} {c' : ST} {cs : List Int32} (h : Em c cs) (f : fr P c c') (g : ¬ P 1 6 ∧ ¬ P 1 7) : Em c' cs := by
  unfold Em
  rw [f.gs g.2, f.ga g.1]
  exact h
theorem LenOk.fr {P : Nat → Nat → Prop} {c' : ST} (h : LenOk c) (f : fr P c c') (g : ¬ P 1 7) : LenOk c' := by
  unfold LenOk
  rw [f.gs g]
  exact h
theorem pTk_e : ¬ pTk 1 6 ∧ ¬ pTk 1 7 := by unfold pTk; decide
theorem TCur.fr {P : Nat → Nat → Prop} {c' : ST} (h : TCur c B z a) (f : fr P c c') (g : ¬ P 1 2 ∧ ¬ P 1 3 ∧ ¬ P 1 4 ∧ ¬ P 1 5) : TCur c' B z a := by
  unfold TCur
  rw [f.gs g.1, f.gs g.2.1, f.gs g.2.2.1, f.gs g.2.2.2]
  exact h
theorem pEm_t : ¬ pEm 1 2 ∧ ¬ pEm 1 3 ∧ ¬ pEm 1 4 ∧ ¬ pEm 1 5 := by unfold pEm; decide
theorem getD_snoc (cs : List Int32) (x : Int32) (i : Nat) (h : i < cs.length + 1) : (cs ++ [x]).getD i 0 = if i = cs.length then x else cs.getD i 0 := by
  by_cases e : i = cs.length
  · rw [if_pos e, e]
    rw [List.getD_eq_getElem?_getD, List.getElem?_append_right (Nat.le_refl _), Nat.sub_self]
    rfl
  · rw [if_neg e, List.getD_eq_getElem?_getD, List.getElem?_append_left (by omega), ← List.getD_eq_getElem?_getD]
theorem c_emit {cs : List Int32} (h : Em c cs) (hl : cs.length < 160) (x : Int32) : ∃ c', f_X2_emit T x c = some ((), c') ∧ Em c' (cs ++ [x]) ∧ fr pEm c c' := by
  unfold f_X2_emit f_X2_emit_L30
  rw [h.1, if_neg (c := (160 : Int32) ≤ nI cs.length) (nI_ge (b := 160) hl (by omega)), ast_nI hl (by omega), put_eq, gs_pa, h.1, nI_1]
  refine ⟨_, rfl, ⟨?_, ?_, fun i hi => ?_⟩, (fr_pa (P := pEm) ⟨rfl, Or.inl rfl⟩ _ _).trans (fr_ps (P := pEm) ⟨rfl, Or.inr rfl⟩ _ _)⟩
  · rw [gs_ps, if_pos ⟨rfl, rfl⟩, List.length_append, List.length_singleton]
  · rw [List.length_append, List.length_singleton]; omega
  · rw [List.length_append, List.length_singleton] at hi
    rw [ga_ps, ga_pa, if_pos ⟨rfl, rfl⟩, upd_at, getD_snoc cs x i hi]
    by_cases e : i = cs.length
    · rw [if_pos e, if_pos e]
    · rw [if_neg e, if_neg e]; exact h.2.2 i (by omega)
theorem c_emit0 (h : LenOk c) (x : Int32) : ∃ c', f_X2_emit T x c = some ((), c') ∧ LenOk c' ∧ fr pEm c c' := by
  obtain ⟨n, hn, e⟩ := h
  unfold f_X2_emit f_X2_emit_L30
  rw [e]
  by_cases h160 : n < 160
  · rw [if_neg (c := (160 : Int32) ≤ nI n) (nI_ge (b := 160) h160 (by omega)), ast_nI h160 (by omega), put_eq, gs_pa, e, nI_1]
    exact ⟨_, rfl, ⟨n + 1, (by omega), by rw [gs_ps, if_pos ⟨rfl, rfl⟩]⟩, (fr_pa (P := pEm) ⟨rfl, Or.inl rfl⟩ _ _).trans (fr_ps (P := pEm) ⟨rfl, Or.inr rfl⟩ _ _)⟩
  · rw [if_pos (c := (160 : Int32) ≤ nI n) (nI_le (a := 160) (by omega) (by omega))]
    exact ⟨c, rfl, ⟨n, hn, e⟩, fr.refl c⟩
/-- how the class comes out of a reading that the grammar says p of -/
def Out (c' : ST) (B : Nat → Int32) (z : Nat) (cs : List Int32) (p : PR) (r : Int32) : Prop := LenOk c' ∧ (p.2 = none → r = 0 ∧ gs 1 2 c' = nI (lxS B z p.1)) ∧ ∀ ds, p.2 = some ds → r = 1 ∧ TCur c' B z p.1 ∧ Em c' (cs ++ ds)
theorem out_some {b : Nat} {cs ds : List Int32} (k : TCur c B z b) (e : Em c (cs ++ ds)) : Out c B z cs (b, some ds) 1 := ⟨e.len, (fun h => by cases h), fun es h => (by cases h; exact ⟨rfl, k, e⟩)⟩
theorem out_none {b : Nat} {cs : List Int32} (l : LenOk c) (s : gs 1 2 c = nI (lxS B z b)) : Out c B z cs (b, none) 0 := ⟨l, fun _ => ⟨rfl, s⟩, fun es h => (by cases h)⟩
def RdOk (B : Nat → Int32) (z : Nat) (rd : Int32 → ST → Option (Int32 × ST)) (v : Int32) (f : Nat → PR) : Prop := ∀ (a : Nat) (c : ST) (cs : List Int32), a ≤ z → TB c B z → TCur c B z a → Em c cs → cs.length ≤ a → ∃ r c', rd v c = some (r, c') ∧ fr pTx c c' ∧ Out c' B z cs (f a) r
theorem pbd_none (b : Nat) (K : Nat → List Int32 → PR) : pbd (b, none) K = (b, none) := rfl
theorem pbd_some (b : Nat) (ds : List Int32) (K : Nat → List Int32 → PR) : pbd (b, some ds) K = K b ds := rfl
theorem c_loop {w : Nat} {v : Int32} {rd : Int32 → ST → Option (Int32 × ST)} {L : Nat → Int32 → Int32 → Int32 → ST → Option (Int32 × ST)} {f : Nat → PR} (h0 : ∀ q i c, L (q + 1) v 0 i c = some (0, c)) (hst : ∀ q i c, opc w (gs 1 4 c) = 0 → L (q + 1) v 1 i c = some (1, c)) (hgo : ∀ q i c, i < 160 → opc w (gs 1 4 c) ≠ 0 → L (q + 1) v 1 (nI i) c = bnd (f_X2_readToken T c) (fun _ t30 => bnd (rd v t30) (fun y35 t35 => bnd (f_X2_emit T (opc w (gs 1 4 c)) t35) (fun _ t42 => L q v y35 (nI i + 1) t42)))) (hrd : RdOk B z rd v f) (hf : ∀ a, a ≤ z → pfacts z a (f a)) : ∀ (n q i a : Nat) (c : ST) (cs ds : List Int32), a ≤ z → i ≤ a → z ≤ n + a → n + 1 < q → TB c B z → TCur c B z a → Em c (cs ++ ds) → (cs ++ ds).length ≤ a → ∃ r c', L q v 1 (nI i) c = some (r, c') ∧ fr pTx c c' ∧ Out c' B z cs (lpz B z w f n a ds) r := by
  intro n
  induction n with
  | zero =>
    intro q i a c cs ds ha hi hz hq h hc he hl
    obtain ⟨q, rfl⟩ : ∃ z, q = z + 1 := ⟨q - 1, (by omega)⟩
    have e0 : lxT B z a = 0 := if_pos (by have := lxS_le B ha; omega)
    have eo : opc w (gs 1 4 c) = 0 := by
      rw [hc.2.2.1, e0]
      unfold opc
      split
      · rfl
      · split
        · rfl
        · split <;> rfl
    rw [hst q _ c eo, lpz]
    exact ⟨1, c, rfl, fr.refl c, out_some (hc) (he)⟩
  | succ n ih =>
    intro q i a c cs ds ha hi hz hq h hc he hl
    obtain ⟨q, rfl⟩ : ∃ z, q = z + 1 := ⟨q - 1, (by omega)⟩
    rw [lpz]
    by_cases ho : opc w (lxT B z a) = 0
    · rw [if_pos ho, hst q _ c (by rw [hc.2.2.1]; exact ho)]
      exact ⟨1, c, rfl, fr.refl c, out_some (hc) (he)⟩
    · rw [if_neg ho]
      have hE := lxE_lt B ha (opc_tok ho)
      have hS := lxS_le B ha
      have hz2 := h.2.2
      rw [hgo q i c (by omega) (by rw [hc.2.2.1]; exact ho), hc.2.2.1]
      obtain ⟨c1, e1, k1, f1⟩ := c_readToken (T := T) h hc.2.1 hE.2.1
      have t1 := h.fr f1 pTk_n
      obtain ⟨r2, c2, e2, f2, o2⟩ := hrd (lxE B z a) c1 (cs ++ ds) hE.2.1 t1 k1 (he.fr f1 pTk_e) (by omega)
      have t2 := t1.fr f2 pTx_n
      have f12 := (f1.mono pTk_x).trans f2
      have hp := hf (lxE B z a) hE.2.1
      rw [e1, bnd_some, e2, bnd_some]
      generalize f (lxE B z a) = p at o2 hp ⊢
      obtain ⟨b, ods⟩ := p
      obtain ⟨o1, o3, o4⟩ := o2
      cases ods with
      | none =>
        obtain ⟨rfl, s2⟩ := o3 rfl
        obtain ⟨c3, e3, l3, f3⟩ := c_emit0 (T := T) o1 (opc w (lxT B z a))
        obtain ⟨q, rfl⟩ : ∃ z, q = z + 1 := ⟨q - 1, (by omega)⟩
        rw [e3, bnd_some, h0, pbd_none]
        exact ⟨0, c3, rfl, f12.trans (f3.mono pEm_x), out_none (l3) (by rw [f3.gs pEm_t.1]; exact s2)⟩
      | some es =>
        obtain ⟨rfl, k2, m2⟩ := o4 es rfl
        obtain ⟨q1, q2, -, -⟩ := hp.2 es rfl
        have q1 : lxE B z a + 1 ≤ b := q1
        have q2 : lxE B z a + es.length ≤ b := q2
        have hb : b ≤ z := hp.1
        have hlen : (cs ++ ds ++ es).length = (cs ++ ds).length + es.length := List.length_append
        obtain ⟨c3, e3, m3, f3⟩ := c_emit (T := T) m2 (by omega) (opc w (lxT B z a))
        rw [e3, bnd_some, nI_1, pbd_some]
        have el : cs ++ ds ++ es ++ [opc w (lxT B z a)] = cs ++ (ds ++ es ++ [opc w (lxT B z a)]) := by
          simp only [List.append_assoc]
        rw [el] at m3
        obtain ⟨r, c', g1, g2, g3⟩ := ih q (i + 1) b c3 cs (ds ++ es ++ [opc w (lxT B z a)]) hb (by omega) (by omega) (by omega) (t2.fr f3 pEm_n) (k2.fr f3 pEm_t) m3 (by
          rw [← el, List.length_append, List.length_singleton]; omega)
        exact ⟨r, c', g1, (f12.trans (f3.mono pEm_x)).trans g2, g3⟩
theorem c_lvl {w : Nat} {v : Int32} {rd : Int32 → ST → Option (Int32 × ST)} {L : Nat → Int32 → Int32 → Int32 → ST → Option (Int32 × ST)} {f : Nat → PR} (h0 : ∀ q i c, L (q + 1) v 0 i c = some (0, c)) (hst : ∀ q i c, opc w (gs 1 4 c) = 0 → L (q + 1) v 1 i c = some (1, c)) (hgo : ∀ q i c, i < 160 → opc w (gs 1 4 c) ≠ 0 → L (q + 1) v 1 (nI i) c = bnd (f_X2_readToken T c) (fun _ t30 => bnd (rd v t30) (fun y35 t35 => bnd (f_X2_emit T (opc w (gs 1 4 c)) t35) (fun _ t42 => L q v y35 (nI i + 1) t42)))) (hrd : RdOk B z rd v f) (hf : ∀ a, a ≤ z → pfacts z a (f a)) : RdOk B z (fun v c => bnd (rd v c) (fun y2 t2 => L 1000 v y2 0 t2)) v (pzL B z w f) := by
  intro a c cs ha h hc he hl
  obtain ⟨r1, c1, e1, f1, o1⟩ := hrd a c cs ha h hc he hl
  have hp := hf a ha
  unfold pzL
  show ∃ r c', bnd (rd v c) (fun y2 t2 => L 1000 v y2 0 t2) = some (r, c') ∧ _
  rw [e1, bnd_some]
  generalize f a = p at o1 hp ⊢
  obtain ⟨b, ods⟩ := p
  obtain ⟨l1, o3, o4⟩ := o1
  cases ods with
  | none =>
    obtain ⟨rfl, s2⟩ := o3 rfl
    rw [h0 999, pbd_none]
    exact ⟨0, c1, rfl, f1, out_none (l1) (s2)⟩
  | some ds =>
    obtain ⟨rfl, k2, m2⟩ := o4 ds rfl
    obtain ⟨q1, q2, -, -⟩ := hp.2 ds rfl
    have q1 : a + 1 ≤ b := q1
    have q2 : a + ds.length ≤ b := q2
    have hb : b ≤ z := hp.1
    have hz2 := h.2.2
    rw [pbd_some]
    obtain ⟨r, c', g1, g2, g3⟩ := c_loop (T := T) h0 hst hgo hrd hf 200 1000 0 b c1 cs ds hb (Nat.zero_le _) (by omega) (by omega) (h.fr f1 pTx_n) k2 m2 (by rw [List.length_append]; omega)
    exact ⟨r, c', g1, f1.trans g2, g3⟩
theorem opc_0 {t : Int32} : opc 0 t = if t = 1003 then -9 else 0 := rfl
theorem opc_1 {t : Int32} : opc 1 t = if t = 1004 then -10 else 0 := rfl
theorem opc_3 {t : Int32} : opc 3 t = if t = 43 then -13 else if t = 45 then -14 else 0 := rfl
theorem opc_4 {t : Int32} : opc 4 t = if t = 42 then -15 else 0 := rfl
theorem m9 : ¬ (-9 : Int32) = 0 ∧ ¬ (-10 : Int32) = 0 ∧ ¬ (-13 : Int32) = 0 ∧ ¬ (-14 : Int32) = 0 ∧ ¬ (-15 : Int32) = 0 := by decide
theorem c_any {rd : Nat → Int32 → ST → Option (Int32 × ST)} {v : Int32} {f : Nat → PR} (hrd : RdOk B z (rd 1) v f) (hf : ∀ a, a ≤ z → pfacts z a (f a)) : RdOk B z (f_X2_readAny T rd) v (pzL B z 0 f) := by
  refine c_lvl (T := T) (w := 0) (rd := rd 1) (L := f_X2_readAny_L8 T rd) (fun q i c => ?_) (fun q i c ho => ?_) (fun q i c hi ho => ?_) hrd hf
  · rw [f_X2_readAny_L8]
    unfold f_X2_readAny_L51
    rw [if_pos rfl]
    split <;> rfl
  · rw [f_X2_readAny_L8]
    unfold f_X2_readAny_L51
    rw [if_neg one_ne0]
    rw [opc_0] at ho
    by_cases g : gs 1 4 c = 1003
    · rw [if_pos g] at ho; exact absurd ho m9.1
    · rw [if_neg g]
      split <;> rfl
  · rw [f_X2_readAny_L8]
    unfold f_X2_readAny_L51
    rw [if_neg (c := (160 : Int32) ≤ nI i) (nI_ge (b := 160) hi (by omega)), if_neg one_ne0]
    rw [opc_0] at ho ⊢
    by_cases g : gs 1 4 c = 1003
    · rw [if_pos g, if_pos g]
    · rw [if_neg g] at ho; exact absurd rfl ho
theorem c_both {rd : Nat → Int32 → ST → Option (Int32 × ST)} {v : Int32} {f : Nat → PR} (hrd : RdOk B z (rd 2) v f) (hf : ∀ a, a ≤ z → pfacts z a (f a)) : RdOk B z (f_X2_readBoth T rd) v (pzL B z 1 f) := by
  refine c_lvl (T := T) (w := 1) (rd := rd 2) (L := f_X2_readBoth_L8 T rd) (fun q i c => ?_) (fun q i c ho => ?_) (fun q i c hi ho => ?_) hrd hf
  · rw [f_X2_readBoth_L8]
    unfold f_X2_readBoth_L51
    rw [if_pos rfl]
    split <;> rfl
  · rw [f_X2_readBoth_L8]
    unfold f_X2_readBoth_L51
    rw [if_neg one_ne0]
    rw [opc_1] at ho
    by_cases g : gs 1 4 c = 1004
    · rw [if_pos g] at ho; exact absurd ho m9.2.1
    · rw [if_neg g]
      split <;> rfl
  · rw [f_X2_readBoth_L8]
    unfold f_X2_readBoth_L51
    rw [if_neg (c := (160 : Int32) ≤ nI i) (nI_ge (b := 160) hi (by omega)), if_neg one_ne0]
    rw [opc_1] at ho ⊢
    by_cases g : gs 1 4 c = 1004
    · rw [if_pos g, if_pos g]
    · rw [if_neg g] at ho; exact absurd rfl ho
theorem c_sum {rd : Nat → Int32 → ST → Option (Int32 × ST)} {v : Int32} {f : Nat → PR} (hrd : RdOk B z (rd 4) v f) (hf : ∀ a, a ≤ z → pfacts z a (f a)) : RdOk B z (f_X2_readSum T rd) v (pzL B z 3 f) := by
  refine c_lvl (T := T) (w := 3) (rd := rd 4) (L := f_X2_readSum_L8 T rd) (fun q i c => ?_) (fun q i c ho => ?_) (fun q i c hi ho => ?_) hrd hf
  · rw [f_X2_readSum_L8]
    unfold f_X2_readSum_L77
    rw [if_pos rfl]
    split <;> rfl
  · rw [f_X2_readSum_L8]
    unfold f_X2_readSum_L77
    rw [if_neg one_ne0]
    rw [opc_3] at ho
    by_cases g : gs 1 4 c = 43
    · rw [if_pos g] at ho; exact absurd ho m9.2.2.1
    · rw [if_neg g] at ho ⊢
      by_cases g2 : gs 1 4 c = 45
      · rw [if_pos g2] at ho; exact absurd ho m9.2.2.2.1
      · rw [if_neg g2]
        split <;> rfl
  · rw [f_X2_readSum_L8]
    unfold f_X2_readSum_L77 f_X2_readSum_L37 f_X2_readSum_L53
    rw [if_neg (c := (160 : Int32) ≤ nI i) (nI_ge (b := 160) hi (by omega)), if_neg one_ne0]
    rw [opc_3] at ho ⊢
    by_cases g : gs 1 4 c = 43
    · rw [if_pos g, if_pos g, if_pos g]
    · rw [if_neg g, if_neg g, if_neg g]
      rw [if_neg g] at ho
      by_cases g2 : gs 1 4 c = 45
      · rw [if_pos g2, if_pos g2]
      · rw [if_neg g2] at ho; exact absurd rfl ho
theorem c_term {rd : Nat → Int32 → ST → Option (Int32 × ST)} {v : Int32} {f : Nat → PR} (hrd : RdOk B z (rd 5) v f) (hf : ∀ a, a ≤ z → pfacts z a (f a)) : RdOk B z (f_X2_readTerm T rd) v (pzL B z 4 f) := by
  refine c_lvl (T := T) (w := 4) (rd := rd 5) (L := f_X2_readTerm_L8 T rd) (fun q i c => ?_) (fun q i c ho => ?_) (fun q i c hi ho => ?_) hrd hf
  · rw [f_X2_readTerm_L8]
    unfold f_X2_readTerm_L50
    rw [if_pos rfl]
    split <;> rfl
  · rw [f_X2_readTerm_L8]
    unfold f_X2_readTerm_L50
    rw [if_neg one_ne0]
    rw [opc_4] at ho
    by_cases g : gs 1 4 c = 42
    · rw [if_pos g] at ho; exact absurd ho m9.2.2.2.2
    · rw [if_neg g]
      split <;> rfl
  · rw [f_X2_readTerm_L8]
    unfold f_X2_readTerm_L50
    rw [if_neg (c := (160 : Int32) ≤ nI i) (nI_ge (b := 160) hi (by omega)), if_neg one_ne0]
    rw [opc_4] at ho ⊢
    by_cases g : gs 1 4 c = 42
    · rw [if_pos g, if_pos g]
    · rw [if_neg g] at ho; exact absurd rfl ho
/-- the reader's NOT -/
theorem c_not {rd : Nat → Int32 → ST → Option (Int32 × ST)} {v : Nat} {g : Nat → Nat → Nat → PR} (hv : v ≤ 5) (h2 : v < 5 → RdOk B z (rd 2) (nI (v + 1)) (g 2 (v + 1))) (h3 : RdOk B z (rd 3) (nI v) (g 3 v)) (hf : ∀ w v a, a ≤ z → pfacts z a (g w v a)) : RdOk B z (f_X2_readNot T rd) (nI v) (pzN B z g v) := by
  intro a c cs ha h hc he hl
  have hz2 := h.2.2
  unfold f_X2_readNot f_X2_readNot_L65 f_X2_readNot_L81 f_X2_readNot_L97 pzN
  rw [hc.2.2.1]
  by_cases ht : lxT B z a = 1005
  · rw [if_pos ht, if_pos ht]
    by_cases h5 : v < 5
    · have hE := lxE_lt B ha (by rw [ht]; decide)
      rw [if_pos (c := nI v < (5 : Int32)) (nI_lt (b := 5) h5 (by omega)), if_pos h5, nI_1]
      obtain ⟨c1, e1, k1, f1⟩ := c_readToken (T := T) h hc.2.1 hE.2.1
      have t1 := h.fr f1 pTk_n
      obtain ⟨r2, c2, e2, f2, o2⟩ := h2 h5 (lxE B z a) c1 cs hE.2.1 t1 k1 (he.fr f1 pTk_e) (by omega)
      have f12 := (f1.mono pTk_x).trans f2
      have hp := hf 2 (v + 1) (lxE B z a) hE.2.1
      rw [e1, bnd_some, e2, bnd_some]
      generalize g 2 (v + 1) (lxE B z a) = p at o2 hp ⊢
      obtain ⟨b, ods⟩ := p
      obtain ⟨o1, o3, o4⟩ := o2
      cases ods with
      | none =>
        obtain ⟨rfl, s2⟩ := o3 rfl
        obtain ⟨c3, e3, l3, f3⟩ := c_emit0 (T := T) o1 (-8)
        rw [e3, bnd_some, pbd_none]
        exact ⟨0, c3, rfl, f12.trans (f3.mono pEm_x), out_none (l3) (by rw [f3.gs pEm_t.1]; exact s2)⟩
      | some es =>
        obtain ⟨rfl, k2, m2⟩ := o4 es rfl
        obtain ⟨q1, q2, -, -⟩ := hp.2 es rfl
        have q1 : lxE B z a + 1 ≤ b := q1
        have q2 : lxE B z a + es.length ≤ b := q2
        have hb : b ≤ z := hp.1
        have hlen : (cs ++ es).length = cs.length + es.length := List.length_append
        obtain ⟨c3, e3, m3, f3⟩ := c_emit (T := T) m2 (by omega) (-8)
        rw [e3, bnd_some, pbd_some]
        rw [List.append_assoc] at m3
        exact ⟨1, c3, rfl, f12.trans (f3.mono pEm_x), out_some (k2.fr f3 pEm_t) (m3)⟩
    · rw [if_neg (c := nI v < (5 : Int32)) (nI_nlt (b := 5) (by omega) (by omega)), if_neg h5]
      exact ⟨0, c, rfl, fr.refl c, out_none (he.len) (hc.1)⟩
  · rw [if_neg ht, if_neg ht]
    obtain ⟨r1, c1, e1, f1, o1⟩ := h3 a c cs ha h hc he hl
    have hp := hf 3 v a ha
    rw [e1, bnd_some]
    generalize g 3 v a = p at o1 hp ⊢
    obtain ⟨b, ods⟩ := p
    obtain ⟨l1, o3, o4⟩ := o1
    cases ods with
    | none =>
      obtain ⟨rfl, s2⟩ := o3 rfl
      rw [if_pos rfl, pbd_none]
      exact ⟨0, c1, rfl, f1, out_none (l1) (s2)⟩
    | some ds =>
      obtain ⟨rfl, k2, m2⟩ := o4 ds rfl
      obtain ⟨q1, q2, -, -⟩ := hp.2 ds rfl
      have q1 : a + 1 ≤ b := q1
      have q2 : a + ds.length ≤ b := q2
      have hb : b ≤ z := hp.1
      have t1 := h.fr f1 pTx_n
      rw [if_neg one_ne0, pbd_some, k2.2.2.1]
      have go : ∀ s0 : Int32, lxT B z b = 60 ∨ lxT B z b = 61 → ∃ r c', bnd (f_X2_readToken T c1) (fun _ t83 => bnd (rd 3 (nI v) t83) (fun y88 t88 => bnd (f_X2_emit T s0 t88) (fun _ t94 => retz y88 t94))) = some (r, c') ∧ fr pTx c c' ∧ Out c' B z cs (pbd (g 3 v (lxE B z b)) (fun b2 es => (b2, some (ds ++ es ++ [s0])))) r := by
        intro s0 hs0
        have hE := lxE_lt B hb (by rcases hs0 with e | e <;> (rw [e]; decide))
        obtain ⟨c2, e2, k3, f2⟩ := c_readToken (T := T) t1 k2.2.1 hE.2.1
        have t2 := t1.fr f2 pTk_n
        obtain ⟨r3, c3, e3, f3, o2⟩ := h3 (lxE B z b) c2 (cs ++ ds) hE.2.1 t2 k3 (m2.fr f2 pTk_e) (by rw [List.length_append]; omega)
        have f123 := (f1.trans (f2.mono pTk_x)).trans f3
        have hp2 := hf 3 v (lxE B z b) hE.2.1
        rw [e2, bnd_some, e3, bnd_some]
        generalize g 3 v (lxE B z b) = p at o2 hp2 ⊢
        obtain ⟨b2, oes⟩ := p
        obtain ⟨o1, o5, o6⟩ := o2
        cases oes with
        | none =>
          obtain ⟨rfl, s2⟩ := o5 rfl
          obtain ⟨c4, e4, l4, f4⟩ := c_emit0 (T := T) o1 s0
          rw [e4, bnd_some, pbd_none]
          exact ⟨0, c4, rfl, f123.trans (f4.mono pEm_x), out_none (l4) (by rw [f4.gs pEm_t.1]; exact s2)⟩
        | some es =>
          obtain ⟨rfl, k4, m4⟩ := o6 es rfl
          obtain ⟨p1, p2, -, -⟩ := hp2.2 es rfl
          have p1 : lxE B z b + 1 ≤ b2 := p1
          have p2 : lxE B z b + es.length ≤ b2 := p2
          have hb2 : b2 ≤ z := hp2.1
          have hlen : (cs ++ ds ++ es).length = cs.length + ds.length + es.length := by rw [List.length_append, List.length_append]
          obtain ⟨c4, e4, m5, f4⟩ := c_emit (T := T) m4 (by omega) s0
          rw [e4, bnd_some, pbd_some]
          have el : cs ++ ds ++ es ++ [s0] = cs ++ (ds ++ es ++ [s0]) := by
            simp only [List.append_assoc]
          rw [el] at m5
          exact ⟨1, c4, rfl, f123.trans (f4.mono pEm_x), out_some (k4.fr f4 pEm_t) (m5)⟩
      by_cases h60 : lxT B z b = 60
      · rw [if_pos h60, if_pos h60, if_pos (Or.inl h60), if_pos h60]
        exact go (-11) (Or.inl h60)
      · rw [if_neg h60, if_neg h60, if_neg h60]
        by_cases h61 : lxT B z b = 61
        · rw [if_pos h61, if_pos (Or.inr h61)]
          exact go (-12) (Or.inr h61)
        · rw [if_neg h61, if_neg (fun e => e.elim h60 h61)]
          exact ⟨1, c1, rfl, f1, out_some (k2) (m2)⟩
/-- the reader's ONE -/
theorem c_one {rd : Nat → Int32 → ST → Option (Int32 × ST)} {v : Nat} {g : Nat → Nat → Nat → PR} (hv : v ≤ 5) (h2 : v < 5 → RdOk B z (rd 0) (nI (v + 1)) (g 0 (v + 1))) (h3 : v < 5 → RdOk B z (rd 5) (nI (v + 1)) (g 5 (v + 1))) (hf : ∀ w v a, a ≤ z → pfacts z a (g w v a)) : RdOk B z (f_X2_readOne T rd) (nI v) (pzO B z g v) := by
  intro a c cs ha h hc he hl
  have hz2 := h.2.2
  unfold f_X2_readOne f_X2_readOne_L70 f_X2_readOne_L75 f_X2_readOne_L113 f_X2_readOne_L114 pzO
  rw [hc.2.2.1]
  have leaf : ∀ x : Int32, lxT B z a ≠ 0 → ∃ r c', bnd (f_X2_emit T x c) (fun _ t13 => bnd (f_X2_readToken T t13) (fun _ t17 => retz (1 : Int32) t17)) = some (r, c') ∧ fr pTx c c' ∧ Out c' B z cs (lxE B z a, some [x]) r := by
    intro x hx
    have hE := lxE_lt B ha hx
    have hS := lxS_le B ha
    obtain ⟨c1, e1, m1, f1⟩ := c_emit (T := T) he (by omega) x
    obtain ⟨c2, e2, k2, f2⟩ := c_readToken (T := T) (h.fr f1 pEm_n) (by rw [f1.gs pEm_t.2.1]; exact hc.2.1) hE.2.1
    rw [e1, bnd_some, e2, bnd_some]
    exact ⟨1, c2, rfl, (f1.mono pEm_x).trans (f2.mono pTk_x), out_some (k2) (m1.fr f2 pTk_e)⟩
  have bad : ∃ r c', retz (0 : Int32) c = some (r, c') ∧ fr pTx c c' ∧ Out c' B z cs (a, none) r := ⟨0, c, rfl, fr.refl c, out_none (he.len) (hc.1)⟩
  by_cases h1 : lxT B z a = 1
  · rw [if_pos h1, if_pos h1, hc.2.2.2 h1]
    exact leaf _ (by rw [h1]; decide)
  · rw [if_neg h1, if_neg h1]
    by_cases h6 : 1006 ≤ lxT B z a
    · rw [if_neg (Int32.not_lt.mpr h6), if_pos h6]
      exact leaf _ (fun e => by rw [e] at h6; exact absurd h6 (by decide))
    · rw [if_pos (Int32.not_le.mp h6), if_neg h6]
      have n45 : ¬ (45 : Int32) = 40 := by decide
      have n40 : ¬ (40 : Int32) = 45 := by decide
      by_cases h40 : lxT B z a = 40
      · rw [h40, if_neg n40, if_pos rfl, if_pos rfl, if_pos rfl]
        by_cases h5 : v < 5
        · rw [if_pos (c := nI v < (5 : Int32)) (nI_lt (b := 5) h5 (by omega)), if_pos h5, nI_1]
          have hE := lxE_lt B ha (by rw [h40]; decide)
          obtain ⟨c1, e1, k1, f1⟩ := c_readToken (T := T) h hc.2.1 hE.2.1
          have t1 := h.fr f1 pTk_n
          obtain ⟨r2, c2, e2, f2, o2⟩ := h2 h5 (lxE B z a) c1 cs hE.2.1 t1 k1 (he.fr f1 pTk_e) (by omega)
          have t2 := t1.fr f2 pTx_n
          have f12 := (f1.mono pTk_x).trans f2
          have hp := hf 0 (v + 1) (lxE B z a) hE.2.1
          rw [e1, bnd_some, e2, bnd_some]
          generalize g 0 (v + 1) (lxE B z a) = p at o2 hp ⊢
          obtain ⟨b, ods⟩ := p
          obtain ⟨o1, o3, o4⟩ := o2
          cases ods with
          | none =>
            obtain ⟨rfl, s2⟩ := o3 rfl
            rw [if_pos rfl, pbd_none]
            exact ⟨0, c2, rfl, f12, out_none (o1) (s2)⟩
          | some es =>
            obtain ⟨rfl, k2, m2⟩ := o4 es rfl
            have hb : b ≤ z := hp.1
            rw [if_neg one_ne0, pbd_some]
            unfold f_X2_passes
            rw [k2.2.2.1]
            by_cases h41 : lxT B z b = 41
            · rw [if_pos h41, if_pos h41]
              have hE2 := lxE_lt B hb (by rw [h41]; decide)
              obtain ⟨c3, e3, k3, f3⟩ := c_readToken (T := T) t2 k2.2.1 hE2.2.1
              rw [e3, bnd_some, retz_1, bnd_some, if_neg one_ne0]
              exact ⟨1, c3, rfl, f12.trans (f3.mono pTk_x), out_some (k3) (m2.fr f3 pTk_e)⟩
            · rw [if_neg h41, if_neg h41, retz_0, bnd_some, if_pos rfl]
              exact ⟨0, c2, rfl, f12, out_none (o1) (k2.1)⟩
        · rw [if_neg (c := nI v < (5 : Int32)) (nI_nlt (b := 5) (by omega) (by omega)), if_neg h5]
          exact bad
      · simp only [h40, reduceIte]
        by_cases h45 : lxT B z a = 45
        · rw [if_pos h45, if_pos h45]
          by_cases h5 : v < 5
          · rw [if_pos (c := nI v < (5 : Int32)) (nI_lt (b := 5) h5 (by omega)), if_pos h5, nI_1]
            have hE := lxE_lt B ha (by rw [h45]; decide)
            obtain ⟨c1, e1, k1, f1⟩ := c_readToken (T := T) h hc.2.1 hE.2.1
            have t1 := h.fr f1 pTk_n
            obtain ⟨r2, c2, e2, f2, o2⟩ := h3 h5 (lxE B z a) c1 cs hE.2.1 t1 k1 (he.fr f1 pTk_e) (by omega)
            have f12 := (f1.mono pTk_x).trans f2
            have hp := hf 5 (v + 1) (lxE B z a) hE.2.1
            rw [e1, bnd_some, e2, bnd_some]
            generalize g 5 (v + 1) (lxE B z a) = p at o2 hp ⊢
            obtain ⟨b, ods⟩ := p
            obtain ⟨o1, o3, o4⟩ := o2
            cases ods with
            | none =>
              obtain ⟨rfl, s2⟩ := o3 rfl
              obtain ⟨c3, e3, l3, f3⟩ := c_emit0 (T := T) o1 (-7)
              rw [e3, bnd_some, pbd_none]
              exact ⟨0, c3, rfl, f12.trans (f3.mono pEm_x), out_none (l3) (by rw [f3.gs pEm_t.1]; exact s2)⟩
            | some es =>
              obtain ⟨rfl, k2, m2⟩ := o4 es rfl
              obtain ⟨q1, q2, -, -⟩ := hp.2 es rfl
              have q1 : lxE B z a + 1 ≤ b := q1
              have q2 : lxE B z a + es.length ≤ b := q2
              have hb : b ≤ z := hp.1
              have hlen : (cs ++ es).length = cs.length + es.length := List.length_append
              obtain ⟨c3, e3, m3, f3⟩ := c_emit (T := T) m2 (by omega) (-7)
              rw [e3, bnd_some, pbd_some]
              rw [List.append_assoc] at m3
              exact ⟨1, c3, rfl, f12.trans (f3.mono pEm_x), out_some (k2.fr f3 pEm_t) (m3)⟩
          · rw [if_neg (c := nI v < (5 : Int32)) (nI_nlt (b := 5) (by omega) (by omega)), if_neg h5]
            exact bad
        · rw [if_neg h45, if_neg h45]
          exact bad
/-- all of the grammar, by the depth that is left -/
theorem c_rd : ∀ (d w v : Nat), w ≤ 5 → v ≤ 5 → 6 * (5 - v) + (6 - w) ≤ d → RdOk B z (f_rd T d w) (nI v) (pz B z d w v) := by
  intro d
  induction d with
  | zero => intro w v hw hv hd; omega
  | succ d ih =>
    intro w v hw hv hd
    have fa := fun w v a (h : a ≤ z) => pz_facts (B := B) d w v a h
    rcases (show w = 0 ∨ w = 1 ∨ w = 2 ∨ w = 3 ∨ w = 4 ∨ w = 5 by omega) with rfl | rfl | rfl | rfl | rfl | rfl
    · exact c_any (T := T) (rd := f_rd T d) (ih 1 v (by omega) hv (by omega)) (fa 1 v)
    · exact c_both (T := T) (rd := f_rd T d) (ih 2 v (by omega) hv (by omega)) (fa 2 v)
    · exact c_not (T := T) (rd := f_rd T d) (g := pz B z d) hv (fun h5 => ih 2 (v + 1) (by omega) (by omega) (by omega)) (ih 3 v (by omega) hv (by omega)) fa
    · exact c_sum (T := T) (rd := f_rd T d) (ih 4 v (by omega) hv (by omega)) (fa 4 v)
    · exact c_term (T := T) (rd := f_rd T d) (ih 5 v (by omega) hv (by omega)) (fa 5 v)
    · exact c_one (T := T) (rd := f_rd T d) (g := pz B z d) hv (fun h5 => ih 0 (v + 1) (by omega) (by omega) (by omega)) (fun h5 => ih 5 (v + 1) (by omega) (by omega) (by omega)) fa
end PCParse
