/-! the reference reads by the grammar: all of it -/
section PMRead
variable {m : ST} {B : Nat → Int32} {z a t : Nat}
theorem MR.z160 {S E : List Int32} (h : MR m B z t a S E) : z ≤ 160 := h.1.2.2.1
theorem m_leaf_k {H E : List Int32} {mn x : Int32} {q k : Nat} {m1 : ST} (b1 : MB m1 B z) (g18 : gs 50 18 m1 = nI (lxE B z a)) (s1 : MS m1 (List.replicate k 19 ++ H) (nop (List.replicate k 19 ++ H))) (o1 : MO m1 t E) (hlen : E.length + (k + H.length) ≤ a) (ha : a < lxE B z a ∧ lxE B z a ≤ z) (hz : z ≤ 160) (hH : topLt H 7) : ∃ m', f_X5_eRead_L61 (fun v1 v2 σ => f_X5_eRead_L14 q v1 v2 σ) mn x m1 = f_X5_eRead_L14 q 0 mn m' ∧ MR m' B z t (lxE B z a) H (E ++ [x] ++ List.replicate k 19) ∧ FM t m1 m' := by
  unfold f_X5_eRead_L61
  obtain ⟨m2, e2, o2, f2, F2⟩ := m_puts o1 (by omega) x
  rw [e2, bnd_some]
  obtain ⟨m3, e3, s3, o3, F3, f3⟩ := m_unw (k := 7) (by omega) (by omega) hH (fun y hy => by rw [List.eq_of_mem_replicate hy]; decide) (s1.fr f2 pOu_s) o2 (by rw [List.length_append, List.length_singleton, List.length_replicate]; omega)
  rw [show (7 : Int32) = nI 7 from rfl, e3, bnd_some]
  refine ⟨m3, rfl, ⟨FM.mb b1 (F2.trans F3), ?_, s3, o3, ?_, ha.2⟩, F2.trans F3⟩
  · rw [f3.gs pUw_18, f2.gs (by unfold pOu; decide)]; exact g18
  · rw [List.length_append, List.length_append, List.length_singleton, List.length_replicate]; omega
theorem m_leaf {H E : List Int32} {mn : Int32} {q k : Nat} (ht : lxT B z a = 1 ∨ ∃ j, j < 6 ∧ lxT B z a = nI (1006 + j)) (h : MR m B z t a (List.replicate k 19 ++ H) E) (hH : topLt H 7) : ∃ m', f_X5_eRead_L14 (q + 1) 1 mn m = f_X5_eRead_L14 q 0 mn m' ∧ MR m' B z t (lxE B z a) H (E ++ [cv (if lxT B z a = 1 then lxV B z a else -1 - (lxT B z a - 1006))] ++ List.replicate k 19) ∧ FM t m m' := by
  have hz := h.z160
  have hlen := h.2.2.2.2.1
  rw [List.length_append, List.length_replicate] at hlen
  have h8 := h.2.2.2.2.2
  have hn0 : lxT B z a ≠ 0 := by
    rcases ht with e | ⟨j, hj, e⟩
    · rw [e]; decide
    · rw [e]; intro g; have := (nI_eq (a := 1006 + j) (b := 0) (by omega) (by omega)).mp g; omega
  have hE := lxE_lt B h8 hn0
  obtain ⟨m1, e1, k1, b1, s1, o1, F1⟩ := h.next
  rw [f_X5_eRead_L14, e1, bnd_some, if_neg one_ne0]
  unfold f_X5_eRead_L38
  rcases ht with e | ⟨j, hj, e⟩
  · have hx : gs 50 20 m1 = 1 := by rw [k1.2.2.1, e]; rfl
    obtain ⟨w, hw, ew⟩ := lxV_nI B h8 e
    have ec : cv (nI w) = 100000 + nI w := if_pos (nI_pos' (by omega))
    rw [if_pos e, ew, ec, hx, if_pos rfl, if_pos rfl, k1.2.2.2.1 e, ew]
    obtain ⟨m', g1, g2, g3⟩ := m_leaf_k (mn := mn) (x := 100000 + nI w) (q := q) b1 k1.1 s1 o1 hlen ⟨hE.1, hE.2.1⟩ hz hH
    exact ⟨m', g1, g2, F1.trans g3⟩
  · have hx : gs 50 20 m1 = 2 := by rw [k1.2.2.1, e, mT_name j hj]
    have n1 : ¬ lxT B z a = 1 := fun g => by rw [e] at g; have := (nI_eq (a := 1006 + j) (b := 1) (by omega) (by omega)).mp g; omega
    have es : nI (1006 + j) - 1006 = nI j := by
      show nI (1006 + j) - nI 1006 = _
      rw [nI_sub (by omega), Nat.add_sub_cancel_left]
    have ec : cv (-1 - nI j) = nI j := by
      unfold cv
      rw [if_neg (nm_neg j hj).1, if_pos (nm_neg j hj).2, nm_k]
    rw [if_neg n1, e, es, ec, hx, if_neg (by decide), if_pos rfl, if_neg (by decide), k1.2.2.2.2.2 j hj e]
    obtain ⟨m', g1, g2, g3⟩ := m_leaf_k (mn := mn) (x := nI j) (q := q) b1 k1.1 s1 o1 hlen ⟨hE.1, hE.2.1⟩ hz hH
    exact ⟨m', g1, g2, F1.trans g3⟩
theorem m_push_k {S E : List Int32} {x : Int32} {m1 : ST} (hx : opn x = 1) (h5 : nop S < 5) (b1 : MB m1 B z) (g18 : gs 50 18 m1 = nI (lxE B z a)) (s1 : MS m1 S (nop S)) (o1 : MO m1 t E) (hlen : E.length + S.length ≤ a) (ha : a < lxE B z a ∧ lxE B z a ≤ z) (hz : z ≤ 160) : ∃ m', f_X5_opensOne x m1 = some (1, m') ∧ MR m' B z t (lxE B z a) (x :: S) E ∧ FM t m1 m' := by
  obtain ⟨m', e, s2, f⟩ := m_opensOne s1 (by omega) h5 x
  have en : nop (x :: S) = nop S + 1 := by rw [nop, hx, Nat.add_comm]
  refine ⟨m', e, ⟨FM.mb (t := t) b1 (FM.sk f), ?_, by rw [en]; exact s2, o1.fr f pSk_o, ?_, ha.2⟩, FM.sk f⟩
  · rw [f.gs (by unfold pSk; decide)]; exact g18
  · rw [List.length_cons]; omega
theorem m_push40 {S E : List Int32} {mn : Int32} {q : Nat} (ht : lxT B z a = 40) (h5 : nop S < 5) (h : MR m B z t a S E) : ∃ m', f_X5_eRead_L14 (q + 1) 1 mn m = f_X5_eRead_L14 q 1 1 m' ∧ MR m' B z t (lxE B z a) (0 :: S) E ∧ FM t m m' := by
  have hE := lxE_lt B h.2.2.2.2.2 (by rw [ht]; decide)
  obtain ⟨m1, e1, k1, b1, s1, o1, F1⟩ := h.next
  have hx : gs 50 20 m1 = 40 := by rw [k1.2.2.1, ht]; rfl
  obtain ⟨m', e2, g2, F2⟩ := m_push_k (x := 0) rfl h5 b1 k1.1 s1 o1 h.2.2.2.2.1 ⟨hE.1, hE.2.1⟩ h.z160
  rw [f_X5_eRead_L14, e1, bnd_some, if_neg one_ne0, hx, if_neg (by decide), if_neg (by decide), if_neg (by decide)]
  unfold f_X5_eRead_L99
  rw [hx, if_neg (by decide), if_pos rfl, e2, bnd_some, if_neg one_ne0]
  exact ⟨m', rfl, g2, F1.trans F2⟩
theorem m_push45 {S E : List Int32} {mn : Int32} {q : Nat} (ht : lxT B z a = 45) (h5 : nop S < 5) (h : MR m B z t a S E) : ∃ m', f_X5_eRead_L14 (q + 1) 1 mn m = f_X5_eRead_L14 q 1 0 m' ∧ MR m' B z t (lxE B z a) (19 :: S) E ∧ FM t m m' := by
  have hE := lxE_lt B h.2.2.2.2.2 (by rw [ht]; decide)
  obtain ⟨m1, e1, k1, b1, s1, o1, F1⟩ := h.next
  have hx : gs 50 20 m1 = 45 := by rw [k1.2.2.1, ht]; rfl
  obtain ⟨m', e2, g2, F2⟩ := m_push_k (x := 19) rfl h5 b1 k1.1 s1 o1 h.2.2.2.2.1 ⟨hE.1, hE.2.1⟩ h.z160
  rw [f_X5_eRead_L14, e1, bnd_some, if_neg one_ne0, hx, if_neg (by decide), if_neg (by decide), if_neg (by decide)]
  unfold f_X5_eRead_L99
  rw [hx, if_pos rfl, e2, bnd_some, if_neg one_ne0]
  exact ⟨m', rfl, g2, F1.trans F2⟩
theorem m_pushN {S E : List Int32} {q : Nat} (ht : lxT B z a = 1005) (h5 : nop S < 5) (h : MR m B z t a S E) : ∃ m', f_X5_eRead_L14 (q + 1) 1 1 m = f_X5_eRead_L14 q 1 1 m' ∧ MR m' B z t (lxE B z a) (13 :: S) E ∧ FM t m m' := by
  have hE := lxE_lt B h.2.2.2.2.2 (by rw [ht]; decide)
  obtain ⟨m1, e1, k1, b1, s1, o1, F1⟩ := h.next
  have hx : gs 50 20 m1 = 6 := by rw [k1.2.2.1, ht]; rfl
  obtain ⟨m', e2, g2, F2⟩ := m_push_k (x := 13) rfl h5 b1 k1.1 s1 o1 h.2.2.2.2.1 ⟨hE.1, hE.2.1⟩ h.z160
  rw [f_X5_eRead_L14, e1, bnd_some, if_neg one_ne0, hx, if_neg (by decide), if_neg (by decide), if_pos rfl, if_neg one_ne0, e2, bnd_some, if_neg one_ne0]
  exact ⟨m', rfl, g2, F1.trans F2⟩
/-- what can't stand where a ONE is wanted -/
theorem m_bad {S E : List Int32} {mn : Int32} {q : Nat} (n1 : lxT B z a ≠ 1) (n6 : ¬ 1006 ≤ lxT B z a) (n40 : lxT B z a = 40 → nop S = 5) (n45 : lxT B z a = 45 → nop S = 5) (nN : lxT B z a = 1005 → mn = 0 ∨ nop S = 5) (h : MR m B z t a S E) : ∃ m', f_X5_eRead_L14 (q + 1) 1 mn m = some (0, m') ∧ gs 50 19 m' = nI (lxS B z a) ∧ FM t m m' := by
  obtain ⟨m1, e1, k1, b1, s1, o1, F1⟩ := h.next
  rw [f_X5_eRead_L14, e1, bnd_some, if_neg one_ne0]
  unfold f_X5_eRead_L99
  have nope : ∀ x : Int32, gs 50 20 m1 = x → ¬ x = 1 → ¬ x = 2 → ¬ x = 6 → ¬ x = 45 → ¬ x = 40 → ∃ m', (if gs 50 20 m1 = (1 : Int32) then f_X5_eRead_L38 (fun v1 v2 σ => f_X5_eRead_L14 q v1 v2 σ) mn m1 else (if gs 50 20 m1 = (2 : Int32) then f_X5_eRead_L38 (fun v1 v2 σ => f_X5_eRead_L14 q v1 v2 σ) mn m1 else (if gs 50 20 m1 = (6 : Int32) then (if mn = 0 then (if gs 50 20 m1 = (45 : Int32) then bnd (f_X5_opensOne (19 : Int32) m1) (fun y111 t111 => (if y111 = 0 then retz (0 : Int32) t111 else f_X5_eRead_L14 q 1 (0 : Int32) t111)) else (if gs 50 20 m1 = (40 : Int32) then bnd (f_X5_opensOne (0 : Int32) m1) (fun y135 t135 => (if y135 = 0 then retz (0 : Int32) t135 else f_X5_eRead_L14 q 1 (1 : Int32) t135)) else retz (0 : Int32) m1)) else bnd (f_X5_opensOne (13 : Int32) m1) (fun y91 t91 => (if y91 = 0 then retz (0 : Int32) t91 else f_X5_eRead_L14 q 1 mn t91))) else (if gs 50 20 m1 = (45 : Int32) then bnd (f_X5_opensOne (19 : Int32) m1) (fun y111 t111 => (if y111 = 0 then retz (0 : Int32) t111 else f_X5_eRead_L14 q 1 (0 : Int32) t111)) else (if gs 50 20 m1 = (40 : Int32) then bnd (f_X5_opensOne (0 : Int32) m1) (fun y135 t135 => (if y135 = 0 then retz (0 : Int32) t135 else f_X5_eRead_L14 q 1 (1 : Int32) t135)) else retz (0 : Int32) m1))))) = some (0, m') ∧ gs 50 19 m' = nI (lxS B z a) ∧ FM t m m' := by
    intro x hx a1 a2 a3 a4 a5
    rw [hx, if_neg a1, if_neg a2, if_neg a3, if_neg a4, if_neg a5]
    exact ⟨m1, rfl, k1.2.1, F1⟩
  rcases lxT_cases B z a with e | e | e | ⟨i, hi, e⟩ | e
  · exact nope 0 (by rw [k1.2.2.1, e]; rfl) (by decide) (by decide) (by decide) (by decide) (by decide)
  · exact absurd e n1
  · exact nope (-1) (by rw [k1.2.2.1, e]; rfl) (by decide) (by decide) (by decide) (by decide) (by decide)
  · rcases (show i < 3 ∨ i = 3 ∨ i = 4 ∨ i = 5 ∨ 6 ≤ i by omega) with g | rfl | rfl | rfl | g
    · exact nope 3 (by rw [k1.2.2.1, e, mT_key i g]) (by decide) (by decide) (by decide) (by decide) (by decide)
    · exact nope 4 (by rw [k1.2.2.1, e]; rfl) (by decide) (by decide) (by decide) (by decide) (by decide)
    · exact nope 5 (by rw [k1.2.2.1, e]; rfl) (by decide) (by decide) (by decide) (by decide) (by decide)
    · have hx : gs 50 20 m1 = 6 := by rw [k1.2.2.1, e]; rfl
      rw [hx, if_neg (by decide), if_neg (by decide), if_pos rfl]
      rcases nN e with g | g
      · rw [if_pos g, if_neg (by decide), if_neg (by decide)]
        exact ⟨m1, rfl, k1.2.1, F1⟩
      · by_cases hm : mn = 0
        · rw [if_pos hm, if_neg (by decide), if_neg (by decide)]
          exact ⟨m1, rfl, k1.2.1, F1⟩
        · rw [g] at s1
          rw [if_neg hm, m_opensOne5 s1, bnd_some, if_pos rfl]
          exact ⟨m1, rfl, k1.2.1, F1⟩
    · exact absurd (show (1006 : Int32) ≤ lxT B z a by rw [e]; exact nI_le (a := 1006) (by omega) (by omega)) n6
  · have hx : gs 50 20 m1 = lxT B z a := by rw [k1.2.2.1, mT_sg e]
    rcases sg_tab e with g | g | g | g | g | g | g | g
    · rw [g] at hx
      have g5 := n40 g
      rw [g5] at s1
      rw [hx, if_neg (by decide), if_neg (by decide), if_neg (by decide), if_neg (by decide), if_pos rfl, m_opensOne5 s1, bnd_some, if_pos rfl]
      exact ⟨m1, rfl, k1.2.1, F1⟩
    · exact nope 41 (by rw [hx, g]) (by decide) (by decide) (by decide) (by decide) (by decide)
    · exact nope 59 (by rw [hx, g]) (by decide) (by decide) (by decide) (by decide) (by decide)
    · exact nope 43 (by rw [hx, g]) (by decide) (by decide) (by decide) (by decide) (by decide)
    · rw [g] at hx
      have g5 := n45 g
      rw [g5] at s1
      rw [hx, if_neg (by decide), if_neg (by decide), if_neg (by decide), if_pos rfl, m_opensOne5 s1, bnd_some, if_pos rfl]
      exact ⟨m1, rfl, k1.2.1, F1⟩
    · exact nope 42 (by rw [hx, g]) (by decide) (by decide) (by decide) (by decide) (by decide)
    · exact nope 60 (by rw [hx, g]) (by decide) (by decide) (by decide) (by decide) (by decide)
    · exact nope 61 (by rw [hx, g]) (by decide) (by decide) (by decide) (by decide) (by decide)
/-! where a reading stops -/
theorem pbd_inv {r : PR} {K : Nat → List Int32 → PR} {b : Nat} {ds : List Int32} (h : pbd r K = (b, some ds)) : ∃ b1 d1, r = (b1, some d1) ∧ K b1 d1 = (b, some ds) := by
  obtain ⟨b1, o⟩ := r
  cases o with
  | none => exact absurd (congrArg (fun q : PR => q.2) h) (fun e => by cases e)
  | some d1 => exact ⟨b1, d1, rfl, h⟩
theorem opc_zero (w : Nat) : opc w 0 = 0 := by
  unfold opc
  split
  · rfl
  · split
    · rfl
    · split <;> rfl
theorem lpz_stop {w : Nat} {f : Nat → PR} {Q : Int32 → Prop} (hQ : ∀ a b ds, a ≤ z → f a = (b, some ds) → Q (lxT B z b)) (hf : ∀ a, a ≤ z → pfacts z a (f a)) : ∀ (n a : Nat) (cs : List Int32) (b : Nat) (ds : List Int32), a ≤ z → z ≤ n + a → Q (lxT B z a) → lpz B z w f n a cs = (b, some ds) → Q (lxT B z b) ∧ opc w (lxT B z b) = 0 := by
  intro n
  induction n with
  | zero =>
    intro a cs b ds ha hz hq h
    have e0 : lxT B z a = 0 := if_pos (by have := lxS_le B ha; omega)
    cases h
    exact ⟨hq, by rw [e0]; exact opc_zero w⟩
  | succ n ih =>
    intro a cs b ds ha hz hq h
    rw [lpz] at h
    by_cases ho : opc w (lxT B z a) = 0
    · rw [if_pos ho] at h
      cases h
      exact ⟨hq, ho⟩
    · rw [if_neg ho] at h
      obtain ⟨b1, d1, e1, h1⟩ := pbd_inv h
      have hE := lxE_lt B ha (opc_tok ho)
      have hp := hf _ hE.2.1
      rw [e1] at hp
      have p1 : lxE B z a + 1 ≤ b1 := (hp.2 d1 rfl).1
      exact ih b1 _ b ds hp.1 (by omega) (hQ _ _ _ hE.2.1 e1) h1
theorem pzL_stop {w : Nat} {f : Nat → PR} {Q : Int32 → Prop} (hQ : ∀ a b ds, a ≤ z → f a = (b, some ds) → Q (lxT B z b)) (hf : ∀ a, a ≤ z → pfacts z a (f a)) (hz : z ≤ 160) {b : Nat} {ds : List Int32} (ha : a ≤ z) (h : pzL B z w f a = (b, some ds)) : Q (lxT B z b) ∧ opc w (lxT B z b) = 0 := by
  unfold pzL at h
  obtain ⟨b1, d1, e1, h1⟩ := pbd_inv h
  have hp := hf _ ha
  rw [e1] at hp
  exact lpz_stop hQ hf 200 b1 _ b ds hp.1 (by omega) (hQ _ _ _ ha e1) h1
theorem pz_stop (hz : z ≤ 160) : ∀ (d w v a b : Nat) (ds : List Int32), w ≤ 5 → a ≤ z → pz B z d w v a = (b, some ds) → ∀ w', w ≤ w' → w' ≤ 4 → opc w' (lxT B z b) = 0 := by
  intro d
  induction d with
  | zero => intro w v a b ds _ _ h; cases h
  | succ d ih =>
    intro w v a b ds hw ha h
    have fa := fun w v a (h : a ≤ z) => pz_facts (B := B) d w v a h
    rcases (show w = 0 ∨ w = 1 ∨ w = 2 ∨ w = 3 ∨ w = 4 ∨ w = 5 by omega) with rfl | rfl | rfl | rfl | rfl | rfl
    · have h : pzL B z 0 (fun a => pz B z d 1 v a) a = (b, some ds) := h
      obtain ⟨q1, q2⟩ := pzL_stop (Q := fun x => ∀ w', 1 ≤ w' → w' ≤ 4 → opc w' x = 0) (fun a b ds h1 h2 => ih 1 v a b ds (by omega) h1 h2) (fa 1 v) hz ha h
      intro w' h1 h2
      by_cases e : w' = 0
      · rw [e]; exact q2
      · exact q1 w' (by omega) h2
    · have h : pzL B z 1 (fun a => pz B z d 2 v a) a = (b, some ds) := h
      obtain ⟨q1, q2⟩ := pzL_stop (Q := fun x => ∀ w', 2 ≤ w' → w' ≤ 4 → opc w' x = 0) (fun a b ds h1 h2 => ih 2 v a b ds (by omega) h1 h2) (fa 2 v) hz ha h
      intro w' h1 h2
      by_cases e : w' = 1
      · rw [e]; exact q2
      · exact q1 w' (by omega) h2
    · have h : pzN B z (pz B z d) v a = (b, some ds) := h
      have two : ∀ x, opc 4 x = 0 → opc 3 x = 0 → ∀ w', 2 ≤ w' → w' ≤ 4 → opc w' x = 0 := by
        intro x h4 h3 w' h1 h2
        rcases (show w' = 2 ∨ w' = 3 ∨ w' = 4 by omega) with rfl | rfl | rfl
        · exact h4
        · exact h3
        · exact h4
      unfold pzN at h
      by_cases ht : lxT B z a = 1005
      · rw [if_pos ht] at h
        have hE := lxE_lt B ha (by rw [ht]; decide)
        by_cases h5 : v < 5
        · rw [if_pos h5] at h
          obtain ⟨b1, d1, e1, h1⟩ := pbd_inv h
          cases h1
          exact ih 2 (v + 1) _ _ _ (by omega) hE.2.1 e1
        · rw [if_neg h5] at h
          cases h
      · rw [if_neg ht] at h
        obtain ⟨b1, d1, e1, h1⟩ := pbd_inv h
        have hp := fa 3 v a ha
        rw [e1] at hp
        have hb : b1 ≤ z := hp.1
        by_cases hc : lxT B z b1 = 60 ∨ lxT B z b1 = 61
        · rw [if_pos hc] at h1
          have hE := lxE_lt B hb (by rcases hc with e | e <;> (rw [e]; decide))
          obtain ⟨b2, d2, e2, h2⟩ := pbd_inv h1
          cases h2
          have := ih 3 v _ _ _ (by omega) hE.2.1 e2
          exact two _ (this 4 (by omega) (by omega)) (this 3 (by omega) (by omega))
        · rw [if_neg hc] at h1
          cases h1
          have := ih 3 v _ _ _ (by omega) ha e1
          exact two _ (this 4 (by omega) (by omega)) (this 3 (by omega) (by omega))
    · have h : pzL B z 3 (fun a => pz B z d 4 v a) a = (b, some ds) := h
      obtain ⟨q1, q2⟩ := pzL_stop (Q := fun x => ∀ w', 4 ≤ w' → w' ≤ 4 → opc w' x = 0) (fun a b ds h1 h2 => ih 4 v a b ds (by omega) h1 h2) (fa 4 v) hz ha h
      intro w' h1 h2
      by_cases e : w' = 3
      · rw [e]; exact q2
      · exact q1 w' (by omega) h2
    · have h : pzL B z 4 (fun a => pz B z d 5 v a) a = (b, some ds) := h
      obtain ⟨q1, q2⟩ := pzL_stop (Q := fun x => True) (fun a b ds h1 h2 => trivial) (fa 5 v) hz ha h
      intro w' h1 h2
      rw [show w' = 4 by omega]
      exact q2
    · intro w' h1 h2
      omega
/-- how the reference comes out of a reading that the grammar says p of -/
def ResM (B : Nat → Int32) (z t w : Nat) (H E : List Int32) (a q : Nat) (m : ST) (r : Option (Int32 × ST)) (p : PR) : Prop := (p.2 = none → ∃ m', r = some (0, m') ∧ gs 50 19 m' = nI (lxS B z p.1) ∧ FM t m m') ∧ ∀ ds, p.2 = some ds → ∃ (m' : ST) (q' : Nat) (mn' : Int32) (pend E' : List Int32), r = f_X5_eRead_L14 q' 0 mn' m' ∧ q + a ≤ q' + p.1 ∧ MR m' B z t p.1 (pend ++ H) E' ∧ E' ++ pend = E ++ ds.map cv ∧ (∀ x, x ∈ pend → prW w ≤ rk x) ∧ (w ≤ 2 → lxT B z p.1 = 60 ∨ lxT B z p.1 = 61 → top4 pend) ∧ FM t m m'
def RdM (B : Nat → Int32) (z t w v : Nat) (f : Nat → PR) : Prop := ∀ (a : Nat) (m : ST) (H E : List Int32) (q : Nat) (mn : Int32), MR m B z t a H E → nop H = v → topLt H (bdW w) → (mn = 0 ∨ mn = 1) → (lxT B z a = 1005 → (w ≤ 2 → mn = 1) ∧ (3 ≤ w → mn = 0)) → z + 2 ≤ q + a → ResM B z t w H E a q m (f_X5_eRead_L14 q 1 mn m) (f a)
def RdM5 (B : Nat → Int32) (z t v : Nat) (f : Nat → PR) : Prop := ∀ (a : Nat) (m : ST) (H : List Int32) (k : Nat) (E : List Int32) (q : Nat) (mn : Int32), MR m B z t a (List.replicate k 19 ++ H) E → k + nop H = v → topLt H 7 → (mn = 0 ∨ mn = 1) → (lxT B z a = 1005 → mn = 0) → z + 2 ≤ q + a → ((f a).2 = none → ∃ m', f_X5_eRead_L14 q 1 mn m = some (0, m') ∧ gs 50 19 m' = nI (lxS B z (f a).1) ∧ FM t m m') ∧ ∀ ds, (f a).2 = some ds → ∃ (m' : ST) (q' : Nat) (mn' : Int32), f_X5_eRead_L14 q 1 mn m = f_X5_eRead_L14 q' 0 mn' m' ∧ q + a ≤ q' + (f a).1 ∧ MR m' B z t (f a).1 H (E ++ ds.map cv ++ List.replicate k 19) ∧ FM t m m'
theorem RdM5.toM {v : Nat} {f : Nat → PR} (h : RdM5 B z t v f) : RdM B z t 5 v f := by
  intro a m H E q mn hM hn hT hm hN hq
  obtain ⟨h1, h2⟩ := h a m H 0 E q mn hM (by rw [Nat.zero_add]; exact hn) hT hm (fun e => (hN e).2 (by omega)) hq
  refine ⟨h1, fun ds e => ?_⟩
  obtain ⟨m', q', mn', g1, g2, g3, g4⟩ := h2 ds e
  rw [List.replicate_zero, List.append_nil] at g3
  exact ⟨m', q', mn', [], E ++ ds.map cv, g1, g2, g3, List.append_nil _, (fun x hx => by cases hx), fun g => by omega, g4⟩
theorem m_loopR {w w' v : Nat} {f : Nat → PR} (hw : (w = 0 ∧ w' = 1) ∨ (w = 1 ∧ w' = 2) ∨ (w = 3 ∧ w' = 4) ∨ (w = 4 ∧ w' = 5)) (hrd : RdM B z t w' v f) (hf : ∀ a, a ≤ z → pfacts z a (f a)) : ∀ (n a : Nat) (m : ST) (H E0 ds pend E : List Int32) (q : Nat) (mn : Int32), z ≤ n + a → MR m B z t a (pend ++ H) E → E ++ pend = E0 ++ ds.map cv → nop H = v → topLt H (bdW w) → (∀ x, x ∈ pend → prW w ≤ rk x) → (w ≤ 2 → lxT B z a = 60 ∨ lxT B z a = 61 → top4 pend) → z + 2 ≤ q + a → ResM B z t w H E0 a q m (f_X5_eRead_L14 q 0 mn m) (lpz B z w f n a ds) := by
  have hF : prW w < bdW w' ∧ prW w ≤ prW w' ∧ (w' ≤ 2 → w ≤ 1) ∧ (3 ≤ w' → ¬ w ≤ 1) ∧ (w ≤ 2 → w' ≤ 2) ∧ (w = 0 ∨ w = 1 ∨ w = 3 ∨ w = 4) := by
    rcases hw with ⟨rfl, rfl⟩ | ⟨rfl, rfl⟩ | ⟨rfl, rfl⟩ | ⟨rfl, rfl⟩ <;> decide
  intro n
  induction n with
  | zero =>
    intro a m H E0 ds pend E q mn hz hM hE hn hT hp h4 hq
    exact ⟨(fun e => by cases e), fun es e => by cases e; exact ⟨m, q, mn, pend, E, rfl, Nat.le_refl _, hM, hE, hp, h4, FM.refl m⟩⟩
  | succ n ih =>
    intro a m H E0 ds pend E q mn hz hM hE hn hT hp h4 hq
    rw [lpz]
    by_cases ho : opc w (lxT B z a) = 0
    · rw [if_pos ho]
      exact ⟨(fun e => by cases e), fun es e => by cases e; exact ⟨m, q, mn, pend, E, rfl, Nat.le_refl _, hM, hE, hp, h4, FM.refl m⟩⟩
    · rw [if_neg ho]
      have ha := hM.2.2.2.2.2
      have hL := lxE_lt B ha (opc_tok ho)
      have hz2 := hM.z160
      obtain ⟨q, rfl⟩ : ∃ y, q = y + 1 := ⟨q - 1, (by omega)⟩
      obtain ⟨m1, e1, M1, op1, rk1, F1⟩ := m_op (q := q) (mn := mn) hF.2.2.2.2.2 ho hM hT hp hz2
      rw [e1]
      obtain ⟨r1, r2⟩ := hrd (lxE B z a) m1 (cv (opc w (lxT B z a)) :: H) (E ++ pend) q (if w ≤ 1 then 1 else 0) M1 (by rw [nop, op1, Nat.zero_add]; exact hn) (show rk _ < bdW w' by rw [rk1]; exact hF.1) (by split; exact Or.inr rfl; exact Or.inl rfl) (fun _ => ⟨fun g => if_pos (hF.2.2.1 g), fun g => if_neg (hF.2.2.2.1 g)⟩) (by omega)
      have hpf := hf _ hL.2.1
      generalize f (lxE B z a) = p at r1 r2 hpf ⊢
      obtain ⟨b, o⟩ := p
      cases o with
      | none =>
        obtain ⟨m', g1, g2, g3⟩ := r1 rfl
        rw [pbd_none]
        exact ⟨fun _ => ⟨m', g1, g2, F1.trans g3⟩, fun es e => by cases e⟩
      | some es =>
        obtain ⟨m2, q2, mn2, pend2, E2, g1, g2, g3, g4, g5, g6, g7⟩ := r2 es rfl
        have p1 : lxE B z a + 1 ≤ b := (hpf.2 es rfl).1
        have g2 : q + lxE B z a ≤ q2 + b := g2
        rw [pbd_some, g1]
        have eS : pend2 ++ cv (opc w (lxT B z a)) :: H = pend2 ++ [cv (opc w (lxT B z a))] ++ H := by
          rw [List.append_assoc]; rfl
        rw [eS] at g3
        obtain ⟨i1, i2⟩ := ih b m2 H E0 (ds ++ es ++ [opc w (lxT B z a)]) (pend2 ++ [cv (opc w (lxT B z a))]) E2 q2 mn2 (by omega) g3 (by
          rw [← List.append_assoc, g4, hE, List.map_append, List.map_append]
          simp only [List.append_assoc]
          rfl) hn hT (fun x hx => by
            rcases List.mem_append.mp hx with g | g
            · exact Nat.le_trans hF.2.1 (g5 x g)
            · rw [List.mem_singleton.mp g, rk1]; exact Nat.le_refl _) (fun h2 hc => top4_app (g6 (hF.2.2.2.2.1 h2) hc) _) (by omega)
        refine ⟨fun e => ?_, fun es' e => ?_⟩
        · obtain ⟨m', j1, j2, j3⟩ := i1 e
          exact ⟨m', j1, j2, (F1.trans g7).trans j3⟩
        · obtain ⟨m', q', mn', pend', E', j1, j2, j3, j4, j5, j6, j7⟩ := i2 es' e
          exact ⟨m', q', mn', pend', E', j1, (by omega), j3, j4, j5, j6, (F1.trans g7).trans j7⟩
theorem m_lvlR {w w' v : Nat} {f : Nat → PR} (hw : (w = 0 ∧ w' = 1) ∨ (w = 1 ∧ w' = 2) ∨ (w = 3 ∧ w' = 4) ∨ (w = 4 ∧ w' = 5)) (hrd : RdM B z t w' v f) (hf : ∀ a, a ≤ z → pfacts z a (f a)) : RdM B z t w v (pzL B z w f) := by
  have hF : bdW w ≤ bdW w' ∧ prW w ≤ prW w' ∧ (w' ≤ 2 → w ≤ 2) ∧ (3 ≤ w' → 3 ≤ w) ∧ (w ≤ 2 → w' ≤ 2) := by
    rcases hw with ⟨rfl, rfl⟩ | ⟨rfl, rfl⟩ | ⟨rfl, rfl⟩ | ⟨rfl, rfl⟩ <;> decide
  intro a m H E q mn hM hn hT hm hN hq
  have ha := hM.2.2.2.2.2
  have hz2 := hM.z160
  obtain ⟨r1, r2⟩ := hrd a m H E q mn hM hn (topLt_le hT hF.1) hm (fun e => ⟨fun g => (hN e).1 (hF.2.2.1 g), fun g => (hN e).2 (hF.2.2.2.1 g)⟩) hq
  have hpf := hf a ha
  unfold pzL
  generalize f a = p at r1 r2 hpf ⊢
  obtain ⟨b, o⟩ := p
  cases o with
  | none =>
    rw [pbd_none]
    exact ⟨r1, fun es e => by cases e⟩
  | some es =>
    obtain ⟨m2, q2, mn2, pend2, E2, g1, g2, g3, g4, g5, g6, g7⟩ := r2 es rfl
    have g2 : q + a ≤ q2 + b := g2
    have hb : b ≤ z := hpf.1
    rw [pbd_some, g1]
    obtain ⟨i1, i2⟩ := m_loopR hw hrd hf 200 b m2 H E es pend2 E2 q2 mn2 (by omega) g3 g4 hn hT (fun x hx => Nat.le_trans hF.2.1 (g5 x hx)) (fun h2 hc => g6 (hF.2.2.2.2 h2) hc) (by omega)
    refine ⟨fun e => ?_, fun es' e => ?_⟩
    · obtain ⟨m', j1, j2, j3⟩ := i1 e
      exact ⟨m', j1, j2, g7.trans j3⟩
    · obtain ⟨m', q', mn', pend', E', j1, j2, j3, j4, j5, j6, j7⟩ := i2 es' e
      exact ⟨m', q', mn', pend', E', j1, (by omega), j3, j4, j5, j6, g7.trans j7⟩
end PMRead
