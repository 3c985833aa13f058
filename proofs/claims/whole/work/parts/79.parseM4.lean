section PMRd
variable {m : ST} {B : Nat → Int32} {z a t : Nat}
theorem m_notR {v : Nat} {g : Nat → Nat → Nat → PR} (hv : v ≤ 5) (h2 : v < 5 → RdM B z t 2 (v + 1) (g 2 (v + 1))) (h3 : RdM B z t 3 v (g 3 v)) (hf : ∀ w v a, a ≤ z → pfacts z a (g w v a)) : RdM B z t 2 v (pzN B z g v) := by
  intro a m H E q mn hM hn hT hm hN hq
  have ha := hM.2.2.2.2.2
  have hz2 := hM.z160
  unfold pzN
  by_cases ht : lxT B z a = 1005
  · rw [if_pos ht]
    have hL := lxE_lt B ha (by rw [ht]; decide)
    obtain ⟨q, rfl⟩ : ∃ y, q = y + 1 := ⟨q - 1, (by omega)⟩
    have hmn : mn = 1 := (hN ht).1 (by omega)
    subst hmn
    by_cases h5 : v < 5
    · rw [if_pos h5]
      obtain ⟨m1, e1, M1, F1⟩ := m_pushN (q := q) ht (by rw [hn]; exact h5) hM
      rw [e1]
      obtain ⟨r1, r2⟩ := h2 h5 (lxE B z a) m1 (13 :: H) E q 1 M1 (by rw [nop, hn]; exact Nat.add_comm _ _) (show rk 13 < 4 by decide) (Or.inr rfl) (fun _ => ⟨fun _ => rfl, fun y => by omega⟩) (by omega)
      have hpf := hf 2 (v + 1) _ hL.2.1
      generalize g 2 (v + 1) (lxE B z a) = p at r1 r2 hpf ⊢
      obtain ⟨b, o⟩ := p
      cases o with
      | none =>
        obtain ⟨m', g1, g2, g3⟩ := r1 rfl
        rw [pbd_none]
        exact ⟨fun _ => ⟨m', g1, g2, F1.trans g3⟩, fun es e => by cases e⟩
      | some es =>
        obtain ⟨m2, q2, mn2, pend2, E2, g1, g2, g3, g4, g5, g6, g7⟩ := r2 es rfl
        have g2 : q + lxE B z a ≤ q2 + b := g2
        have eS : pend2 ++ 13 :: H = pend2 ++ [13] ++ H := by
          rw [List.append_assoc]; rfl
        rw [eS] at g3
        rw [pbd_some, g1]
        refine ⟨(fun e => by cases e), fun es' e => ?_⟩
        cases e
        refine ⟨m2, q2, mn2, pend2 ++ [13], E2, rfl, show q + 1 + a ≤ q2 + b by omega, g3, ?_, fun x hx => ?_, fun h2 hc => top4_app (g6 h2 hc) _, F1.trans g7⟩
        · rw [← List.append_assoc, g4, List.map_append, List.append_assoc]
          rfl
        · rcases List.mem_append.mp hx with y | y
          · exact g5 x y
          · rw [List.mem_singleton.mp y]; decide
    · rw [if_neg h5]
      obtain ⟨m', e1, k1, F1⟩ := m_bad (q := q) (mn := 1) (by rw [ht]; decide) (by rw [ht]; decide) (fun e => by rw [ht] at e; exact absurd e (by decide)) (fun e => by rw [ht] at e; exact absurd e (by decide)) (fun _ => Or.inr (by omega)) hM
      exact ⟨fun _ => ⟨m', e1, k1, F1⟩, fun es e => by cases e⟩
  · rw [if_neg ht]
    obtain ⟨r1, r2⟩ := h3 a m H E q mn hM hn (topLt_le hT (by decide)) hm (fun e => absurd e ht) hq
    have hpf := hf 3 v a ha
    generalize g 3 v a = p at r1 r2 hpf ⊢
    obtain ⟨b, o⟩ := p
    cases o with
    | none =>
      rw [pbd_none]
      exact ⟨r1, fun es e => by cases e⟩
    | some ds =>
      obtain ⟨m1, q1, mn1, pend1, E1, g1, g2, g3, g4, g5, -, g7⟩ := r2 ds rfl
      have g2 : q + a ≤ q1 + b := g2
      have hb : b ≤ z := hpf.1
      have pb : a + 1 ≤ b := (hpf.2 ds rfl).1
      rw [pbd_some]
      by_cases hc : lxT B z b = 60 ∨ lxT B z b = 61
      · rw [if_pos hc, g1]
        have hL := lxE_lt B hb (by rcases hc with e | e <;> (rw [e]; decide))
        obtain ⟨q1, rfl⟩ : ∃ y, q1 = y + 1 := ⟨q1 - 1, (by omega)⟩
        obtain ⟨m2, e2, M2, op2, rk2, F2⟩ := m_cmp (q := q1) (mn := mn1) hc g3 hT g5 hz2
        rw [e2]
        generalize hs : (if lxT B z b = 60 then (-11 : Int32) else -12) = s at M2 op2 rk2 ⊢
        obtain ⟨r3, r4⟩ := h3 (lxE B z b) m2 (cv s :: H) (E1 ++ pend1) q1 0 M2 (by rw [nop, op2, Nat.zero_add]; exact hn) (show rk (cv s) < 5 by omega) (Or.inl rfl) (fun _ => ⟨fun y => by omega, fun _ => rfl⟩) (by omega)
        have hpf2 := hf 3 v _ hL.2.1
        generalize g 3 v (lxE B z b) = p at r3 r4 hpf2 ⊢
        obtain ⟨b2, o2⟩ := p
        cases o2 with
        | none =>
          obtain ⟨m', k1, k2, k3⟩ := r3 rfl
          rw [pbd_none]
          exact ⟨fun _ => ⟨m', k1, k2, (g7.trans F2).trans k3⟩, fun es e => by cases e⟩
        | some es =>
          obtain ⟨m3, q3, mn3, pend3, E3, k1, k2, k3, k4, k5, -, k7⟩ := r4 es rfl
          have k2 : q1 + lxE B z b ≤ q3 + b2 := k2
          have eS : pend3 ++ cv s :: H = pend3 ++ [cv s] ++ H := by
            rw [List.append_assoc]; rfl
          rw [eS] at k3
          rw [pbd_some, k1]
          refine ⟨(fun e => by cases e), fun es' e => ?_⟩
          cases e
          refine ⟨m3, q3, mn3, pend3 ++ [cv s], E3, rfl, show q + a ≤ q3 + b2 by omega, k3, ?_, fun x hx => ?_, fun _ _ => ⟨pend3, cv s, [], rfl, rk2, k5⟩, (g7.trans F2).trans k7⟩
          · rw [← List.append_assoc, k4, g4, List.map_append, List.map_append]
            simp only [List.append_assoc]
            rfl
          · rcases List.mem_append.mp hx with y | y
            · exact Nat.le_trans (show 3 ≤ prW 3 by decide) (k5 x y)
            · rw [List.mem_singleton.mp y, rk2]; decide
      · rw [if_neg hc]
        refine ⟨(fun e => by cases e), fun es' e => ?_⟩
        cases e
        exact ⟨m1, q1, mn1, pend1, E1, g1, g2, g3, g4, fun x hx => Nat.le_trans (show 3 ≤ prW 3 by decide) (g5 x hx), fun _ y => absurd y hc, g7⟩
theorem m_oneR {v : Nat} {d : Nat} (hv : v ≤ 5) (h2 : v < 5 → RdM B z t 0 (v + 1) (pz B z d 0 (v + 1))) (h3 : v < 5 → RdM5 B z t (v + 1) (pz B z d 5 (v + 1))) : RdM5 B z t v (pzO B z (pz B z d) v) := by
  intro a m H k E q mn hM hn hT hm hN hq
  have ha := hM.2.2.2.2.2
  have hz2 := hM.z160
  have hnk : nop (List.replicate k 19 ++ H) = v := by
    rw [nop_app, ← hn]
    congr 1
    have : ∀ k, nop (List.replicate k (19 : Int32)) = k := by
      intro k
      induction k with
      | zero => rfl
      | succ k ih => rw [List.replicate_succ, nop, ih]; exact Nat.add_comm 1 k
    exact this k
  obtain ⟨q, rfl⟩ : ∃ y, q = y + 1 := ⟨q - 1, (by omega)⟩
  unfold pzO
  have leaf : (lxT B z a = 1 ∨ ∃ j, j < 6 ∧ lxT B z a = nI (1006 + j)) → ∀ x, x = (if lxT B z a = 1 then lxV B z a else -1 - (lxT B z a - 1006)) → (((lxE B z a, some [x]) : PR).2 = none → ∃ m', f_X5_eRead_L14 (q + 1) 1 mn m = some (0, m') ∧ gs 50 19 m' = nI (lxS B z ((lxE B z a, some [x]) : PR).1) ∧ FM t m m') ∧ ∀ ds, ((lxE B z a, some [x]) : PR).2 = some ds → ∃ (m' : ST) (q' : Nat) (mn' : Int32), f_X5_eRead_L14 (q + 1) 1 mn m = f_X5_eRead_L14 q' 0 mn' m' ∧ q + 1 + a ≤ q' + ((lxE B z a, some [x]) : PR).1 ∧ MR m' B z t ((lxE B z a, some [x]) : PR).1 H (E ++ ds.map cv ++ List.replicate k 19) ∧ FM t m m' := by
    intro ht x hx
    have hn0 : lxT B z a ≠ 0 := by
      rcases ht with e | ⟨j, hj, e⟩
      · rw [e]; decide
      · rw [e]; intro y; have := (nI_eq (a := 1006 + j) (b := 0) (by omega) (by omega)).mp y; omega
    have hL := lxE_lt B ha hn0
    obtain ⟨m', e1, M1, F1⟩ := m_leaf (q := q) (mn := mn) ht hM hT
    refine ⟨(fun e => by cases e), fun ds e => ?_⟩
    cases e
    rw [← hx] at M1
    exact ⟨m', q, mn, e1, show q + 1 + a ≤ q + lxE B z a by omega, M1, F1⟩
  have bad : lxT B z a ≠ 1 → ¬ 1006 ≤ lxT B z a → (lxT B z a = 40 → v = 5) → (lxT B z a = 45 → v = 5) → ((((a, none) : PR).2 = none → ∃ m', f_X5_eRead_L14 (q + 1) 1 mn m = some (0, m') ∧ gs 50 19 m' = nI (lxS B z ((a, none) : PR).1) ∧ FM t m m') ∧ ∀ ds, ((a, none) : PR).2 = some ds → ∃ (m' : ST) (q' : Nat) (mn' : Int32), f_X5_eRead_L14 (q + 1) 1 mn m = f_X5_eRead_L14 q' 0 mn' m' ∧ q + 1 + a ≤ q' + ((a, none) : PR).1 ∧ MR m' B z t ((a, none) : PR).1 H (E ++ ds.map cv ++ List.replicate k 19) ∧ FM t m m') := by
    intro a1 a2 a3 a4
    obtain ⟨m', e1, k1, F1⟩ := m_bad (q := q) (mn := mn) a1 a2 (fun e => hnk.trans (a3 e)) (fun e => hnk.trans (a4 e)) (fun e => Or.inl (hN e)) hM
    exact ⟨fun _ => ⟨m', e1, k1, F1⟩, fun es e => by cases e⟩
  by_cases h1 : lxT B z a = 1
  · rw [if_pos h1]
    exact leaf (Or.inl h1) _ (by rw [if_pos h1])
  · rw [if_neg h1]
    by_cases h6 : 1006 ≤ lxT B z a
    · rw [if_pos h6]
      have hx : ∃ j, j < 6 ∧ lxT B z a = nI (1006 + j) := by
        rcases lxT_cases B z a with e | e | e | ⟨i, hi, e⟩ | e
        · rw [e] at h6; exact absurd h6 (by decide)
        · rw [e] at h6; exact absurd h6 (by decide)
        · rw [e] at h6; exact absurd h6 (by decide)
        · rw [e] at h6
          have h7 : 1006 ≤ 1000 + i := (nI_leI (a := 1006) (b := 1000 + i) (by omega) (by omega)).mp h6
          exact ⟨i - 6, (by omega), by rw [e]; congr 1; omega⟩
        · rcases sg_tab e with y | y | y | y | y | y | y | y <;> (rw [y] at h6; exact absurd h6 (by decide))
      exact leaf (Or.inr hx) _ (by rw [if_neg h1])
    · rw [if_neg h6]
      by_cases h40 : lxT B z a = 40
      · rw [if_pos h40]
        by_cases h5 : v < 5
        · rw [if_pos h5]
          have hL := lxE_lt B ha (by rw [h40]; decide)
          obtain ⟨m1, e1, M1, F1⟩ := m_push40 (q := q) (mn := mn) h40 (by rw [hnk]; exact h5) hM
          rw [e1]
          obtain ⟨r1, r2⟩ := h2 h5 (lxE B z a) m1 (0 :: (List.replicate k 19 ++ H)) E q 1 M1 (by rw [nop, hnk]; exact Nat.add_comm _ _) (show rk 0 < 1 by decide) (Or.inr rfl) (fun _ => ⟨fun _ => rfl, fun y => by omega⟩) (by omega)
          have hpf := pz_facts (B := B) d 0 (v + 1) _ hL.2.1
          have hst := fun b ds h => pz_stop (B := B) hz2 d 0 (v + 1) (lxE B z a) b ds (by omega) hL.2.1 h
          generalize pz B z d 0 (v + 1) (lxE B z a) = p at r1 r2 hpf hst ⊢
          obtain ⟨b, o⟩ := p
          cases o with
          | none =>
            obtain ⟨m', g1, g2, g3⟩ := r1 rfl
            rw [pbd_none]
            exact ⟨fun _ => ⟨m', g1, g2, F1.trans g3⟩, fun es e => by cases e⟩
          | some ds =>
            obtain ⟨m2, q2, mn2, pend2, E2, g1, g2, g3, g4, g5, g6, g7⟩ := r2 ds rfl
            have g2 : q + lxE B z a ≤ q2 + b := g2
            have hb : b ≤ z := hpf.1
            obtain ⟨q2, rfl⟩ : ∃ y, q2 = y + 1 := ⟨q2 - 1, (by omega)⟩
            rw [pbd_some, g1]
            by_cases h41 : lxT B z b = 41
            · rw [if_pos h41]
              have hL2 := lxE_lt B hb (by rw [h41]; decide)
              obtain ⟨m3, e3, M3, F3⟩ := m_close (q := q2) (mn := mn2) h41 g3 hT g5 hz2
              rw [g4] at M3
              refine ⟨(fun e => by cases e), fun es e => ?_⟩
              cases e
              exact ⟨m3, q2, mn2, e3, show q + 1 + a ≤ q2 + lxE B z b by omega, M3, (F1.trans g7).trans F3⟩
            · rw [if_neg h41]
              have st := hst b ds rfl
              refine ⟨fun _ => ?_, fun es e => by cases e⟩
              by_cases h59 : lxT B z b = 59
              · obtain ⟨m3, e3, k3, -, -, -, F3⟩ := m_semi (q := q2) (mn := mn2) h59 g3 (show rk 0 < 1 by decide) g5 hz2
                rw [if_neg (fun y => by cases y)] at e3
                exact ⟨m3, e3, k3, (F1.trans g7).trans F3⟩
              · obtain ⟨m3, e3, k3, F3⟩ := m_stop (q := q2) (mn := mn2) (st 0 (by omega) (by omega)) (st 1 (by omega) (by omega)) (st 3 (by omega) (by omega)) (st 4 (by omega) (by omega)) h59 h41 (fun y => top4_app (g6 (by omega) y) _) g3 hz2
                exact ⟨m3, e3, k3, (F1.trans g7).trans F3⟩
        · rw [if_neg h5]
          exact bad h1 h6 (fun _ => by omega) (fun e => by rw [h40] at e; exact absurd e (by decide))
      · rw [if_neg h40]
        by_cases h45 : lxT B z a = 45
        · rw [if_pos h45]
          by_cases h5 : v < 5
          · rw [if_pos h5]
            have hL := lxE_lt B ha (by rw [h45]; decide)
            obtain ⟨m1, e1, M1, F1⟩ := m_push45 (q := q) (mn := mn) h45 (by rw [hnk]; exact h5) hM
            rw [e1]
            obtain ⟨r1, r2⟩ := h3 h5 (lxE B z a) m1 H (k + 1) E q 0 M1 (by omega) hT (Or.inl rfl) (fun _ => rfl) (by omega)
            generalize pz B z d 5 (v + 1) (lxE B z a) = p at r1 r2 ⊢
            obtain ⟨b, o⟩ := p
            cases o with
            | none =>
              obtain ⟨m', g1, g2, g3⟩ := r1 rfl
              rw [pbd_none]
              exact ⟨fun _ => ⟨m', g1, g2, F1.trans g3⟩, fun es e => by cases e⟩
            | some ds =>
              obtain ⟨m2, q2, mn2, g1, g2, g3, g4⟩ := r2 ds rfl
              have g2 : q + lxE B z a ≤ q2 + b := g2
              rw [pbd_some]
              refine ⟨(fun e => by cases e), fun es e => ?_⟩
              cases e
              have eS : E ++ ds.map cv ++ List.replicate (k + 1) 19 = E ++ (ds ++ [-7]).map cv ++ List.replicate k 19 := by
                rw [List.replicate_succ, List.map_append]
                simp only [List.append_assoc]
                rfl
              rw [eS] at g3
              exact ⟨m2, q2, mn2, g1, show q + 1 + a ≤ q2 + b by omega, g3, F1.trans g4⟩
          · rw [if_neg h5]
            exact bad h1 h6 (fun e => absurd e h40) (fun _ => by omega)
        · rw [if_neg h45]
          exact bad h1 h6 (fun e => absurd e h40) (fun e => absurd e h45)
theorem m_rd : ∀ (d w v : Nat), w ≤ 5 → v ≤ 5 → 6 * (5 - v) + (6 - w) ≤ d → (w ≤ 4 → RdM B z t w v (pz B z d w v)) ∧ (w = 5 → RdM5 B z t v (pz B z d 5 v)) := by
  intro d
  induction d with
  | zero => intro w v hw hv hd; omega
  | succ d ih =>
    intro w v hw hv hd
    have fa := fun w v a (h : a ≤ z) => pz_facts (B := B) d w v a h
    rcases (show w = 0 ∨ w = 1 ∨ w = 2 ∨ w = 3 ∨ w = 4 ∨ w = 5 by omega) with rfl | rfl | rfl | rfl | rfl | rfl
    · exact ⟨fun _ => m_lvlR (Or.inl ⟨rfl, rfl⟩) ((ih 1 v (by omega) hv (by omega)).1 (by omega)) (fa 1 v), fun e => by omega⟩
    · exact ⟨fun _ => m_lvlR (Or.inr (Or.inl ⟨rfl, rfl⟩)) ((ih 2 v (by omega) hv (by omega)).1 (by omega)) (fa 2 v), fun e => by omega⟩
    · exact ⟨fun _ => m_notR (g := pz B z d) hv (fun h5 => (ih 2 (v + 1) (by omega) (by omega) (by omega)).1 (by omega)) ((ih 3 v (by omega) hv (by omega)).1 (by omega)) fa, fun e => by omega⟩
    · exact ⟨fun _ => m_lvlR (Or.inr (Or.inr (Or.inl ⟨rfl, rfl⟩))) ((ih 4 v (by omega) hv (by omega)).1 (by omega)) (fa 4 v), fun e => by omega⟩
    · exact ⟨fun _ => m_lvlR (Or.inr (Or.inr (Or.inr ⟨rfl, rfl⟩))) ((ih 5 v (by omega) hv (by omega)).2 rfl).toM (fa 5 v), fun e => by omega⟩
    · exact ⟨fun e => by omega, fun _ => m_oneR hv (fun h5 => (ih 0 (v + 1) (by omega) (by omega) (by omega)).1 (by omega)) (fun h5 => (ih 5 (v + 1) (by omega) (by omega) (by omega)).2 rfl)⟩
/-! an E, up to its ; -/
def pzE (B : Nat → Int32) (z a : Nat) : PR := pbd (pz B z 60 0 0 a) (fun b ds => if lxT B z b = 59 then (lxE B z b, some ds) else (b, none))
theorem pzE_facts (ha : a ≤ z) : pfacts z a (pzE B z a) := by
  unfold pzE
  have hp := pz_facts (B := B) 60 0 0 a ha
  generalize pz B z 60 0 0 a = p at hp ⊢
  obtain ⟨b, o⟩ := p
  cases o with
  | none => exact ⟨hp.1, fun ds e => by cases e⟩
  | some ds =>
    obtain ⟨k1, k2, k3, k4⟩ := hp.2 ds rfl
    have k1 : a + 1 ≤ b := k1
    have k2 : a + ds.length ≤ b := k2
    have hb : b ≤ z := hp.1
    rw [pbd_some]
    by_cases h : lxT B z b = 59
    · rw [if_pos h]
      have hL := lxE_lt B hb (by rw [h]; decide)
      exact ⟨hL.2.1, fun es e => by cases e; exact ⟨show a + 1 ≤ lxE B z b by omega, show a + ds.length ≤ lxE B z b by omega, k3, k4⟩⟩
    · rw [if_neg h]
      exact ⟨hb, fun es e => by cases e⟩
theorem m_eRead {E : List Int32} (b0 : MB m B z) (g18 : gs 50 18 m = nI a) (o0 : MO m t E) (hl : E.length ≤ a) (ha : a ≤ z) : ((pzE B z a).2 = none → ∃ m', f_X5_eRead m = some (0, m') ∧ gs 50 19 m' = nI (lxS B z (pzE B z a).1) ∧ FM t m m') ∧ ∀ ds, (pzE B z a).2 = some ds → ∃ m', f_X5_eRead m = some (1, m') ∧ gs 50 18 m' = nI (pzE B z a).1 ∧ MO m' t (E ++ ds.map cv) ∧ FM t m m' := by
  have hz2 := b0.2.2.1
  unfold f_X5_eRead pzE
  rw [put_eq, put_eq]
  have f0 := (fr_ps (P := pSk) (o := 50) (k := 24) ⟨rfl, (by decide)⟩ 0 m).trans (fr_ps (P := pSk) (o := 50) (k := 25) ⟨rfl, (by decide)⟩ 0 _)
  have M0 : MR (ps 50 25 0 (ps 50 24 0 m)) B z t a [] E := ⟨FM.mb (t := t) b0 (FM.sk f0), by rw [f0.gs (by unfold pSk; decide)]; exact g18, ⟨by rw [gs_ps, if_neg (by decide), gs_ps, if_pos ⟨rfl, rfl⟩]; rfl, Nat.zero_le _, trivial, by rw [gs_ps, if_pos ⟨rfl, rfl⟩]; rfl, Nat.zero_le _⟩, o0.fr f0 pSk_o, hl, ha⟩
  have F0 : FM t m (ps 50 25 0 (ps 50 24 0 m)) := FM.sk f0
  generalize ps 50 25 0 (ps 50 24 0 m) = A at M0 F0 ⊢
  obtain ⟨r1, r2⟩ := (m_rd (B := B) (z := z) (t := t) 60 0 0 (by omega) (by omega) (by omega)).1 (by omega) a A [] E 1000 1 M0 rfl trivial (Or.inr rfl) (fun _ => ⟨fun _ => rfl, fun y => by omega⟩) (by omega)
  have hpf := pz_facts (B := B) 60 0 0 a ha
  have hst := fun b ds h => pz_stop (B := B) hz2 60 0 0 a b ds (by omega) ha h
  generalize pz B z 60 0 0 a = p at r1 r2 hpf hst ⊢
  obtain ⟨b, o⟩ := p
  cases o with
  | none =>
    obtain ⟨m', g1, g2, g3⟩ := r1 rfl
    rw [pbd_none]
    exact ⟨fun _ => ⟨m', g1, g2, F0.trans g3⟩, fun es e => by cases e⟩
  | some ds =>
    obtain ⟨m2, q2, mn2, pend2, E2, g1, g2, g3, g4, g5, g6, g7⟩ := r2 ds rfl
    have g2 : 1000 + a ≤ q2 + b := g2
    have hb : b ≤ z := hpf.1
    obtain ⟨q2, rfl⟩ : ∃ y, q2 = y + 1 := ⟨q2 - 1, (by omega)⟩
    rw [pbd_some, g1]
    by_cases h59 : lxT B z b = 59
    · rw [if_pos h59]
      obtain ⟨m3, e3, k3, k4, -, o3, F3⟩ := m_semi (q := q2) (mn := mn2) h59 g3 (H := []) trivial g5 hz2
      rw [if_pos rfl] at e3
      rw [g4] at o3
      exact ⟨(fun e => by cases e), fun es e => by cases e; exact ⟨m3, e3, k4, o3, (F0.trans g7).trans F3⟩⟩
    · rw [if_neg h59]
      refine ⟨fun _ => ?_, fun es e => by cases e⟩
      have st := hst b ds rfl
      rw [List.append_nil] at g3
      by_cases h41 : lxT B z b = 41
      · obtain ⟨m3, e3, k3, F3⟩ := m_close0 (q := q2) (mn := mn2) h41 g3 g5 hz2
        exact ⟨m3, e3, k3, (F0.trans g7).trans F3⟩
      · obtain ⟨m3, e3, k3, F3⟩ := m_stop (q := q2) (mn := mn2) (st 0 (by omega) (by omega)) (st 1 (by omega) (by omega)) (st 3 (by omega) (by omega)) (st 4 (by omega) (by omega)) h59 h41 (g6 (by omega)) g3 hz2
        exact ⟨m3, e3, k3, (F0.trans g7).trans F3⟩
end PMRd
