/-! the steps of the reference's reading -/
section PMSteps
variable {m : ST} {B : Nat → Int32} {z a t : Nat}
def sgO (x : Int32) : Int32 := if x = 4 then 11 else if x = 5 then 12 else if x = 60 then 14 else if x = 61 then 15 else if x = 43 then 16 else if x = 45 then 17 else if x = 42 then 18 else -1
theorem m_signOf {x s : Int32} (hx : gs 50 20 m = x) (hs : sgO x = s) : f_X5_signOf m = some (s, m) := by
  unfold f_X5_signOf f_X5_signOf_L97
  rw [hx, ← hs]
  unfold sgO
  repeat' split
  all_goals rfl
theorem pUw_19 : ¬ (fun o k => o = 50 ∧ (k = 7 ∨ k = 24 ∨ k = 25 ∨ k = 26)) 50 19 := by decide
theorem pUw_18 : ¬ (fun o k => o = 50 ∧ (k = 7 ∨ k = 24 ∨ k = 25 ∨ k = 26)) 50 18 := by decide
/-- a sign between two -/
theorem m_bt_hold {S E : List Int32} {s : Int32} (hs : opn s = 0) (hS : MS m S (nop S)) (hE : MO m t E) (hl : S.length < 170) : ∃ m', f_X5_between_L55 s m = some (1, m') ∧ MS m' (s :: S) (nop (s :: S)) ∧ MO m' t E ∧ FM t m m' ∧ gs 50 18 m' = gs 50 18 m := by
  unfold f_X5_between_L55
  obtain ⟨m', e, h1, f⟩ := m_holds hS hl s
  rw [e, bnd_some]
  have en : nop (s :: S) = nop S := by rw [nop, hs, Nat.zero_add]
  rw [en]
  exact ⟨m', rfl, h1, hE.fr f pSk_o, FM.sk f, f.gs (by unfold pSk; decide)⟩
theorem m_between {R H E : List Int32} {s : Int32} {k : Nat} (hk : (k = rk s ∧ rk s ≠ 4) ∨ (k = 5 ∧ rk s = 4)) (hk1 : 1 ≤ k) (hs : opn s = 0) (hH : topLt H k) (h4 : rk s = 4 → topLt H 4) (hR : ∀ x, x ∈ R → k ≤ rk x) (hS : MS m (R ++ H) (nop (R ++ H))) (hE : MO m t E) (hl : E.length + (R ++ H).length ≤ 165) : ∃ m', f_X5_between s m = some (1, m') ∧ MS m' (s :: H) (nop (s :: H)) ∧ MO m' t (E ++ R) ∧ FM t m m' ∧ gs 50 18 m' = gs 50 18 m := by
  have r7 := rk_le s
  rw [List.length_append] at hl
  have k7 : k ≤ 7 := by omega
  obtain ⟨m1, e1, hS1, hE1, F1, f1⟩ := m_unw hk1 k7 hH hR hS hE (by omega)
  have g18 := f1.gs pUw_18
  unfold f_X5_between
  rw [m_rank, bnd_some]
  have L : ∃ m', f_X5_between_L17 s (nI k) m = some (1, m') ∧ MS m' (s :: H) (nop (s :: H)) ∧ MO m' t (E ++ R) ∧ FM t m m' ∧ gs 50 18 m' = gs 50 18 m := by
    unfold f_X5_between_L17
    rw [e1, bnd_some, m_rank, bnd_some]
    obtain ⟨m', e2, q1, q2, q3, q4⟩ := m_bt_hold hs hS1 hE1 (by omega)
    by_cases hr : rk s = 4
    · rw [hr, if_pos (c := nI 4 = (4 : Int32)) rfl]
      cases H with
      | nil =>
        rw [hS1.1, if_pos (by decide), e2]
        exact ⟨m', rfl, q1, q2, F1.trans q3, q4.trans g18⟩
      | cons x H =>
        have hx : rk x < 4 := h4 hr
        rw [List.length_cons] at hl
        rw [hS1.1, List.length_cons, if_neg (nI_nle (by omega) (by omega)), nI_pred, ald_nI (by omega) (by omega), hS1.2.2.1.1, m_rank, bnd_some, if_neg (fun g => by have := (nI_eq (a := rk x) (b := 4) (by omega) (by omega)).mp g; omega), e2]
        exact ⟨m', rfl, q1, q2, F1.trans q3, q4.trans g18⟩
    · rw [if_neg (c := nI (rk s) = (4 : Int32)) (fun g => hr ((nI_eq (a := rk s) (b := 4) (by omega) (by omega)).mp g)), e2]
      exact ⟨m', rfl, q1, q2, F1.trans q3, q4.trans g18⟩
  rcases hk with ⟨rfl, h⟩ | ⟨rfl, h⟩
  · rw [if_neg (c := nI (rk s) = (4 : Int32)) (fun g => h ((nI_eq (a := rk s) (b := 4) (by omega) (by omega)).mp g)), m_rank, bnd_some]
    exact L
  · rw [h, if_pos (c := nI 4 = (4 : Int32)) rfl]
    exact L
theorem m_between_bad {p1 p2 E : List Int32} {x s : Int32} (hs : rk s = 4) (hx : rk x = 4) (hR : ∀ y, y ∈ p1 → 5 ≤ rk y) (hS : MS m (p1 ++ x :: p2) (nop (p1 ++ x :: p2))) (hE : MO m t E) (hl : E.length + (p1 ++ x :: p2).length ≤ 165) : ∃ m', f_X5_between s m = some (0, m') ∧ FM t m m' ∧ gs 50 19 m' = gs 50 19 m := by
  rw [List.length_append, List.length_cons] at hl
  obtain ⟨m1, e1, hS1, hE1, F1, f1⟩ := m_unw (k := 5) (by omega) (by omega) (H := x :: p2) (show rk x < 5 by omega) hR hS hE (by omega)
  unfold f_X5_between f_X5_between_L17
  rw [m_rank, bnd_some, hs, if_pos (c := nI 4 = (4 : Int32)) rfl, show (5 : Int32) = nI 5 from rfl, e1, bnd_some, m_rank, bnd_some, hs, if_pos (c := nI 4 = (4 : Int32)) rfl, hS1.1, List.length_cons, if_neg (nI_nle (by omega) (by omega)), nI_pred, ald_nI (by omega) (by omega), hS1.2.2.1.1, m_rank, bnd_some, hx, if_pos (c := nI 4 = (4 : Int32)) rfl]
  exact ⟨m1, rfl, F1, f1.gs pUw_19⟩
theorem tok_ne {x : Int32} {k : Nat} (hx : x = nI k) {j : Nat} (hj : j < 2147483648) (hk : k < 2147483648) (h : k ≠ j) : ¬ x = nI j := fun e => h ((nI_eq hk hj).mp (hx.symm.trans e))
/-- a sign of a level, read behind what it joins -/
theorem m_op {w : Nat} {H pend E : List Int32} {mn : Int32} {q : Nat} (hw : w = 0 ∨ w = 1 ∨ w = 3 ∨ w = 4) (ho : opc w (lxT B z a) ≠ 0) (h : MR m B z t a (pend ++ H) E) (hH : topLt H (bdW w)) (hp : ∀ x, x ∈ pend → prW w ≤ rk x) (hz : z ≤ 160) : ∃ m', f_X5_eRead_L14 (q + 1) 0 mn m = f_X5_eRead_L14 q 1 (if w ≤ 1 then 1 else 0) m' ∧ MR m' B z t (lxE B z a) (cv (opc w (lxT B z a)) :: H) (E ++ pend) ∧ opn (cv (opc w (lxT B z a))) = 0 ∧ rk (cv (opc w (lxT B z a))) = prW w ∧ FM t m m' := by
  have ht := opc_tok ho
  have hE := lxE_lt B h.2.2.2.2.2 ht
  obtain ⟨m1, e1, k1, b1, s1, o1, F1⟩ := h.next
  have hlen := h.2.2.2.2.1
  have h8 := h.2.2.2.2.2
  have key : ∀ (x s : Int32) (k : Nat), gs 50 20 m1 = x → ¬ x = 59 → ¬ x = 41 → sgO x = s → s = cv (opc w (lxT B z a)) → ¬ s = -1 → k = rk s → rk s ≠ 4 → 1 ≤ k → opn s = 0 → k = prW w → bdW w ≤ k → (12 < s ↔ ¬ w ≤ 1) → ∃ m', f_X5_eRead_L14 (q + 1) 0 mn m = f_X5_eRead_L14 q 1 (if w ≤ 1 then 1 else 0) m' ∧ MR m' B z t (lxE B z a) (cv (opc w (lxT B z a)) :: H) (E ++ pend) ∧ opn (cv (opc w (lxT B z a))) = 0 ∧ rk (cv (opc w (lxT B z a))) = prW w ∧ FM t m m' := by
    intro x s k hx n59 n41 hs hc n1 hk n4 hk1 hop hpr hbd h12
    rw [f_X5_eRead_L14, e1, bnd_some, if_pos rfl, hx, if_neg n59, if_neg n41, m_signOf hx hs, bnd_some, if_neg n1]
    obtain ⟨m2, e2, s2, o2, F2, g18⟩ := m_between (R := pend) (H := H) (s := s) (k := k) (Or.inl ⟨hk, n4⟩) hk1 hop (topLt_le hH hbd) (fun g => absurd g n4) (fun y hy => by rw [hpr]; exact hp y hy) s1 o1 (by omega)
    rw [e2, bnd_some, if_neg one_ne0]
    unfold f_X5_eRead_L262
    rw [← hc]
    refine ⟨m2, ?_, ⟨FM.mb b1 F2, g18.trans k1.1, s2, o2, ?_, hE.2.1⟩, hop, hk ▸ hpr, F1.trans F2⟩
    · by_cases g : w ≤ 1
      · rw [if_neg (fun y => (h12.mp y) g), if_pos g]
      · rw [if_pos (h12.mpr g), if_neg g]
    · rw [List.length_append] at hlen ⊢
      rw [List.length_cons]
      omega
  have n59 : ∀ x : Int32, x = 4 ∨ x = 5 ∨ x = 43 ∨ x = 45 ∨ x = 42 → ¬ x = 59 ∧ ¬ x = 41 := by
    rintro x (rfl | rfl | rfl | rfl | rfl) <;> decide
  rcases hw with rfl | rfl | rfl | rfl
  · rw [opc_0] at ho key ⊢
    by_cases g : lxT B z a = 1003
    · rw [if_pos g] at key ⊢
      have hx : gs 50 20 m1 = 4 := by rw [k1.2.2.1, g]; rfl
      exact key 4 11 1 hx (by decide) (by decide) rfl rfl (by decide) rfl (by decide) (by decide) rfl rfl (by decide) (by decide)
    · rw [if_neg g] at ho; exact absurd rfl ho
  · rw [opc_1] at ho key ⊢
    by_cases g : lxT B z a = 1004
    · rw [if_pos g] at key ⊢
      have hx : gs 50 20 m1 = 5 := by rw [k1.2.2.1, g]; rfl
      exact key 5 12 2 hx (by decide) (by decide) rfl rfl (by decide) rfl (by decide) (by decide) rfl rfl (by decide) (by decide)
    · rw [if_neg g] at ho; exact absurd rfl ho
  · rw [opc_3] at ho key ⊢
    by_cases g : lxT B z a = 43
    · rw [if_pos g] at key ⊢
      have hx : gs 50 20 m1 = 43 := by rw [k1.2.2.1, g]; rfl
      exact key 43 16 5 hx (by decide) (by decide) rfl rfl (by decide) rfl (by decide) (by decide) rfl rfl (by decide) (by decide)
    · rw [if_neg g] at ho key ⊢
      by_cases g2 : lxT B z a = 45
      · rw [if_pos g2] at key ⊢
        have hx : gs 50 20 m1 = 45 := by rw [k1.2.2.1, g2]; rfl
        exact key 45 17 5 hx (by decide) (by decide) rfl rfl (by decide) rfl (by decide) (by decide) rfl rfl (by decide) (by decide)
      · rw [if_neg g2] at ho; exact absurd rfl ho
  · rw [opc_4] at ho key ⊢
    by_cases g : lxT B z a = 42
    · rw [if_pos g] at key ⊢
      have hx : gs 50 20 m1 = 42 := by rw [k1.2.2.1, g]; rfl
      exact key 42 18 6 hx (by decide) (by decide) rfl rfl (by decide) rfl (by decide) (by decide) rfl rfl (by decide) (by decide)
    · rw [if_neg g] at ho; exact absurd rfl ho
/-- < and = -/
theorem m_cmp {H pend E : List Int32} {mn : Int32} {q : Nat} (ho : lxT B z a = 60 ∨ lxT B z a = 61) (h : MR m B z t a (pend ++ H) E) (hH : topLt H 4) (hp : ∀ x, x ∈ pend → 5 ≤ rk x) (hz : z ≤ 160) : ∃ m', f_X5_eRead_L14 (q + 1) 0 mn m = f_X5_eRead_L14 q 1 0 m' ∧ MR m' B z t (lxE B z a) (cv (if lxT B z a = 60 then -11 else -12) :: H) (E ++ pend) ∧ opn (cv (if lxT B z a = 60 then -11 else -12)) = 0 ∧ rk (cv (if lxT B z a = 60 then -11 else -12)) = 4 ∧ FM t m m' := by
  have ht : lxT B z a ≠ 0 := by rcases ho with e | e <;> (rw [e]; decide)
  have hE := lxE_lt B h.2.2.2.2.2 ht
  obtain ⟨m1, e1, k1, b1, s1, o1, F1⟩ := h.next
  have hlen := h.2.2.2.2.1
  have h8 := h.2.2.2.2.2
  have key : ∀ (x s : Int32), gs 50 20 m1 = x → ¬ x = 59 → ¬ x = 41 → sgO x = s → ¬ s = -1 → rk s = 4 → opn s = 0 → 12 < s → ∃ m', f_X5_eRead_L14 (q + 1) 0 mn m = f_X5_eRead_L14 q 1 0 m' ∧ MR m' B z t (lxE B z a) (s :: H) (E ++ pend) ∧ opn s = 0 ∧ rk s = 4 ∧ FM t m m' := by
    intro x s hx n59 n41 hs n1 h4 hop h12
    rw [f_X5_eRead_L14, e1, bnd_some, if_pos rfl, hx, if_neg n59, if_neg n41, m_signOf hx hs, bnd_some, if_neg n1]
    obtain ⟨m2, e2, s2, o2, F2, g18⟩ := m_between (R := pend) (H := H) (s := s) (k := 5) (Or.inr ⟨rfl, h4⟩) (by omega) hop (topLt_le hH (by omega)) (fun _ => hH) hp s1 o1 (by omega)
    rw [e2, bnd_some, if_neg one_ne0]
    unfold f_X5_eRead_L262
    rw [if_pos h12]
    refine ⟨m2, rfl, ⟨FM.mb b1 F2, g18.trans k1.1, s2, o2, ?_, hE.2.1⟩, hop, h4, F1.trans F2⟩
    rw [List.length_append] at hlen ⊢
    rw [List.length_cons]
    omega
  by_cases g : lxT B z a = 60
  · rw [if_pos g]
    have hx : gs 50 20 m1 = 60 := by rw [k1.2.2.1, g]; rfl
    exact key 60 14 hx (by decide) (by decide) rfl (by decide) rfl rfl (by decide)
  · rw [if_neg g]
    have hx : gs 50 20 m1 = 61 := by rw [k1.2.2.1, ho.resolve_left g]; rfl
    exact key 61 15 hx (by decide) (by decide) rfl (by decide) rfl rfl (by decide)
/-- a sign that can't stand -/
theorem m_stop {S E : List Int32} {mn : Int32} {q : Nat} (h0 : opc 0 (lxT B z a) = 0) (h1 : opc 1 (lxT B z a) = 0) (h3 : opc 3 (lxT B z a) = 0) (h4 : opc 4 (lxT B z a) = 0) (n59 : lxT B z a ≠ 59) (n41 : lxT B z a ≠ 41) (hc : lxT B z a = 60 ∨ lxT B z a = 61 → top4 S) (h : MR m B z t a S E) (hz : z ≤ 160) : ∃ m', f_X5_eRead_L14 (q + 1) 0 mn m = some (0, m') ∧ gs 50 19 m' = nI (lxS B z a) ∧ FM t m m' := by
  obtain ⟨m1, e1, k1, b1, s1, o1, F1⟩ := h.next
  have hlen := h.2.2.2.2.1
  have h8 := h.2.2.2.2.2
  rw [f_X5_eRead_L14, e1, bnd_some, if_pos rfl]
  unfold f_X5_eRead_L247
  have nope : ∀ x : Int32, gs 50 20 m1 = x → ¬ x = 59 → ¬ x = 41 → sgO x = -1 → ∃ m', (if gs 50 20 m1 = (59 : Int32) then f_X5_eRead_L159 m1 else (if gs 50 20 m1 = (41 : Int32) then bnd (f_X5_unwinds (1 : Int32) m1) (fun _ t188 => (if gs 50 24 t188 = 0 then retz (0 : Int32) t188 else put 50 24 ((gs 50 24 t188) - (1 : Int32)) t188 (fun t207 => put 50 25 ((gs 50 25 t207) - (1 : Int32)) t207 (fun t217 => bnd (f_X5_unwinds (7 : Int32) t217) (fun _ t223 => f_X5_eRead_L14 q 0 mn t223))))) else bnd (f_X5_signOf m1) (fun y230 t230 => (if y230 = (-1 : Int32) then retz (0 : Int32) t230 else bnd (f_X5_between y230 t230) (fun y241 t241 => (if y241 = 0 then retz (0 : Int32) t241 else (if (12 : Int32) < y230 then f_X5_eRead_L262 (fun v1 v2 σ => f_X5_eRead_L14 q v1 v2 σ) (1 : Int32) (0 : Int32) t241 else f_X5_eRead_L262 (fun v1 v2 σ => f_X5_eRead_L14 q v1 v2 σ) (1 : Int32) (1 : Int32) t241))))))) = some (0, m') ∧ gs 50 19 m' = nI (lxS B z a) ∧ FM t m m' := by
    intro x hx a1 a2 a3
    rw [hx, if_neg a1, if_neg a2, m_signOf hx a3, bnd_some, if_pos rfl]
    exact ⟨m1, rfl, k1.2.1, F1⟩
  have comp : ∀ (x s : Int32), gs 50 20 m1 = x → ¬ x = 59 → ¬ x = 41 → sgO x = s → ¬ s = -1 → rk s = 4 → top4 S → ∃ m', (if gs 50 20 m1 = (59 : Int32) then f_X5_eRead_L159 m1 else (if gs 50 20 m1 = (41 : Int32) then bnd (f_X5_unwinds (1 : Int32) m1) (fun _ t188 => (if gs 50 24 t188 = 0 then retz (0 : Int32) t188 else put 50 24 ((gs 50 24 t188) - (1 : Int32)) t188 (fun t207 => put 50 25 ((gs 50 25 t207) - (1 : Int32)) t207 (fun t217 => bnd (f_X5_unwinds (7 : Int32) t217) (fun _ t223 => f_X5_eRead_L14 q 0 mn t223))))) else bnd (f_X5_signOf m1) (fun y230 t230 => (if y230 = (-1 : Int32) then retz (0 : Int32) t230 else bnd (f_X5_between y230 t230) (fun y241 t241 => (if y241 = 0 then retz (0 : Int32) t241 else (if (12 : Int32) < y230 then f_X5_eRead_L262 (fun v1 v2 σ => f_X5_eRead_L14 q v1 v2 σ) (1 : Int32) (0 : Int32) t241 else f_X5_eRead_L262 (fun v1 v2 σ => f_X5_eRead_L14 q v1 v2 σ) (1 : Int32) (1 : Int32) t241))))))) = some (0, m') ∧ gs 50 19 m' = nI (lxS B z a) ∧ FM t m m' := by
    intro x s hx a1 a2 a3 a4 a5 a6
    obtain ⟨p1, y, p2, eS, hy, hp1⟩ := a6
    rw [eS] at s1 hlen
    obtain ⟨m2, e2, F2, g2⟩ := m_between_bad (s := s) a5 hy hp1 s1 o1 (by omega)
    rw [hx, if_neg a1, if_neg a2, m_signOf hx a3, bnd_some, if_neg a4, e2, bnd_some, if_pos rfl]
    exact ⟨m2, rfl, g2.trans k1.2.1, F1.trans F2⟩
  rcases lxT_cases B z a with e | e | e | ⟨i, hi, e⟩ | e
  · exact nope 0 (by rw [k1.2.2.1, e]; rfl) (by decide) (by decide) rfl
  · exact nope 1 (by rw [k1.2.2.1, e]; rfl) (by decide) (by decide) rfl
  · exact nope (-1) (by rw [k1.2.2.1, e]; rfl) (by decide) (by decide) rfl
  · rcases (show i < 3 ∨ i = 3 ∨ i = 4 ∨ i = 5 ∨ 6 ≤ i by omega) with g | rfl | rfl | rfl | g
    · exact nope 3 (by rw [k1.2.2.1, e, mT_key i g]) (by decide) (by decide) rfl
    · rw [e] at h0; exact absurd h0 (by decide)
    · rw [e] at h1; exact absurd h1 (by decide)
    · exact nope 6 (by rw [k1.2.2.1, e]; rfl) (by decide) (by decide) rfl
    · exact nope 2 (by rw [k1.2.2.1, e, show 1000 + i = 1006 + (i - 6) by omega, mT_name (i - 6) (by omega)]) (by decide) (by decide) rfl
  · have hx : gs 50 20 m1 = lxT B z a := by rw [k1.2.2.1, mT_sg e]
    rcases sg_tab e with g | g | g | g | g | g | g | g
    · exact nope 40 (by rw [hx, g]) (by decide) (by decide) rfl
    · exact absurd g n41
    · exact absurd g n59
    · rw [g] at h3; exact absurd h3 (by decide)
    · rw [g] at h3; exact absurd h3 (by decide)
    · rw [g] at h4; exact absurd h4 (by decide)
    · exact comp 60 14 (by rw [hx, g]) (by decide) (by decide) rfl (by decide) rfl (hc (Or.inl g))
    · exact comp 61 15 (by rw [hx, g]) (by decide) (by decide) rfl (by decide) rfl (hc (Or.inr g))
/-- the end of an E -/
theorem m_semi {R H E : List Int32} {mn : Int32} {q : Nat} (ht : lxT B z a = 59) (h : MR m B z t a (R ++ H) E) (hH : topLt H 1) (hR : ∀ x, x ∈ R → 1 ≤ rk x) (hz : z ≤ 160) : ∃ m', f_X5_eRead_L14 (q + 1) 0 mn m = some (if H = [] then 1 else 0, m') ∧ gs 50 19 m' = nI (lxS B z a) ∧ gs 50 18 m' = nI (lxE B z a) ∧ MS m' H (nop H) ∧ MO m' t (E ++ R) ∧ FM t m m' := by
  have hlen := h.2.2.2.2.1
  have h8 := h.2.2.2.2.2
  obtain ⟨m1, e1, k1, b1, s1, o1, F1⟩ := h.next
  rw [List.length_append] at hlen
  obtain ⟨m2, e2, s2, o2, F2, f2⟩ := m_unw (k := 1) (by omega) (by omega) hH hR s1 o1 (by omega)
  have hx : gs 50 20 m1 = 59 := by rw [k1.2.2.1, ht]; rfl
  rw [f_X5_eRead_L14, e1, bnd_some, if_pos rfl, hx, if_pos rfl]
  unfold f_X5_eRead_L159 f_X5_eRead_L176
  rw [show (1 : Int32) = nI 1 from rfl, e2, bnd_some, s2.1]
  refine ⟨m2, ?_, (f2.gs pUw_19).trans k1.2.1, (f2.gs pUw_18).trans k1.1, s2, o2, F1.trans F2⟩
  cases H with
  | nil => rfl
  | cons x H =>
    rw [List.length_cons] at hlen
    rw [List.length_cons, if_neg (fun g => by have := (nI_eq (a := H.length + 1) (b := 0) (by omega) (by omega)).mp g; omega), if_neg (fun g => by cases g)]
    rfl
/-- ) at the top -/
theorem m_close0 {R E : List Int32} {mn : Int32} {q : Nat} (ht : lxT B z a = 41) (h : MR m B z t a R E) (hR : ∀ x, x ∈ R → 1 ≤ rk x) (hz : z ≤ 160) : ∃ m', f_X5_eRead_L14 (q + 1) 0 mn m = some (0, m') ∧ gs 50 19 m' = nI (lxS B z a) ∧ FM t m m' := by
  have hlen := h.2.2.2.2.1
  have h8 := h.2.2.2.2.2
  obtain ⟨m1, e1, k1, b1, s1, o1, F1⟩ := h.next
  rw [← List.append_nil R] at s1
  obtain ⟨m2, e2, s2, o2, F2, f2⟩ := m_unw (k := 1) (by omega) (by omega) (H := []) trivial hR s1 o1 (by omega)
  have hx : gs 50 20 m1 = 41 := by rw [k1.2.2.1, ht]; rfl
  rw [f_X5_eRead_L14, e1, bnd_some, if_pos rfl, hx, if_neg (by decide), if_pos rfl, show (1 : Int32) = nI 1 from rfl, e2, bnd_some, s2.1, if_pos (c := nI ([] : List Int32).length = (0 : Int32)) rfl]
  exact ⟨m2, rfl, (f2.gs pUw_19).trans k1.2.1, F1.trans F2⟩
/-- ) behind its ( -/
theorem m_close {R H E : List Int32} {mn : Int32} {q k : Nat} (ht : lxT B z a = 41) (h : MR m B z t a (R ++ 0 :: (List.replicate k 19 ++ H)) E) (hH : topLt H 7) (hR : ∀ x, x ∈ R → 1 ≤ rk x) (hz : z ≤ 160) : ∃ m', f_X5_eRead_L14 (q + 1) 0 mn m = f_X5_eRead_L14 q 0 mn m' ∧ MR m' B z t (lxE B z a) H (E ++ R ++ List.replicate k 19) ∧ FM t m m' := by
  have hlen := h.2.2.2.2.1
  have h8 := h.2.2.2.2.2
  have hE := lxE_lt B h8 (by rw [ht]; decide)
  obtain ⟨m1, e1, k1, b1, s1, o1, F1⟩ := h.next
  rw [List.length_append, List.length_cons, List.length_append, List.length_replicate] at hlen
  obtain ⟨m2, e2, s2, o2, F2, f2⟩ := m_unw (k := 1) (by omega) (by omega) (H := 0 :: (List.replicate k 19 ++ H)) (show rk 0 < 1 by decide) hR s1 o1 (by omega)
  have hx : gs 50 20 m1 = 41 := by rw [k1.2.2.1, ht]; rfl
  have n0 : nop (0 :: (List.replicate k 19 ++ H)) = nop (List.replicate k 19 ++ H) + 1 := Nat.add_comm 1 _
  rw [f_X5_eRead_L14, e1, bnd_some, if_pos rfl, hx, if_neg (by decide), if_pos rfl, show (1 : Int32) = nI 1 from rfl, e2, bnd_some, s2.1, List.length_cons, if_neg (fun g => by have := (nI_eq (a := (List.replicate k (19 : Int32) ++ H).length + 1) (b := 0) (by rw [List.length_append, List.length_replicate]; omega) (by omega)).mp g; omega), put_eq, put_eq, gs_ps, if_neg (by decide), s2.2.2.2.1, n0]
  rw [show (nI ((List.replicate k (19 : Int32) ++ H).length + 1) - nI 1 : Int32) = nI (List.replicate k (19 : Int32) ++ H).length from nI_pred _, show (nI (nop (List.replicate k (19 : Int32) ++ H) + 1) - nI 1 : Int32) = nI (nop (List.replicate k (19 : Int32) ++ H)) from nI_pred _]
  have f3 := (fr_ps (P := pSk) (o := 50) (k := 24) ⟨rfl, (by decide)⟩ (nI (List.replicate k (19 : Int32) ++ H).length) m2).trans (fr_ps (P := pSk) (o := 50) (k := 25) ⟨rfl, (by decide)⟩ (nI (nop (List.replicate k (19 : Int32) ++ H))) _)
  have nl := nop_len (List.replicate k (19 : Int32) ++ H)
  have ll : (List.replicate k (19 : Int32) ++ H).length = k + H.length := by rw [List.length_append, List.length_replicate]
  have s3 : MS (ps 50 25 (nI (nop (List.replicate k (19 : Int32) ++ H))) (ps 50 24 (nI (List.replicate k (19 : Int32) ++ H).length) m2)) (List.replicate k 19 ++ H) (nop (List.replicate k 19 ++ H)) := ⟨by rw [gs_ps, if_neg (by decide), gs_ps, if_pos ⟨rfl, rfl⟩], (by omega), by rw [ga_ps, ga_ps]; exact s2.2.2.1.2, by rw [gs_ps, if_pos ⟨rfl, rfl⟩], (by omega)⟩
  obtain ⟨m4, e4, s4, o4, F4, f4⟩ := m_unw (k := 7) (by omega) (by omega) hH (fun x hx => by rw [List.eq_of_mem_replicate hx]; decide) s3 (o2.fr f3 pSk_o) (by rw [List.length_append, List.length_replicate]; omega)
  rw [show (7 : Int32) = nI 7 from rfl, e4, bnd_some]
  have FF := ((F1.trans F2).trans (FM.sk f3)).trans F4
  refine ⟨m4, rfl, ⟨FM.mb h.1 FF, ?_, s4, o4, ?_, hE.2.1⟩, FF⟩
  · rw [f4.gs pUw_18, f3.gs (by unfold pSk; decide), f2.gs pUw_18]; exact k1.1
  · rw [List.length_append, List.length_append, List.length_replicate]; omega
end PMSteps
