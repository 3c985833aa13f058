/-! THE GRAMMAR, without a machine: from where a token is read, to where the next one is read, and the codes; or the place of the fault -/
section PParse
abbrev PR : Type := Nat × Option (List Int32)
def pbd (r : PR) (K : Nat → List Int32 → PR) : PR := match r.2 with
  | none => (r.1, none)
  | some ds => K r.1 ds
def opc (w : Nat) (t : Int32) : Int32 := if w = 0 then (if t = 1003 then -9 else 0) else if w = 1 then (if t = 1004 then -10 else 0) else if w = 3 then (if t = 43 then -13 else if t = 45 then -14 else 0) else (if t = 42 then -15 else 0)
def lpz (B : Nat → Int32) (z w : Nat) (f : Nat → PR) : Nat → Nat → List Int32 → PR
  | 0, a, cs => (a, some cs)
  | n + 1, a, cs => if opc w (lxT B z a) = 0 then (a, some cs) else pbd (f (lxE B z a)) (fun b ds => lpz B z w f n b (cs ++ ds ++ [opc w (lxT B z a)]))
def pzL (B : Nat → Int32) (z w : Nat) (f : Nat → PR) (a : Nat) : PR := pbd (f a) (fun b ds => lpz B z w f 200 b ds)
def pzN (B : Nat → Int32) (z : Nat) (rd : Nat → Nat → Nat → PR) (v a : Nat) : PR := if lxT B z a = 1005 then (if v < 5 then pbd (rd 2 (v + 1) (lxE B z a)) (fun b ds => (b, some (ds ++ [-8]))) else (a, none)) else pbd (rd 3 v a) (fun b ds => if lxT B z b = 60 ∨ lxT B z b = 61 then pbd (rd 3 v (lxE B z b)) (fun b2 es => (b2, some (ds ++ es ++ [if lxT B z b = 60 then -11 else -12]))) else (b, some ds))
def pzO (B : Nat → Int32) (z : Nat) (rd : Nat → Nat → Nat → PR) (v a : Nat) : PR := if lxT B z a = 1 then (lxE B z a, some [lxV B z a]) else if 1006 ≤ lxT B z a then (lxE B z a, some [-1 - (lxT B z a - 1006)]) else if lxT B z a = 40 then (if v < 5 then pbd (rd 0 (v + 1) (lxE B z a)) (fun b ds => if lxT B z b = 41 then (lxE B z b, some ds) else (b, none)) else (a, none)) else if lxT B z a = 45 then (if v < 5 then pbd (rd 5 (v + 1) (lxE B z a)) (fun b ds => (b, some (ds ++ [-7]))) else (a, none)) else (a, none)
def pz (B : Nat → Int32) (z : Nat) : Nat → Nat → Nat → Nat → PR
  | 0, _, _, a => (a, none)
  | d + 1, w, v, a => if w = 0 then pzL B z 0 (fun a => pz B z d 1 v a) a else if w = 1 then pzL B z 1 (fun a => pz B z d 2 v a) a else if w = 2 then pzN B z (pz B z d) v a else if w = 3 then pzL B z 3 (fun a => pz B z d 4 v a) a else if w = 4 then pzL B z 4 (fun a => pz B z d 5 v a) a else pzO B z (pz B z d) v a
/-! the value of a row of codes -/
def jn (s x y : Int32) : Int32 := if s = -14 then x - y else if s = -13 then x + y else if s = -12 then (if x = y then 1 else 0) else if s = -11 then (if y ≤ x then 0 else 1) else if s = -10 then (if x = 0 then 0 else if y = 0 then 0 else 1) else if s = -9 then (if x = 0 then (if y = 0 then 0 else 1) else 1) else x * y
def ev1 (nm : Nat → Int32) (s : Int32) (st : List Int32) : Option (List Int32) := if 0 ≤ s then some (s :: st) else if -6 ≤ s then some (nm (-1 - s).toNatClampNeg :: st) else match st with
  | [] => none
  | y :: r => if s = -7 then some (-y :: r) else if s = -8 then some ((if y = 0 then 1 else 0) :: r) else match r with
    | [] => none
    | x :: r2 => some (jn s x y :: r2)
def evs (nm : Nat → Int32) : List Int32 → List Int32 → Option (List Int32)
  | [], st => some st
  | s :: ds, st => (ev1 nm s st).bind (fun st' => evs nm ds st')
theorem evs_app (nm : Nat → Int32) : ∀ (a b st : List Int32), evs nm (a ++ b) st = (evs nm a st).bind (fun st' => evs nm b st') := by
  intro a
  induction a with
  | nil => intro b st; rfl
  | cons s a ih =>
    intro b st
    rw [List.cons_append, evs, evs]
    cases h : ev1 nm s st with
    | none => rfl
    | some st' => exact ih b st'
/-- a row that has one value, whatever stands below -/
def one1 (ds : List Int32) : Prop := ∀ (nm : Nat → Int32) (st : List Int32), ∃ x, evs nm ds st = some (x :: st)
/-- codes that there are -/
def okc (s : Int32) : Prop := (∃ k, k < 10000 ∧ s = nI k) ∨ (∃ k, k < 6 ∧ s = -1 - nI k) ∨ s = -7 ∨ s = -8 ∨ s = -9 ∨ s = -10 ∨ s = -11 ∨ s = -12 ∨ s = -13 ∨ s = -14 ∨ s = -15
theorem ev1_num (nm : Nat → Int32) {k : Nat} (hk : k < 10000) (st : List Int32) : ev1 nm (nI k) st = some (nI k :: st) := if_pos (nI_pos' (by omega))
theorem nm_neg : ∀ k, k < 6 → ¬ (0 : Int32) ≤ -1 - nI k ∧ (-6 : Int32) ≤ -1 - nI k := by decide
theorem ev1_name (nm : Nat → Int32) {k : Nat} (hk : k < 6) (st : List Int32) : ev1 nm (-1 - nI k) st = some (nm k :: st) := by
  unfold ev1
  rw [if_neg (nm_neg k hk).1, if_pos (nm_neg k hk).2, nm_k, nI_clamp (by omega)]
theorem ev1_bin (nm : Nat → Int32) {s : Int32} (h : s = -9 ∨ s = -10 ∨ s = -11 ∨ s = -12 ∨ s = -13 ∨ s = -14 ∨ s = -15) (x y : Int32) (st : List Int32) : ev1 nm s (y :: x :: st) = some (jn s x y :: st) := by
  rcases h with rfl | rfl | rfl | rfl | rfl | rfl | rfl <;> rfl
theorem ev1_not (nm : Nat → Int32) (y : Int32) (st : List Int32) : ev1 nm (-8) (y :: st) = some ((if y = 0 then 1 else 0) :: st) := rfl
theorem ev1_neg (nm : Nat → Int32) (y : Int32) (st : List Int32) : ev1 nm (-7) (y :: st) = some (-y :: st) := rfl
theorem one1_num {k : Nat} (hk : k < 10000) : one1 [nI k] := fun nm st => ⟨nI k, by rw [evs, ev1_num nm hk]; rfl⟩
theorem one1_name {k : Nat} (hk : k < 6) : one1 [-1 - nI k] := fun nm st => ⟨nm k, by rw [evs, ev1_name nm hk]; rfl⟩
theorem one1_bin {a b : List Int32} {s : Int32} (h : s = -9 ∨ s = -10 ∨ s = -11 ∨ s = -12 ∨ s = -13 ∨ s = -14 ∨ s = -15) (ha : one1 a) (hb : one1 b) : one1 (a ++ b ++ [s]) := fun nm st => by
  obtain ⟨x, ex⟩ := ha nm st
  obtain ⟨y, ey⟩ := hb nm (x :: st)
  refine ⟨jn s x y, ?_⟩
  rw [evs_app, evs_app, ex, Option.bind_some, ey, Option.bind_some, evs, ev1_bin nm h]
  rfl
theorem one1_not {a : List Int32} (ha : one1 a) : one1 (a ++ [-8]) := fun nm st => by
  obtain ⟨x, ex⟩ := ha nm st
  exact ⟨if x = 0 then 1 else 0, by rw [evs_app, ex, Option.bind_some, evs, ev1_not]; rfl⟩
theorem one1_neg {a : List Int32} (ha : one1 a) : one1 (a ++ [-7]) := fun nm st => by
  obtain ⟨x, ex⟩ := ha nm st
  exact ⟨-x, by rw [evs_app, ex, Option.bind_some, evs, ev1_neg]; rfl⟩
theorem opc_bin {w : Nat} {t : Int32} (h : opc w t ≠ 0) : (opc w t = -9 ∨ opc w t = -10 ∨ opc w t = -11 ∨ opc w t = -12 ∨ opc w t = -13 ∨ opc w t = -14 ∨ opc w t = -15) ∧ (t = 1003 ∨ t = 1004 ∨ t = 43 ∨ t = 45 ∨ t = 42) := by
  unfold opc at h ⊢
  split
  · rename_i h0
    rw [if_pos h0] at h
    split
    · rename_i h1; exact ⟨Or.inl rfl, Or.inl h1⟩
    · rename_i h1; rw [if_neg h1] at h; exact absurd rfl h
  · rename_i h0
    rw [if_neg h0] at h
    split
    · rename_i h2
      rw [if_pos h2] at h
      split
      · rename_i h1; exact ⟨Or.inr (Or.inl rfl), Or.inr (Or.inl h1)⟩
      · rename_i h1; rw [if_neg h1] at h; exact absurd rfl h
    · rename_i h2
      rw [if_neg h2] at h
      split
      · rename_i h3
        rw [if_pos h3] at h
        split
        · rename_i h1; exact ⟨Or.inr (Or.inr (Or.inr (Or.inr (Or.inl rfl)))), Or.inr (Or.inr (Or.inl h1))⟩
        · rename_i h1
          rw [if_neg h1] at h
          split
          · rename_i h4; exact ⟨Or.inr (Or.inr (Or.inr (Or.inr (Or.inr (Or.inl rfl))))), Or.inr (Or.inr (Or.inr (Or.inl h4)))⟩
          · rename_i h4; rw [if_neg h4] at h; exact absurd rfl h
      · rename_i h3
        rw [if_neg h3] at h
        split
        · rename_i h1; exact ⟨Or.inr (Or.inr (Or.inr (Or.inr (Or.inr (Or.inr rfl))))), Or.inr (Or.inr (Or.inr (Or.inr h1)))⟩
        · rename_i h1; rw [if_neg h1] at h; exact absurd rfl h
theorem opc_tok {w : Nat} {t : Int32} (h : opc w t ≠ 0) : t ≠ 0 := by
  rcases (opc_bin h).2 with e | e | e | e | e <;> (rw [e]; decide)
/-- what a result may be -/
def pfacts (z a : Nat) (p : PR) : Prop := p.1 ≤ z ∧ ∀ ds, p.2 = some ds → a + 1 ≤ p.1 ∧ a + ds.length ≤ p.1 ∧ one1 ds ∧ ∀ s, s ∈ ds → okc s
theorem okc_bin {s : Int32} (h : s = -9 ∨ s = -10 ∨ s = -11 ∨ s = -12 ∨ s = -13 ∨ s = -14 ∨ s = -15) : okc s := by
  refine Or.inr (Or.inr (Or.inr (Or.inr ?_)))
  exact h
theorem lpz_facts {B : Nat → Int32} {z w : Nat} {f : Nat → PR} (hf : ∀ a, a ≤ z → pfacts z a (f a)) : ∀ (n a a0 : Nat) (cs : List Int32), a ≤ z → a0 + 1 ≤ a → a0 + cs.length ≤ a → one1 cs → (∀ s, s ∈ cs → okc s) → pfacts z a0 (lpz B z w f n a cs) := by
  intro n
  induction n with
  | zero =>
    intro a a0 cs h1 h2 h3 h4 h5
    exact ⟨h1, fun ds e => by cases e; exact ⟨h2, h3, h4, h5⟩⟩
  | succ n ih =>
    intro a a0 cs h1 h2 h3 h4 h5
    rw [lpz]
    by_cases ho : opc w (lxT B z a) = 0
    · rw [if_pos ho]
      exact ⟨h1, fun ds e => by cases e; exact ⟨h2, h3, h4, h5⟩⟩
    · rw [if_neg ho]
      have hb := opc_bin ho
      have hE := lxE_lt B h1 (opc_tok ho)
      have hf1 := hf (lxE B z a) hE.2.1
      generalize f (lxE B z a) = p at hf1 ⊢
      obtain ⟨b, ods⟩ := p
      cases ods with
      | none => exact ⟨hf1.1, fun ds e => by cases e⟩
      | some ds =>
        obtain ⟨k1, k2, k3, k4⟩ := hf1.2 ds rfl
        have k1 : lxE B z a + 1 ≤ b := k1
        have k2 : lxE B z a + ds.length ≤ b := k2
        refine ih b a0 (cs ++ ds ++ [opc w (lxT B z a)]) hf1.1 (by omega) ?_ (one1_bin hb.1 h4 k3) (fun s hs => ?_)
        · rw [List.length_append, List.length_append, List.length_singleton]; omega
        · rcases List.mem_append.mp hs with g | g
          · exact (List.mem_append.mp g).elim (h5 s) (k4 s)
          · rw [List.mem_singleton.mp g]; exact okc_bin hb.1
theorem pzL_facts {B : Nat → Int32} {z w : Nat} {f : Nat → PR} (hf : ∀ a, a ≤ z → pfacts z a (f a)) {a : Nat} (ha : a ≤ z) : pfacts z a (pzL B z w f a) := by
  unfold pzL
  have hf1 := hf a ha
  generalize f a = p at hf1 ⊢
  obtain ⟨b, ods⟩ := p
  cases ods with
  | none => exact ⟨hf1.1, fun ds e => by cases e⟩
  | some ds =>
    obtain ⟨k1, k2, k3, k4⟩ := hf1.2 ds rfl
    exact lpz_facts hf 200 b a ds hf1.1 k1 k2 k3 k4
theorem pz_facts {B : Nat → Int32} {z : Nat} : ∀ (d w v a : Nat), a ≤ z → pfacts z a (pz B z d w v a) := by
  intro d
  induction d with
  | zero => intro w v a ha; exact ⟨ha, fun ds e => by cases e⟩
  | succ d ih =>
    intro w v a ha
    have bad : pfacts z a (a, none) := ⟨ha, fun ds e => by cases e⟩
    rw [pz]
    split
    · exact pzL_facts (fun a h => ih 1 v a h) ha
    · split
      · exact pzL_facts (fun a h => ih 2 v a h) ha
      · split
        · unfold pzN
          split
          · rename_i ht
            have hE := lxE_lt B ha (by rw [ht]; decide)
            split
            · have hf1 := ih 2 (v + 1) (lxE B z a) hE.2.1
              generalize pz B z d 2 (v + 1) (lxE B z a) = p at hf1 ⊢
              obtain ⟨b, ods⟩ := p
              cases ods with
              | none => exact ⟨hf1.1, fun ds e => by cases e⟩
              | some ds =>
                obtain ⟨k1, k2, k3, k4⟩ := hf1.2 ds rfl
                refine ⟨hf1.1, fun es e => ?_⟩
                cases e
                have k1 : lxE B z a + 1 ≤ b := k1
                have k2 : lxE B z a + ds.length ≤ b := k2
                refine ⟨show a + 1 ≤ b by omega, ?_, one1_not k3, fun s hs => ?_⟩
                · rw [List.length_append, List.length_singleton]; show a + _ ≤ b; omega
                · rcases List.mem_append.mp hs with g | g
                  · exact k4 s g
                  · rw [List.mem_singleton.mp g]; exact Or.inr (Or.inr (Or.inr (Or.inl rfl)))
            · exact bad
          · have hf1 := ih 3 v a ha
            generalize pz B z d 3 v a = p at hf1 ⊢
            obtain ⟨b, ods⟩ := p
            cases ods with
            | none => exact ⟨hf1.1, fun ds e => by cases e⟩
            | some ds =>
              obtain ⟨k1, k2, k3, k4⟩ := hf1.2 ds rfl
              have k1 : a + 1 ≤ b := k1
              have k2 : a + ds.length ≤ b := k2
              have hb : b ≤ z := hf1.1
              show pfacts z a (if lxT B z b = 60 ∨ lxT B z b = 61 then _ else _)
              split
              · rename_i ht
                have hE := lxE_lt B hb (by rcases ht with e | e <;> (rw [e]; decide))
                have hf2 := ih 3 v (lxE B z b) hE.2.1
                generalize pz B z d 3 v (lxE B z b) = p at hf2 ⊢
                obtain ⟨b2, oes⟩ := p
                cases oes with
                | none => exact ⟨hf2.1, fun ds e => by cases e⟩
                | some es =>
                  obtain ⟨l1, l2, l3, l4⟩ := hf2.2 es rfl
                  have l1 : lxE B z b + 1 ≤ b2 := l1
                  have l2 : lxE B z b + es.length ≤ b2 := l2
                  have hbin : (if lxT B z b = 60 then (-11 : Int32) else -12) = -9 ∨ (if lxT B z b = 60 then (-11 : Int32) else -12) = -10 ∨ (if lxT B z b = 60 then (-11 : Int32) else -12) = -11 ∨ (if lxT B z b = 60 then (-11 : Int32) else -12) = -12 ∨ (if lxT B z b = 60 then (-11 : Int32) else -12) = -13 ∨ (if lxT B z b = 60 then (-11 : Int32) else -12) = -14 ∨ (if lxT B z b = 60 then (-11 : Int32) else -12) = -15 := by
                    split
                    · exact Or.inr (Or.inr (Or.inl rfl))
                    · exact Or.inr (Or.inr (Or.inr (Or.inl rfl)))
                  refine ⟨hf2.1, fun e1 e => ?_⟩
                  cases e
                  refine ⟨show a + 1 ≤ b2 by omega, ?_, one1_bin hbin k3 l3, fun s hs => ?_⟩
                  · rw [List.length_append, List.length_append, List.length_singleton]; show a + _ ≤ b2; omega
                  · rcases List.mem_append.mp hs with g | g
                    · exact (List.mem_append.mp g).elim (k4 s) (l4 s)
                    · rw [List.mem_singleton.mp g]; exact okc_bin hbin
              · exact ⟨hb, fun es e => by cases e; exact ⟨k1, k2, k3, k4⟩⟩
        · split
          · exact pzL_facts (fun a h => ih 4 v a h) ha
          · split
            · exact pzL_facts (fun a h => ih 5 v a h) ha
            · unfold pzO
              split
              · rename_i ht
                have hE := lxE_lt B ha (by rw [ht]; decide)
                obtain ⟨k, hk, ek⟩ := lxV_nI B ha ht
                refine ⟨hE.2.1, fun ds e => ?_⟩
                cases e
                rw [ek]
                exact ⟨hE.1, hE.1, one1_num hk, fun s hs => by rw [List.mem_singleton.mp hs]; exact Or.inl ⟨k, hk, rfl⟩⟩
              · split
                · rename_i ht
                  have hx : ∃ k, k < 6 ∧ lxT B z a = nI (1006 + k) := by
                    rcases lxT_cases B z a with e | e | e | ⟨i, hi, e⟩ | e
                    · rw [e] at ht; exact absurd ht (by decide)
                    · rw [e] at ht; exact absurd ht (by decide)
                    · rw [e] at ht; exact absurd ht (by decide)
                    · rw [e] at ht
                      have h6 : 1006 ≤ 1000 + i := (nI_leI (a := 1006) (b := 1000 + i) (by omega) (by omega)).mp ht
                      exact ⟨i - 6, (by omega), by rw [e]; congr 1; omega⟩
                    · rcases sg_tab e with g | g | g | g | g | g | g | g <;> (rw [g] at ht; exact absurd ht (by decide))
                  obtain ⟨k, hk, ek⟩ := hx
                  have hE := lxE_lt B ha (by rw [ek]; intro g; have := (nI_eq (a := 1006 + k) (b := 0) (by omega) (by omega)).mp g; omega)
                  have es : nI (1006 + k) - 1006 = nI k := by
                    show nI (1006 + k) - nI 1006 = _
                    rw [nI_sub (by omega), Nat.add_sub_cancel_left]
                  refine ⟨hE.2.1, fun ds e => ?_⟩
                  cases e
                  rw [ek, es]
                  exact ⟨hE.1, hE.1, one1_name hk, fun s hs => by rw [List.mem_singleton.mp hs]; exact Or.inr (Or.inl ⟨k, hk, rfl⟩)⟩
                · split
                  · rename_i ht
                    have hE := lxE_lt B ha (by rw [ht]; decide)
                    split
                    · have hf1 := ih 0 (v + 1) (lxE B z a) hE.2.1
                      generalize pz B z d 0 (v + 1) (lxE B z a) = p at hf1 ⊢
                      obtain ⟨b, ods⟩ := p
                      cases ods with
                      | none => exact ⟨hf1.1, fun ds e => by cases e⟩
                      | some ds =>
                        obtain ⟨k1, k2, k3, k4⟩ := hf1.2 ds rfl
                        have k1 : lxE B z a + 1 ≤ b := k1
                        have k2 : lxE B z a + ds.length ≤ b := k2
                        have hb : b ≤ z := hf1.1
                        show pfacts z a (if lxT B z b = 41 then _ else _)
                        split
                        · rename_i ht2
                          have hE2 := lxE_lt B hb (by rw [ht2]; decide)
                          exact ⟨hE2.2.1, fun es e => by cases e; exact ⟨show a + 1 ≤ lxE B z b by omega, show a + ds.length ≤ lxE B z b by omega, k3, k4⟩⟩
                        · exact ⟨hb, fun es e => by cases e⟩
                    · exact bad
                  · split
                    · rename_i ht
                      have hE := lxE_lt B ha (by rw [ht]; decide)
                      split
                      · have hf1 := ih 5 (v + 1) (lxE B z a) hE.2.1
                        generalize pz B z d 5 (v + 1) (lxE B z a) = p at hf1 ⊢
                        obtain ⟨b, ods⟩ := p
                        cases ods with
                        | none => exact ⟨hf1.1, fun ds e => by cases e⟩
                        | some ds =>
                          obtain ⟨k1, k2, k3, k4⟩ := hf1.2 ds rfl
                          refine ⟨hf1.1, fun es e => ?_⟩
                          cases e
                          have k1 : lxE B z a + 1 ≤ b := k1
                          have k2 : lxE B z a + ds.length ≤ b := k2
                          refine ⟨show a + 1 ≤ b by omega, ?_, one1_neg k3, fun s hs => ?_⟩
                          · rw [List.length_append, List.length_singleton]; show a + _ ≤ b; omega
                          · rcases List.mem_append.mp hs with g | g
                            · exact k4 s g
                            · rw [List.mem_singleton.mp g]; exact Or.inr (Or.inr (Or.inl rfl))
                      · exact bad
                    · exact bad
end PParse
