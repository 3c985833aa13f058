/-! what a text says: both programs work the codes out on a stack -/
section PSays
variable {T : TX} {m c : ST}
def valS (nm : Nat → Int32) (ds : List Int32) : Int32 := match evs nm ds [] with
  | some (x :: _) => x
  | _ => 0
theorem valS_one {nm : Nat → Int32} {ds : List Int32} (h : one1 ds) : evs nm ds [] = some [valS nm ds] := by
  obtain ⟨x, e⟩ := h nm []
  unfold valS
  rw [e]
def slB (T : TX) (t part : Nat) : Nat := if part = 0 then 0 else (tEnds T t (part - 1)).toNatClampNeg
def slT (T : TX) (t part : Nat) : List Int32 := segL (tCode T t) (slB T t part) ((tEnds T t part).toNatClampNeg - slB T t part)
def SofT (T : TX) : LW := fun t part nm => valS nm (slT T t part)
/-- a text's codes, as they must be -/
def CT (T : TX) (t n0 n1 n2 : Nat) : Prop := tEnds T t 0 = nI n0 ∧ tEnds T t 1 = nI n1 ∧ tEnds T t 2 = nI n2 ∧ n0 ≤ n1 ∧ n1 ≤ n2 ∧ n2 ≤ 160 ∧ tL T t = n2 ∧ (∀ i, i < n2 → okc (tCode T t i)) ∧ one1 (segL (tCode T t) 0 n0) ∧ one1 (segL (tCode T t) n0 (n1 - n0)) ∧ one1 (segL (tCode T t) n1 (n2 - n1))
def MTx (T : TX) (m : ST) (t n0 n1 n2 : Nat) : Prop := ga 50 8 m (4 * t) = 0 ∧ ga 50 8 m (4 * t + 1) = nI n0 ∧ ga 50 8 m (4 * t + 2) = nI n1 ∧ ga 50 8 m (4 * t + 3) = nI n2 ∧ ∀ i, i < n2 → ga 50 7 m (200 * t + i) = cv (tCode T t i)
def TO (T : TX) (m : ST) : Prop := ∀ t, t < tN T → ∃ n0 n1 n2, CT T t n0 n1 n2 ∧ MTx T m t n0 n1 n2
/-- where a part begins and ends -/
theorem CT.part {t n0 n1 n2 : Nat} (h : CT T t n0 n1 n2) {part : Nat} (hp : part < 3) : ∃ b e, slB T t part = b ∧ (part = 0 → b = 0) ∧ (part ≠ 0 → tEnds T t (part - 1) = nI b) ∧ tEnds T t part = nI e ∧ b ≤ e ∧ e ≤ n2 ∧ n2 ≤ 160 ∧ slT T t part = segL (tCode T t) b (e - b) ∧ one1 (segL (tCode T t) b (e - b)) ∧ (b = if part = 0 then 0 else if part = 1 then n0 else n1) ∧ (e = if part = 0 then n0 else if part = 1 then n1 else n2) := by
  obtain ⟨e0, e1, e2, h01, h12, h160, hL, hok, o0, o1, o2⟩ := h
  unfold slT slB
  rcases (show part = 0 ∨ part = 1 ∨ part = 2 by omega) with rfl | rfl | rfl
  · refine ⟨0, n0, rfl, fun _ => rfl, fun g => absurd rfl g, e0, (by omega), (by omega), h160, ?_, o0, rfl, rfl⟩
    rw [if_pos rfl, e0, nI_clamp (by omega)]
  · refine ⟨n0, n1, ?_, fun g => absurd g (by decide), fun _ => e0, e1, (by omega), (by omega), h160, ?_, o1, rfl, rfl⟩
    · rw [if_neg (by decide), show 1 - 1 = 0 from rfl, e0, nI_clamp (by omega)]
    · rw [if_neg (by decide), show 1 - 1 = 0 from rfl, e0, e1, nI_clamp (by omega), nI_clamp (by omega)]
  · refine ⟨n1, n2, ?_, fun g => absurd g (by decide), fun _ => e1, e2, (by omega), (by omega), h160, ?_, o2, rfl, rfl⟩
    · rw [if_neg (by decide), show 2 - 1 = 1 from rfl, e1, nI_clamp (by omega)]
    · rw [if_neg (by decide), show 2 - 1 = 1 from rfl, e1, e2, nI_clamp (by omega), nI_clamp (by omega)]
theorem ev1_ext {nm nm' : Nat → Int32} {s : Int32} (hs : okc s) (h : ∀ k, k < 6 → nm k = nm' k) (st : List Int32) : ev1 nm s st = ev1 nm' s st := by
  rcases hs with ⟨k, hk, rfl⟩ | ⟨k, hk, rfl⟩ | rfl | rfl | rfl | rfl | rfl | rfl | rfl | rfl | rfl
  · rw [ev1_num nm hk, ev1_num nm' hk]
  · rw [ev1_name nm hk, ev1_name nm' hk, h k hk]
  all_goals rfl
theorem evs_ext {nm nm' : Nat → Int32} (h : ∀ k, k < 6 → nm k = nm' k) : ∀ (ds st : List Int32), (∀ s, s ∈ ds → okc s) → evs nm ds st = evs nm' ds st := by
  intro ds
  induction ds with
  | nil => intro st _; rfl
  | cons s ds ih =>
    intro st hs
    rw [evs, evs, ev1_ext (hs s (List.mem_cons_self ..)) h]
    cases ev1 nm' s st with
    | none => rfl
    | some st' => exact ih st' (fun x hx => hs x (List.mem_cons_of_mem _ hx))
theorem num_n6 {k : Nat} (hk : k < 10000) : ¬ nI k < -6 := fun g => by
  have := Int32.lt_iff_toInt_lt.mp g
  rw [nI_toInt (by omega)] at this
  have e : (-6 : Int32).toInt = -6 := by decide
  omega
theorem name_n6 : ∀ k, k < 6 → ¬ (-1 - nI k : Int32) < -6 ∧ (-1 - nI k : Int32) < 0 := by decide
theorem bin_tab {s : Int32} (h : s = -9 ∨ s = -10 ∨ s = -11 ∨ s = -12 ∨ s = -13 ∨ s = -14 ∨ s = -15) : s < -6 ∧ s < -8 ∧ ¬ 0 ≤ s ∧ ¬ (-6 : Int32) ≤ s ∧ ¬ s = -7 ∧ ¬ s = -8 := by
  rcases h with rfl | rfl | rfl | rfl | rfl | rfl | rfl <;> decide
theorem c_joined (s x y : Int32) : f_X3_joined T s x y c = some (jn s x y, c) := by
  unfold f_X3_joined jn f_X3_joined_L53 f_X3_joined_L48 f_X3_joined_L67 f_X3_joined_L66 f_X3_joined_L78 f_X3_joined_L89 f_X3_joined_L53 f_X3_joined_L67
  repeat' split
  all_goals rfl
theorem evs_inv {nm : Nat → Int32} {s : Int32} {l st : List Int32} {x : Int32} (h : evs nm (s :: l) st = some [x]) : ∃ st', ev1 nm s st = some st' ∧ evs nm l st' = some [x] := by
  rw [evs] at h
  cases e : ev1 nm s st with
  | none => rw [e] at h; cases h
  | some st' => rw [e] at h; exact ⟨st', rfl, h⟩
theorem pS21 : pSt 2 1 := ⟨rfl, rfl⟩
theorem c_law_L {o part t e : Nat} {p s : Int32} {nm : Nat → Int32} {c0 : ST} (hp : part < 3) (he : tEnds T t part = nI e) (hL : e ≤ tL T t) (h160 : tL T t ≤ 160) (hok : ∀ i, i < e → okc (tCode T t i)) (hnm : ∀ k, k < 6 → ∀ c', fr pSt c0 c' → f_X0_named T o (-1 - nI k) p s c' = some (nm k, c')) : ∀ (r q i : Nat) (c : ST) (st : List Int32) (x : Int32), i + r = e → r < q → fr pSt c0 c → stk (ga 2 1 c) st → st.length + r ≤ 160 → evs nm (segL (tCode T t) i r) st = some [x] → ∃ c', f_X0_lawSays_L29 T q o (nI part) p s t (nI st.length) (nI i) c = f_X0_lawSays_L205 T o (nI part) c' ∧ ga 2 1 c' 0 = x ∧ fr pSt c0 c' := by
  intro r
  induction r with
  | zero =>
    intro q i c st x hi hq f hst hl hv
    obtain ⟨q, rfl⟩ : ∃ y, q = y + 1 := ⟨q - 1, (by omega)⟩
    rw [segL, evs] at hv
    cases hv
    rw [f_X0_lawSays_L29, ald_nI hp (by omega), he, if_pos (nI_le (by omega) (by omega))]
    exact ⟨c, rfl, hst.1, f⟩
  | succ r ih =>
    intro q i c st x hi hq f hst hl hv
    obtain ⟨q, rfl⟩ : ∃ y, q = y + 1 := ⟨q - 1, (by omega)⟩
    rw [segL] at hv
    obtain ⟨st', ev, hv'⟩ := evs_inv hv
    have ok := hok i (by omega)
    rw [f_X0_lawSays_L29, ald_nI hp (by omega), he, if_neg (nI_ge (by omega) (by omega)), ald_nI (by omega) (by omega)]
    unfold f_X0_lawSays_L199 f_X0_lawSays_L92 f_X0_lawSays_L156
    generalize tCode T t i = s0 at ev ok ⊢
    -- a value comes on the stack
    have push : ∀ y, st' = y :: st → ∃ c', ast 2 1 160 (nI st.length) y c (fun t92 => f_X0_lawSays_L29 T q o (nI part) p s t (nI st.length + 1) (nI i + 1) t92) = f_X0_lawSays_L205 T o (nI part) c' ∧ ga 2 1 c' 0 = x ∧ fr pSt c0 c' := by
      intro y hy
      subst hy
      rw [ast_nI (by omega) (by omega), nI_1, nI_1]
      have f2 := fr_pa pS21 (upd (ga 2 1 c) st.length y) c
      obtain ⟨c', g1, g2, g3⟩ := ih q (i + 1) (pa 2 1 (upd (ga 2 1 c) st.length y) c) (y :: st) x (by omega) (by omega) (f.trans f2) ⟨by rw [ga_pa, if_pos ⟨rfl, rfl⟩, upd_eq], by rw [ga_pa, if_pos ⟨rfl, rfl⟩]; exact stk_upd _ _ _ _ (Nat.le_refl _) hst⟩ (by rw [List.length_cons]; omega) hv'
      exact ⟨c', g1, g2, g3⟩
    -- the last one is changed
    have turn : ∀ y0 st2 y, st = y0 :: st2 → st' = y :: st2 → ∃ c', ast 2 1 160 (nI st2.length) y c (fun t156 => f_X0_lawSays_L29 T q o (nI part) p s t (nI (st2.length + 1)) (nI i + 1) t156) = f_X0_lawSays_L205 T o (nI part) c' ∧ ga 2 1 c' 0 = x ∧ fr pSt c0 c' := by
      intro y0 st2 y h1 h2
      subst h1 h2
      rw [List.length_cons] at hl
      rw [ast_nI (by omega) (by omega), nI_1]
      have f2 := fr_pa pS21 (upd (ga 2 1 c) st2.length y) c
      obtain ⟨c', g1, g2, g3⟩ := ih q (i + 1) (pa 2 1 (upd (ga 2 1 c) st2.length y) c) (y :: st2) x (by omega) (by omega) (f.trans f2) ⟨by rw [ga_pa, if_pos ⟨rfl, rfl⟩, upd_eq], by rw [ga_pa, if_pos ⟨rfl, rfl⟩]; exact stk_upd _ _ _ _ (Nat.le_refl _) hst.2⟩ (by rw [List.length_cons]; omega) hv'
      exact ⟨c', g1, g2, g3⟩
    rcases ok with ⟨k, hk, rfl⟩ | ⟨k, hk, rfl⟩ | rfl | rfl | hb
    · rw [ev1_num nm hk] at ev
      cases ev
      rw [if_neg (num_n6 hk), if_neg (c := (160 : Int32) ≤ nI st.length) (nI_ge (b := 160) (by omega) (by omega)), if_neg (nI_pos (by omega))]
      exact push _ rfl
    · rw [ev1_name nm hk] at ev
      cases ev
      rw [if_neg (name_n6 k hk).1, if_neg (c := (160 : Int32) ≤ nI st.length) (nI_ge (b := 160) (by omega) (by omega)), if_pos (name_n6 k hk).2, hnm k hk c f, bnd_some]
      exact push _ rfl
    · cases st with
      | nil => cases ev
      | cons y0 st2 =>
        rw [List.length_cons] at hl
        rw [ev1_neg] at ev
        cases ev
        rw [if_pos (by decide), if_neg (by decide), List.length_cons, if_neg (nI_nle (by omega) (by omega)), if_pos rfl, nI_pred, ald_nI (by omega) (by omega), hst.1]
        exact turn y0 st2 _ rfl rfl
    · cases st with
      | nil => cases ev
      | cons y0 st2 =>
        rw [List.length_cons] at hl
        rw [ev1_not] at ev
        cases ev
        rw [if_pos (by decide), if_neg (by decide), List.length_cons, if_neg (nI_nle (by omega) (by omega)), if_neg (by decide), nI_pred, ald_nI (by omega) (by omega), hst.1]
        by_cases h0 : y0 = 0
        · rw [if_pos h0]
          exact turn y0 st2 1 rfl (by rw [if_pos h0])
        · rw [if_neg h0]
          exact turn y0 st2 0 rfl (by rw [if_neg h0])
    · have tb := bin_tab hb
      cases st with
      | nil =>
        exfalso
        unfold ev1 at ev
        rw [if_neg tb.2.2.1, if_neg tb.2.2.2.1] at ev
        cases ev
      | cons y0 st2 =>
        cases st2 with
        | nil =>
          exfalso
          unfold ev1 at ev
          rw [if_neg tb.2.2.1, if_neg tb.2.2.2.1] at ev
          have ev : (if s0 = -7 then some (-y0 :: []) else if s0 = -8 then some ((if y0 = 0 then 1 else 0) :: []) else none) = some st' := ev
          rw [if_neg tb.2.2.2.2.1, if_neg tb.2.2.2.2.2] at ev
          cases ev
        | cons x0 st3 =>
          rw [List.length_cons, List.length_cons] at hl
          rw [ev1_bin nm hb] at ev
          cases ev
          have h2 : ga 2 1 c (st3.length + 1) = y0 := hst.1
          have h3 : ga 2 1 c st3.length = x0 := hst.2.1
          rw [if_pos tb.1, if_pos tb.2.1, List.length_cons, List.length_cons, if_neg (c := nI (st3.length + 1 + 1) ≤ (1 : Int32)) (nI_ge (a := 1) (by omega) (by omega)), pk_m1, nI_pred, ald_nI (by omega) (by omega), ald_nI (by omega) (by omega), h2, h3, c_joined, bnd_some, ast_nI (by omega) (by omega), nI_1]
          have f2 := fr_pa pS21 (upd (ga 2 1 c) st3.length (jn s0 x0 y0)) c
          obtain ⟨c', g1, g2, g3⟩ := ih q (i + 1) (pa 2 1 (upd (ga 2 1 c) st3.length (jn s0 x0 y0)) c) (jn s0 x0 y0 :: st3) x (by omega) (by omega) (f.trans f2) ⟨by rw [ga_pa, if_pos ⟨rfl, rfl⟩, upd_eq], by rw [ga_pa, if_pos ⟨rfl, rfl⟩]; exact stk_upd _ _ _ _ (Nat.le_refl _) hst.2.2⟩ (by rw [List.length_cons]; omega) hv'
          exact ⟨c', g1, g2, g3⟩
theorem TO.lc (h : TO T m) : LC (SofT T) T := by
  intro t ht part hp o c p s nm hnm
  obtain ⟨n0, n1, n2, hC, hM⟩ := h t ht
  obtain ⟨b, e, -, hb0, hb1, hE, hbe, he2, h160, hsl, hone, -, -⟩ := hC.part hp
  have hL : tL T t = n2 := hC.2.2.2.2.2.2.1
  have hok := hC.2.2.2.2.2.2.2.1
  have hS : SofT T t part nm = valS nm (segL (tCode T t) b (e - b)) := by unfold SofT; rw [hsl]
  have hbeg : f_X3_begin T t (nI part) c = some (nI b, c) := by
    unfold f_X3_begin f_X3_begin_L16
    by_cases h0 : part = 0
    · rw [if_pos (by rw [h0]; rfl), hb0 h0]
      rfl
    · rw [if_neg (c := nI part = (0 : Int32)) (fun g => h0 ((nI_eq (a := part) (b := 0) (by omega) (by omega)).mp g)), show nI part - 1 = nI (part - 1) from nI_sub (b := 1) (by omega), ald_nI (by omega) (by omega), hb1 h0]
  rw [hbeg, bnd_some]
  obtain ⟨c', g1, g2, g3⟩ := c_law_L (T := T) (o := o) (p := p) (s := s) (nm := nm) (c0 := c) hp hE (by omega) (by omega) (fun i hi => hok i (by omega)) hnm (e - b) 1000 b c [] (valS nm (segL (tCode T t) b (e - b))) (by omega) (by omega) (fr.refl c) trivial (by show 0 + (e - b) ≤ 160; omega) (valS_one hone)
  rw [show (0 : Int32) = nI ([] : List Int32).length from rfl, g1, hS]
  refine ⟨c', ?_, g3⟩
  unfold f_X0_lawSays_L205
  rw [show ald (ga 2 1 c') 160 0 = ald (ga 2 1 c') 160 (nI 0) from rfl]
  rcases (show part = 0 ∨ part = 1 ∨ part = 2 by omega) with rfl | rfl | rfl
  · rw [if_pos (by rfl), ald_nI (by omega) (by omega), g2, c_bounded (by decide), bnd_some]
    rfl
  · rw [if_neg (by decide), if_pos (by rfl), ald_nI (by omega) (by omega), g2, c_bounded (by decide), bnd_some]
    rfl
  · rw [if_neg (by decide), if_neg (by decide), ald_nI (by omega) (by omega), g2, c_bounded (by decide), bnd_some]
    rfl
/-! the reference -/
theorem m_two {s : Int32} (h : s = -9 ∨ s = -10 ∨ s = -11 ∨ s = -12 ∨ s = -13 ∨ s = -14 ∨ s = -15) (x y : Int32) : f_X5_two (cv s) x y m = some (jn s x y, m) := by
  unfold f_X5_two f_X5_two_L52 f_X5_two_L70 f_X5_two_L57 f_X5_two_L71 f_X5_two_L82 f_X5_two_L93
  rcases h with rfl | rfl | rfl | rfl | rfl | rfl | rfl
  · show (if x = 0 then (if y = 0 then some (0, m) else some (1, m)) else some (1, m)) = some (if x = 0 then (if y = 0 then 0 else 1) else 1, m)
    repeat' split
    all_goals rfl
  · show (if x = 0 then some (0, m) else (if y = 0 then some (0, m) else some (1, m))) = some (if x = 0 then 0 else if y = 0 then 0 else 1, m)
    repeat' split
    all_goals rfl
  · show (if y ≤ x then some (0, m) else some (1, m)) = some (if y ≤ x then 0 else 1, m)
    repeat' split
    all_goals rfl
  · show (if x = y then some (1, m) else some (0, m)) = some (if x = y then 1 else 0, m)
    repeat' split
    all_goals rfl
  · rfl
  · rfl
  · rfl
theorem cv_bin {s : Int32} (h : s = -9 ∨ s = -10 ∨ s = -11 ∨ s = -12 ∨ s = -13 ∨ s = -14 ∨ s = -15) : ¬ (100000 : Int32) ≤ cv s ∧ (11 : Int32) ≤ cv s ∧ ¬ cv s = 13 ∧ ¬ cv s = 19 := by
  rcases h with rfl | rfl | rfl | rfl | rfl | rfl | rfl <;> decide
def p27 (o k : Nat) : Prop := o = 50 ∧ k = 27
theorem p27_ : p27 50 27 := ⟨rfl, rfl⟩
theorem m_say_L {part t e : Nat} {nm : Nat → Int32} {F : Nat → Int32} {m0 : ST} (hp : part < 3) (ht : t < 6) (h10 : gs 50 10 m0 = nI t) (he : ga 50 8 m0 (4 * t + part + 1) = nI e) (he2 : e ≤ 160) (hcd : ∀ i, i < e → ga 50 7 m0 (200 * t + i) = cv (F i)) (hok : ∀ i, i < e → okc (F i)) (hnm : ∀ k, k < 6 → ga 50 28 m0 k = nm k) : ∀ (r q i : Nat) (m : ST) (st : List Int32) (x : Int32), i + r = e → r < q → fr p27 m0 m → stk (ga 50 27 m) st → st.length + r ≤ 160 → evs nm (segL F i r) st = some [x] → ∃ m', f_X5_says_L16 q (nI part) (nI st.length) (nI i) m = some (x, m') ∧ fr p27 m0 m' := by
  intro r
  induction r with
  | zero =>
    intro q i m st x hi hq f hst hl hv
    obtain ⟨q, rfl⟩ : ∃ y, q = y + 1 := ⟨q - 1, (by omega)⟩
    rw [segL, evs] at hv
    cases hv
    have e1 : (4 : Int32) * gs 50 10 m + nI part + 1 = nI (4 * t + part + 1) := by
      rw [f.gs (by unfold p27; decide), h10]
      show nI 4 * nI t + nI part + nI 1 = _
      rw [nI_mul, nI_add, nI_add]
    rw [f_X5_says_L16, e1, ald_nI (by omega) (by omega), f.ga (by unfold p27; decide), he, if_pos (nI_le (by omega) (by omega))]
    unfold f_X5_says_L197
    rw [show ald (ga 50 27 m) 200 0 = ald (ga 50 27 m) 200 (nI 0) from rfl, ald_nI (by omega) (by omega)]
    have h1 : ga 50 27 m 0 = x := hst.1
    rw [h1]
    exact ⟨m, rfl, f⟩
  | succ r ih =>
    intro q i m st x hi hq f hst hl hv
    obtain ⟨q, rfl⟩ : ∃ y, q = y + 1 := ⟨q - 1, (by omega)⟩
    rw [segL] at hv
    obtain ⟨st', ev, hv'⟩ := evs_inv hv
    have ok := hok i (by omega)
    have hcd1 := hcd i (by omega)
    have e0 : gs 50 10 m = nI t := (f.gs (by unfold p27; decide)).trans h10
    have e1 : (4 : Int32) * gs 50 10 m + nI part + 1 = nI (4 * t + part + 1) := by
      rw [e0]
      show nI 4 * nI t + nI part + nI 1 = _
      rw [nI_mul, nI_add, nI_add]
    have e2 : (200 : Int32) * gs 50 10 m + nI i = nI (200 * t + i) := by
      rw [e0]
      show nI 200 * nI t + nI i = _
      rw [nI_mul, nI_add]
    rw [f_X5_says_L16, e1, ald_nI (by omega) (by omega), f.ga (k := 8) (by unfold p27; decide), he, if_neg (nI_ge (by omega) (by omega)), e2, ald_nI (by omega) (by omega), f.ga (k := 7) (by unfold p27; decide), hcd1]
    unfold f_X5_says_L66 f_X5_says_L93 f_X5_says_L130 f_X5_says_L191
    generalize F i = s0 at ev ok ⊢
    have push : ∀ y, st' = y :: st → ∃ m', ast 50 27 200 (nI st.length) y m (fun t93 => f_X5_says_L16 q (nI part) (nI st.length + 1) (nI i + 1) t93) = some (x, m') ∧ fr p27 m0 m' := by
      intro y hy
      subst hy
      rw [ast_nI (by omega) (by omega), nI_1, nI_1]
      have f2 := fr_pa p27_ (upd (ga 50 27 m) st.length y) m
      exact ih q (i + 1) (pa 50 27 (upd (ga 50 27 m) st.length y) m) (y :: st) x (by omega) (by omega) (f.trans f2) ⟨by rw [ga_pa, if_pos ⟨rfl, rfl⟩, upd_eq], by rw [ga_pa, if_pos ⟨rfl, rfl⟩]; exact stk_upd _ _ _ _ (Nat.le_refl _) hst⟩ (by rw [List.length_cons]; omega) hv'
    have turn : ∀ y0 st2 y, st = y0 :: st2 → st' = y :: st2 → ∃ m', ast 50 27 200 (nI st2.length) y m (fun t130 => f_X5_says_L16 q (nI part) (nI (st2.length + 1)) (nI i + 1) t130) = some (x, m') ∧ fr p27 m0 m' := by
      intro y0 st2 y h1 h2
      subst h1 h2
      rw [List.length_cons] at hl
      rw [ast_nI (by omega) (by omega), nI_1]
      have f2 := fr_pa p27_ (upd (ga 50 27 m) st2.length y) m
      exact ih q (i + 1) (pa 50 27 (upd (ga 50 27 m) st2.length y) m) (y :: st2) x (by omega) (by omega) (f.trans f2) ⟨by rw [ga_pa, if_pos ⟨rfl, rfl⟩, upd_eq], by rw [ga_pa, if_pos ⟨rfl, rfl⟩]; exact stk_upd _ _ _ _ (Nat.le_refl _) hst.2⟩ (by rw [List.length_cons]; omega) hv'
    rcases ok with ⟨k, hk, rfl⟩ | ⟨k, hk, rfl⟩ | rfl | rfl | hb
    · rw [ev1_num nm hk] at ev
      cases ev
      have ec : cv (nI k) = nI (100000 + k) := by
        unfold cv
        rw [if_pos (nI_pos' (by omega))]
        exact nI_add 100000 k
      have es : nI (100000 + k) - 100000 = nI k := by
        show nI (100000 + k) - nI 100000 = _
        rw [nI_sub (by omega), Nat.add_sub_cancel_left]
      rw [ec, if_pos (c := (100000 : Int32) ≤ nI (100000 + k)) (nI_le (a := 100000) (by omega) (by omega)), if_pos (c := (11 : Int32) ≤ nI (100000 + k)) (nI_le (a := 11) (by omega) (by omega)), es]
      exact push _ rfl
    · rw [ev1_name nm hk] at ev
      cases ev
      have ec : cv (-1 - nI k) = nI k := by
        unfold cv
        rw [if_neg (nm_neg k hk).1, if_pos (nm_neg k hk).2, nm_k]
      rw [ec, if_neg (c := (100000 : Int32) ≤ nI k) (nI_ge (b := 100000) (by omega) (by omega)), if_neg (c := (11 : Int32) ≤ nI k) (nI_ge (b := 11) (by omega) (by omega)), if_neg (c := (11 : Int32) ≤ nI k) (nI_ge (b := 11) (by omega) (by omega)), ald_nI (by omega) (by omega), f.ga (k := 28) (by unfold p27; decide), hnm k hk]
      exact push _ rfl
    · cases st with
      | nil => cases ev
      | cons y0 st2 =>
        rw [List.length_cons] at hl
        rw [ev1_neg] at ev
        cases ev
        rw [show cv (-7) = 19 from rfl, if_neg (by decide), if_pos (by decide), if_neg (by decide), if_pos rfl, List.length_cons, nI_pred, ald_nI (by omega) (by omega), hst.1]
        exact turn y0 st2 _ rfl rfl
    · cases st with
      | nil => cases ev
      | cons y0 st2 =>
        rw [List.length_cons] at hl
        rw [ev1_not] at ev
        cases ev
        rw [show cv (-8) = 13 from rfl, if_neg (by decide), if_pos (by decide), if_pos rfl, List.length_cons, nI_pred, ald_nI (by omega) (by omega), hst.1]
        by_cases h0 : y0 = 0
        · rw [if_pos h0]
          exact turn y0 st2 1 rfl (by rw [if_pos h0])
        · rw [if_neg h0]
          exact turn y0 st2 0 rfl (by rw [if_neg h0])
    · have tb := bin_tab hb
      have tc := cv_bin hb
      cases st with
      | nil =>
        exfalso
        unfold ev1 at ev
        rw [if_neg tb.2.2.1, if_neg tb.2.2.2.1] at ev
        cases ev
      | cons y0 st2 =>
        cases st2 with
        | nil =>
          exfalso
          unfold ev1 at ev
          rw [if_neg tb.2.2.1, if_neg tb.2.2.2.1] at ev
          have ev : (if s0 = -7 then some (-y0 :: []) else if s0 = -8 then some ((if y0 = 0 then 1 else 0) :: []) else none) = some st' := ev
          rw [if_neg tb.2.2.2.2.1, if_neg tb.2.2.2.2.2] at ev
          cases ev
        | cons x0 st3 =>
          rw [List.length_cons, List.length_cons] at hl
          rw [ev1_bin nm hb] at ev
          cases ev
          have h2 : ga 50 27 m (st3.length + 1) = y0 := hst.1
          have h3 : ga 50 27 m st3.length = x0 := hst.2.1
          rw [if_neg tc.1, if_pos tc.2.1, if_neg tc.2.2.1, if_neg tc.2.2.2, List.length_cons, List.length_cons, pk_m1, nI_pred, ald_nI (by omega) (by omega), ald_nI (by omega) (by omega), h2, h3, m_two hb, bnd_some, ast_nI (by omega) (by omega), nI_1]
          have f2 := fr_pa p27_ (upd (ga 50 27 m) st3.length (jn s0 x0 y0)) m
          exact ih q (i + 1) (pa 50 27 (upd (ga 50 27 m) st3.length (jn s0 x0 y0)) m) (jn s0 x0 y0 :: st3) x (by omega) (by omega) (f.trans f2) ⟨by rw [ga_pa, if_pos ⟨rfl, rfl⟩, upd_eq], by rw [ga_pa, if_pos ⟨rfl, rfl⟩]; exact stk_upd _ _ _ _ (Nat.le_refl _) hst.2.2⟩ (by rw [List.length_cons]; omega) hv'
theorem TO.lm (h : TO T m) (h6 : tN T ≤ 6) : LM (SofT T) m (tN T) := by
  refine ⟨fun t ht part hp σ e7 e8 h10 => ?_, fun t part nm nm' ht hp hnm => ?_⟩
  · obtain ⟨n0, n1, n2, hC, hM⟩ := h t ht
    obtain ⟨b, e, -, hb0, hb1, hE, hbe, he2, h160, hsl, hone, hbq, heq⟩ := hC.part hp
    have hok := hC.2.2.2.2.2.2.2.1
    have hS : SofT T t part (ga 50 28 σ) = valS (ga 50 28 σ) (segL (tCode T t) b (e - b)) := by unfold SofT; rw [hsl]
    obtain ⟨M0, M1, M2, M3, M4⟩ := hM
    have hbb : ga 50 8 σ (4 * t + part) = nI b := by
      rw [e8, hbq]
      rcases (show part = 0 ∨ part = 1 ∨ part = 2 by omega) with rfl | rfl | rfl
      · exact M0
      · exact M1
      · exact M2
    have hee : ga 50 8 σ (4 * t + part + 1) = nI e := by
      rw [e8, heq]
      rcases (show part = 0 ∨ part = 1 ∨ part = 2 by omega) with rfl | rfl | rfl
      · exact M1
      · exact M2
      · exact M3
    have e1 : (4 : Int32) * gs 50 10 σ + nI part = nI (4 * t + part) := by
      rw [h10]
      show nI 4 * nI t + nI part = _
      rw [nI_mul, nI_add]
    unfold f_X5_says
    rw [e1, ald_nI (by omega) (by omega), hbb]
    obtain ⟨σ', g1, g2⟩ := m_say_L (nm := ga 50 28 σ) (F := tCode T t) (m0 := σ) hp (show t < 6 by omega) h10 hee (by omega) (fun i hi => by rw [e7]; exact M4 i (by omega)) (fun i hi => hok i (by omega)) (fun k hk => rfl) (e - b) 1000 b σ [] (valS (ga 50 28 σ) (segL (tCode T t) b (e - b))) (by omega) (by omega) (fr.refl σ) trivial (by show 0 + (e - b) ≤ 160; omega) (valS_one hone)
    rw [show f_X5_says_L16 1000 (nI part) 0 (nI b) σ = f_X5_says_L16 1000 (nI part) (nI ([] : List Int32).length) (nI b) σ from rfl, g1, hS]
    exact ⟨σ', rfl, g2⟩
  · obtain ⟨n0, n1, n2, hC, hM⟩ := h t ht
    obtain ⟨b, e, -, hb0, hb1, hE, hbe, he2, h160, hsl, hone, hbq, heq⟩ := hC.part hp
    have hok := hC.2.2.2.2.2.2.2.1
    unfold SofT valS
    rw [hsl, evs_ext hnm _ _ (fun s hs => by
      obtain ⟨i, hi, ei⟩ := segL_mem _ _ _ s hs
      rw [ei]
      exact hok _ (by omega))]
end PSays
