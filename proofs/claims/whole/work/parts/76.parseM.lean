/-! the reference reads by the grammar: signs wait on a stack, the last one first -/
section PMParse
variable {m : ST} {B : Nat → Int32} {z a t : Nat}
def rk (s : Int32) : Nat := if s = 0 then 0 else if s = 11 then 1 else if s = 12 then 2 else if s = 13 then 3 else if 15 < s then (if 17 < s then (if s = 18 then 6 else 7) else 5) else 4
theorem m_rank (s : Int32) : f_X5_rank s m = some (nI (rk s), m) := by
  unfold f_X5_rank f_X5_rank_L71 rk
  repeat' split
  all_goals rfl
theorem rk_le (s : Int32) : rk s ≤ 7 := by
  unfold rk
  repeat' split
  all_goals omega
def opn (s : Int32) : Nat := if s = 13 then 1 else if s = 19 then 1 else if s = 0 then 1 else 0
def nop : List Int32 → Nat
  | [] => 0
  | x :: r => opn x + nop r
theorem opn_le (s : Int32) : opn s ≤ 1 := by
  unfold opn
  repeat' split
  all_goals omega
theorem nop_len : ∀ l, nop l ≤ l.length := by
  intro l
  induction l with
  | nil => exact Nat.le_refl _
  | cons x l ih => rw [nop, List.length_cons]; have := opn_le x; omega
theorem nop_app : ∀ (a b : List Int32), nop (a ++ b) = nop a + nop b := by
  intro a b
  induction a with
  | nil => rw [nop, Nat.zero_add]; rfl
  | cons x a ih => rw [List.cons_append, nop, nop, ih]; omega
def stk (f : Nat → Int32) : List Int32 → Prop
  | [] => True
  | x :: S => f S.length = x ∧ stk f S
theorem stk_upd (f : Nat → Int32) (k : Nat) (x : Int32) : ∀ S, S.length ≤ k → stk f S → stk (upd f k x) S := by
  intro S
  induction S with
  | nil => intro _ _; trivial
  | cons y S ih =>
    intro h1 h2
    rw [List.length_cons] at h1
    exact ⟨by rw [upd_ne _ _ (by omega)]; exact h2.1, ih (by omega) h2.2⟩
def MS (m : ST) (S : List Int32) (n : Nat) : Prop := gs 50 24 m = nI S.length ∧ S.length ≤ 170 ∧ stk (ga 50 23 m) S ∧ gs 50 25 m = nI n ∧ n ≤ 200
def MO (m : ST) (t : Nat) (E : List Int32) : Prop := gs 50 9 m = nI t ∧ t < 6 ∧ gs 50 26 m = nI E.length ∧ E.length ≤ 170 ∧ ∀ i, i < E.length → ga 50 7 m (200 * t + i) = E.getD i 0
def pMx (o k : Nat) : Prop := o = 50 ∧ (k = 7 ∨ k = 18 ∨ k = 19 ∨ k = 20 ∨ k = 21 ∨ k = 23 ∨ k = 24 ∨ k = 25 ∨ k = 26)
def pSk (o k : Nat) : Prop := o = 50 ∧ (k = 23 ∨ k = 24 ∨ k = 25)
def pOu (o k : Nat) : Prop := o = 50 ∧ (k = 7 ∨ k = 26)
theorem pSk_x (o k : Nat) (h : pSk o k) : pMx o k := ⟨h.1, by have := h.2; omega⟩
theorem pOu_x (o k : Nat) (h : pOu o k) : pMx o k := ⟨h.1, by have := h.2; omega⟩
theorem pNx_x (o k : Nat) (h : pNx o k) : pMx o k := ⟨h.1, by have := h.2; omega⟩
theorem pMx_n : ¬ pMx 50 5 ∧ ¬ pMx 50 6 ∧ ¬ pMx 50 22 := by unfold pMx; decide
/-- what a step of the reading may write: the text's own codes, what is read, the stack -/
def FM (t : Nat) (m m' : ST) : Prop := fr pMx m m' ∧ ∀ j, j < 200 * t → ga 50 7 m' j = ga 50 7 m j
theorem FM.refl (m : ST) : FM t m m := ⟨fr.refl m, fun _ _ => rfl⟩
theorem FM.trans {m1 m2 m3 : ST} (h : FM t m1 m2) (g : FM t m2 m3) : FM t m1 m3 := ⟨h.1.trans g.1, fun j hj => (g.2 j hj).trans (h.2 j hj)⟩
theorem FM.sk {m' : ST} (h : fr pSk m m') : FM t m m' := ⟨h.mono pSk_x, fun j hj => by rw [h.ga (by unfold pSk; decide)]⟩
theorem FM.nx {m' : ST} (h : fr pNx m m') : FM t m m' := ⟨h.mono pNx_x, fun j hj => by rw [h.ga (by unfold pNx; decide)]⟩
theorem MS.fr {P : Nat → Nat → Prop} {m' : ST} {S : List Int32} {n : Nat} (h : MS m S n) (f : fr P m m') (g : ¬ P 50 23 ∧ ¬ P 50 24 ∧ ¬ P 50 25) : MS m' S n := by
  unfold MS
  rw [f.ga g.1, f.gs g.2.1, f.gs g.2.2]
  exact h
theorem MO.fr {P : Nat → Nat → Prop} {m' : ST} {E : List Int32} (h : MO m t E) (f : fr P m m') (g : ¬ P 50 7 ∧ ¬ P 50 9 ∧ ¬ P 50 26) : MO m' t E := by
  unfold MO
  rw [f.ga g.1, f.gs g.2.1, f.gs g.2.2]
  exact h
theorem pNx_s : ¬ pNx 50 23 ∧ ¬ pNx 50 24 ∧ ¬ pNx 50 25 := by unfold pNx; decide
theorem pNx_o : ¬ pNx 50 7 ∧ ¬ pNx 50 9 ∧ ¬ pNx 50 26 := by unfold pNx; decide
theorem pSk_o : ¬ pSk 50 7 ∧ ¬ pSk 50 9 ∧ ¬ pSk 50 26 := by unfold pSk; decide
theorem pOu_s : ¬ pOu 50 23 ∧ ¬ pOu 50 24 ∧ ¬ pOu 50 25 := by unfold pOu; decide
theorem m_puts {E : List Int32} (h : MO m t E) (hl : E.length < 170) (x : Int32) : ∃ m', f_X5_puts x m = some ((), m') ∧ MO m' t (E ++ [x]) ∧ fr pOu m m' ∧ FM t m m' := by
  have ht := h.2.1
  have e1 : (200 : Int32) * nI t + nI E.length = nI (200 * t + E.length) := by
    show nI 200 * nI t + nI E.length = _
    rw [nI_mul, nI_add]
  unfold f_X5_puts
  rw [h.1, h.2.2.1, e1, ast_nI (by omega) (by omega), put_eq, gs_pa, h.2.2.1, nI_1]
  have f := (fr_pa (P := pOu) ⟨rfl, Or.inl rfl⟩ (upd (ga 50 7 m) (200 * t + E.length) x) m).trans (fr_ps (P := pOu) ⟨rfl, Or.inr rfl⟩ (nI (E.length + 1)) _)
  refine ⟨_, rfl, ⟨?_, ht, ?_, ?_, fun i hi => ?_⟩, f, f.mono pOu_x, fun j hj => ?_⟩
  · rw [gs_ps, if_neg (by decide), gs_pa]; exact h.1
  · rw [gs_ps, if_pos ⟨rfl, rfl⟩, List.length_append, List.length_singleton]
  · rw [List.length_append, List.length_singleton]; omega
  · rw [List.length_append, List.length_singleton] at hi
    rw [ga_ps, ga_pa, if_pos ⟨rfl, rfl⟩, upd_at, getD_snoc E x i hi]
    by_cases e : i = E.length
    · rw [if_pos e, if_pos (by rw [e])]
    · rw [if_neg e, if_neg (by omega)]; exact h.2.2.2.2 i (by omega)
  · rw [ga_ps, ga_pa, if_pos ⟨rfl, rfl⟩, upd_ne _ _ (by omega)]
theorem m_holds {S : List Int32} {n : Nat} (h : MS m S n) (hl : S.length < 170) (x : Int32) : ∃ m', f_X5_holds x m = some ((), m') ∧ MS m' (x :: S) n ∧ fr pSk m m' := by
  unfold f_X5_holds
  rw [h.1, ast_nI (by omega) (by omega), put_eq, gs_pa, h.1, nI_1]
  refine ⟨_, rfl, ⟨?_, ?_, ⟨?_, ?_⟩, ?_, h.2.2.2.2⟩, (fr_pa (P := pSk) ⟨rfl, (by decide)⟩ _ _).trans (fr_ps (P := pSk) ⟨rfl, (by decide)⟩ _ _)⟩
  · rw [gs_ps, if_pos ⟨rfl, rfl⟩, List.length_cons]
  · rw [List.length_cons]; omega
  · rw [ga_ps, ga_pa, if_pos ⟨rfl, rfl⟩, upd_eq]
  · rw [ga_ps, ga_pa, if_pos ⟨rfl, rfl⟩]; exact stk_upd _ _ _ _ (Nat.le_refl _) h.2.2.1
  · rw [gs_ps, if_neg (by decide), gs_pa]; exact h.2.2.2.1
theorem m_opensOne {S : List Int32} {v : Nat} (h : MS m S v) (hl : S.length < 170) (hv : v < 5) (x : Int32) : ∃ m', f_X5_opensOne x m = some (1, m') ∧ MS m' (x :: S) (v + 1) ∧ fr pSk m m' := by
  unfold f_X5_opensOne
  rw [h.2.2.2.1, if_neg (fun g => by have := (nI_eq (a := v) (b := 5) (by omega) (by omega)).mp g; omega), put_eq, nI_1]
  have f := fr_ps (P := pSk) (o := 50) (k := 25) ⟨rfl, (by decide)⟩ (nI (v + 1)) m
  have h1 : MS (ps 50 25 (nI (v + 1)) m) S (v + 1) := ⟨by rw [gs_ps, if_neg (by decide)]; exact h.1, h.2.1, by rw [ga_ps]; exact h.2.2.1, by rw [gs_ps, if_pos ⟨rfl, rfl⟩], (by omega)⟩
  obtain ⟨m', e, h2, f2⟩ := m_holds h1 hl x
  rw [e, bnd_some]
  exact ⟨m', rfl, h2, f.trans f2⟩
theorem m_opensOne5 {S : List Int32} (h : MS m S 5) (x : Int32) : f_X5_opensOne x m = some (0, m) := by
  unfold f_X5_opensOne
  rw [h.2.2.2.1, if_pos (c := nI 5 = (5 : Int32)) rfl]
  rfl
def topLt : List Int32 → Nat → Prop
  | [], _ => True
  | x :: _, k => rk x < k
theorem topLt_le {H : List Int32} {k l : Nat} (h : topLt H k) (hk : k ≤ l) : topLt H l := by
  cases H with
  | nil => trivial
  | cons x H => exact Nat.lt_of_lt_of_le h hk
/-- all that bind at least so come -/
theorem m_unw_L {k : Nat} (hk : 1 ≤ k) (hk7 : k ≤ 7) {H : List Int32} (hH : topLt H k) : ∀ (R : List Int32) (q : Nat) (m : ST) (E : List Int32), (∀ x, x ∈ R → k ≤ rk x) → MS m (R ++ H) (nop (R ++ H)) → MO m t E → E.length + R.length ≤ 169 → R.length < q → ∃ m', f_X5_unwinds_L0 q (nI k) m = some ((), m') ∧ MS m' H (nop H) ∧ MO m' t (E ++ R) ∧ FM t m m' ∧ fr (fun o k => o = 50 ∧ (k = 7 ∨ k = 24 ∨ k = 25 ∨ k = 26)) m m' := by
  intro R
  induction R with
  | nil =>
    intro q m E _ hS hE hl hq
    obtain ⟨q, rfl⟩ : ∃ z, q = z + 1 := ⟨q - 1, (by omega)⟩
    rw [f_X5_unwinds_L0, List.append_nil]
    rw [List.nil_append] at hS
    unfold f_X5_unwinds_L79
    cases H with
    | nil =>
      rw [hS.1, if_pos (by decide)]
      exact ⟨m, rfl, hS, hE, FM.refl m, fr.refl m⟩
    | cons x H =>
      have hl2 := hS.2.1
      rw [List.length_cons] at hl2
      rw [hS.1, List.length_cons, if_neg (nI_nle (by omega) (by omega)), nI_pred, ald_nI (by omega) (by omega), hS.2.2.1.1, m_rank, bnd_some, if_pos (nI_lt hH (by omega))]
      exact ⟨m, rfl, hS, hE, FM.refl m, fr.refl m⟩
  | cons x R ih =>
    intro q m E hR hS hE hl hq
    obtain ⟨q, rfl⟩ : ∃ z, q = z + 1 := ⟨q - 1, (by omega)⟩
    have hl2 := hS.2.1
    rw [List.cons_append, List.length_cons] at hl2
    rw [List.length_cons] at hl hq
    have hx := hR x (List.mem_cons_self ..)
    have hx7 := rk_le x
    have hx0 : ¬ x = 0 := fun e => by rw [e] at hx; have : rk 0 = 0 := rfl; omega
    have top : ga 50 23 m (R ++ H).length = x := hS.2.2.1.1
    have h24 : gs 50 24 m = nI ((R ++ H).length + 1) := hS.1
    have g25 : ∀ y, gs 50 25 (ps 50 24 y m) = nI (nop (x :: (R ++ H))) := fun y => by
      rw [gs_ps, if_neg (by decide)]
      exact hS.2.2.2.1
    rw [f_X5_unwinds_L0, h24, if_neg (nI_nle (by omega) (by omega)), nI_pred, ald_nI (by omega) (by omega), top, m_rank, bnd_some, if_neg (nI_nlt hx (by omega)), put_eq, gs_ps, if_pos ⟨rfl, rfl⟩, ga_ps, h24, nI_pred, ald_nI (by omega) (by omega), top, g25]
    unfold f_X5_unwinds_L62 f_X5_unwinds_L67
    have go : ∀ y : Int32, nI (nop (x :: (R ++ H))) - y = nI (nop (R ++ H)) → ∃ m', put 50 25 (nI (nop (x :: (R ++ H))) - y) (ps 50 24 (nI (R ++ H).length) m) (fun t68 => bnd (f_X5_puts x t68) (fun _ t73 => f_X5_unwinds_L0 q (nI k) t73)) = some ((), m') ∧ MS m' H (nop H) ∧ MO m' t (E ++ x :: R) ∧ FM t m m' ∧ fr (fun o k => o = 50 ∧ (k = 7 ∨ k = 24 ∨ k = 25 ∨ k = 26)) m m' := by
      intro y hy
      rw [put_eq, hy]
      have f1 := (fr_ps (P := pSk) (o := 50) (k := 24) ⟨rfl, (by decide)⟩ (nI (R ++ H).length) m).trans (fr_ps (P := pSk) (o := 50) (k := 25) ⟨rfl, (by decide)⟩ (nI (nop (R ++ H))) _)
      have g1 := (fr_ps (P := fun o k => o = 50 ∧ (k = 7 ∨ k = 24 ∨ k = 25 ∨ k = 26)) (o := 50) (k := 24) ⟨rfl, (by decide)⟩ (nI (R ++ H).length) m).trans (fr_ps (P := fun o k => o = 50 ∧ (k = 7 ∨ k = 24 ∨ k = 25 ∨ k = 26)) (o := 50) (k := 25) ⟨rfl, (by decide)⟩ (nI (nop (R ++ H))) _)
      have nl := nop_len (R ++ H)
      have hS1 : MS (ps 50 25 (nI (nop (R ++ H))) (ps 50 24 (nI (R ++ H).length) m)) (R ++ H) (nop (R ++ H)) := ⟨by rw [gs_ps, if_neg (by decide), gs_ps, if_pos ⟨rfl, rfl⟩], (by omega), by rw [ga_ps, ga_ps]; exact hS.2.2.1.2, by rw [gs_ps, if_pos ⟨rfl, rfl⟩], (by omega)⟩
      obtain ⟨m2, e2, hE2, f2, F2⟩ := m_puts (hE.fr f1 pSk_o) (by omega) x
      rw [e2, bnd_some]
      obtain ⟨m', g1', g2, g3, g4, g5⟩ := ih q m2 (E ++ [x]) (fun y hy => hR y (List.mem_cons_of_mem _ hy)) (hS1.fr f2 pOu_s) hE2 (by rw [List.length_append, List.length_singleton]; omega) (by omega)
      rw [List.append_assoc] at g3
      exact ⟨m', g1', g2, g3, ((FM.sk f1).trans F2).trans g4, (g1.trans (f2.mono (fun o k q => ⟨q.1, by have := q.2; omega⟩))).trans g5⟩
    have hn : nop (x :: (R ++ H)) = opn x + nop (R ++ H) := rfl
    rw [hn] at go ⊢
    by_cases h13 : x = 13
    · rw [if_pos h13]
      have e1 : opn x = 1 := by rw [h13]; rfl
      rw [e1] at go ⊢
      exact go 1 (by rw [Nat.add_comm, nI_pred])
    · rw [if_neg h13]
      by_cases h19 : x = 19
      · rw [if_pos h19]
        have e1 : opn x = 1 := by rw [h19]; rfl
        rw [e1] at go ⊢
        exact go 1 (by rw [Nat.add_comm, nI_pred])
      · rw [if_neg h19]
        have e1 : opn x = 0 := by unfold opn; rw [if_neg h13, if_neg h19, if_neg hx0]
        rw [e1, Nat.zero_add] at go ⊢
        exact go 0 (Int32.sub_zero _)
theorem m_unw {k : Nat} (hk : 1 ≤ k) (hk7 : k ≤ 7) {H R E : List Int32} (hH : topLt H k) (hR : ∀ x, x ∈ R → k ≤ rk x) (hS : MS m (R ++ H) (nop (R ++ H))) (hE : MO m t E) (hl : E.length + R.length ≤ 169) : ∃ m', f_X5_unwinds (nI k) m = some ((), m') ∧ MS m' H (nop H) ∧ MO m' t (E ++ R) ∧ FM t m m' ∧ fr (fun o k => o = 50 ∧ (k = 7 ∨ k = 24 ∨ k = 25 ∨ k = 26)) m m' := m_unw_L hk hk7 hH R 1000 m E hR hS hE hl (by omega)
def cv (s : Int32) : Int32 := if 0 ≤ s then 100000 + s else if -6 ≤ s then -1 - s else if s = -7 then 19 else if s = -8 then 13 else if s = -9 then 11 else if s = -10 then 12 else if s = -11 then 14 else if s = -12 then 15 else if s = -13 then 16 else if s = -14 then 17 else 18
/-- the ranks that wait behind a reading of a level, and below it -/
def prW (w : Nat) : Nat := if w = 0 then 1 else if w = 1 then 2 else if w = 2 then 3 else if w = 3 then 5 else if w = 4 then 6 else 7
def bdW (w : Nat) : Nat := if w = 0 then 1 else if w = 1 then 2 else if w = 2 then 4 else if w = 3 then 5 else if w = 4 then 6 else 7
def top4 (pend : List Int32) : Prop := ∃ p1 x p2, pend = p1 ++ x :: p2 ∧ rk x = 4 ∧ ∀ y, y ∈ p1 → 5 ≤ rk y
theorem top4_app {p : List Int32} (h : top4 p) (r : List Int32) : top4 (p ++ r) := by
  obtain ⟨p1, x, p2, e, h1, h2⟩ := h
  exact ⟨p1, x, p2 ++ r, by rw [e, List.append_assoc, List.cons_append], h1, h2⟩
/-- the loop's state: where, the stack, what came -/
def MR (m : ST) (B : Nat → Int32) (z t a : Nat) (S E : List Int32) : Prop := MB m B z ∧ gs 50 18 m = nI a ∧ MS m S (nop S) ∧ MO m t E ∧ E.length + S.length ≤ a ∧ a ≤ z
theorem MR.next {S E : List Int32} (h : MR m B z t a S E) : ∃ m1, f_X5_next m = some ((), m1) ∧ MCur m1 B z a ∧ MB m1 B z ∧ MS m1 S (nop S) ∧ MO m1 t E ∧ FM t m m1 := by
  obtain ⟨m1, e1, k1, f1⟩ := m_next h.1 h.2.1 h.2.2.2.2.2
  exact ⟨m1, e1, k1, h.1.fr f1 pNx_n, h.2.2.1.fr f1 pNx_s, h.2.2.2.1.fr f1 pNx_o, FM.nx f1⟩
theorem FM.mb {m' : ST} (h : MB m B z) (f : FM t m m') : MB m' B z := h.fr f.1 pMx_n
end PMParse
