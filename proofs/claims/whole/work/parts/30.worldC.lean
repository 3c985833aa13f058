/-! THE CLASS'S WORLD: objects 0 the set, 1 the tape, 2 3 4 now, thought, kept, 5 .. 8 the sheets; the texts by their table; the String constants, the words on nest mates -/
def gT (G : JG) : TX := G.2.2.2.2.2.1
def gK (G : JG) (i : Nat) : Nat := G.2.2.2.2.2.2.1 i
def gV (G : JG) (i : Nat) : Nat := G.2.2.2.2.2.2.2 i
abbrev gX (G : JG) : ClassId := G.2.2.1.2.1
abbrev gH (G : JG) : ClassId := G.2.2.1.2.2
def tN (T : TX) : Nat := T.1
def tO (T : TX) (t : Nat) : Nat := (T.2 t).1.1
def tC (T : TX) (t : Nat) : Nat := (T.2 t).1.2.1
def tE (T : TX) (t : Nat) : Nat := (T.2 t).1.2.2.1
def tL (T : TX) (t : Nat) : Nat := (T.2 t).1.2.2.2
def tCode (T : TX) (t : Nat) : Nat → Int32 := (T.2 t).2.1
def tEnds (T : TX) (t : Nat) : Nat → Int32 := (T.2 t).2.2
abbrev isCo (o : Nat) : Prop := o = 2 ∨ o = 3 ∨ o = 4
abbrev isSh (o : Nat) : Prop := o = 5 ∨ o = 6 ∨ o = 7 ∨ o = 8
def mnF (G : JG) (σ : ST) : List Value := [.ref (gA G 0 0), .int (gs 0 1 σ), .ref (gO G 1), .ref (gO G 2), .ref (gO G 3), .ref (gO G 4), .int (gs 0 6 σ), .ref (gA G 0 7), .ref (gA G 0 8)]
def tpF (G : JG) (σ : ST) : List Value := [.ref (gA G 1 0), .int (gs 1 1 σ), .int (gs 1 2 σ), .int (gs 1 3 σ), .int (gs 1 4 σ), .int (gs 1 5 σ), .ref (gA G 1 6), .int (gs 1 7 σ), .ref (gA G 1 8)]
def coF (G : JG) (o : Nat) (σ : ST) : List Value := [.ref (gA G 0 0), .ref (gA G 2 1), .ref (gA G o 2), .ref (gA G o 3), .ref (gA G o 4), .ref (gA G o 5), .ref (gA G o 6), .ref (gA G o 7), .ref (gA G o 8), .int (gs o 9 σ), .int (gs o 10 σ), .int (gs o 11 σ)]
def shF (G : JG) (o : Nat) (σ : ST) : List Value := [.ref (gA G o 0), .int (gs o 1 σ), .int (gs o 2 σ)]
def txF (T : TX) (t : Nat) : List Value := [.ref (tC T t), .ref (tE T t)]
def wC0 (G : JG) (σ : ST) : va_W := [(gO G 0, .inr (4, mnF G σ)), (gA G 0 0, .inl (gX G, 6, .inr (.inr (.inr (.inr (fun t => if t < tN (gT G) then some (tO (gT G) t) else none)))))), (gA G 0 7, .inl (gH G, 4, .inr (.inr (.inr (.inr (fun i => some (gO G (5 + i)))))))), (gA G 0 8, .inl (gI G, 61, .inl (ga 0 8 σ))), (gA G 2 1, .inl (gI G, 160, .inl (ga 2 1 σ))), (gO G 1, .inr (2, tpF G σ)), (gA G 1 0, .inl (gI G, 160, .inl (ga 1 0 σ))), (gA G 1 6, .inl (gI G, 160, .inl (ga 1 6 σ))), (gA G 1 8, .inl (gI G, 3, .inl (ga 1 8 σ))), (gO G 2, .inr (0, coF G 2 σ)), (gA G 2 2, .inl (gI G, 6, .inl (ga 2 2 σ))), (gA G 2 3, .inl (gI G, 6, .inl (ga 2 3 σ))), (gA G 2 4, .inl (gI G, 6, .inl (ga 2 4 σ))), (gA G 2 5, .inl (gI G, 6, .inl (ga 2 5 σ))), (gA G 2 6, .inl (gI G, 6, .inl (ga 2 6 σ))), (gA G 2 7, .inl (gI G, 6, .inl (ga 2 7 σ))), (gA G 2 8, .inl (gI G, 48, .inl (ga 2 8 σ))), (gO G 3, .inr (0, coF G 3 σ)), (gA G 3 2, .inl (gI G, 6, .inl (ga 3 2 σ))), (gA G 3 3, .inl (gI G, 6, .inl (ga 3 3 σ))), (gA G 3 4, .inl (gI G, 6, .inl (ga 3 4 σ))), (gA G 3 5, .inl (gI G, 6, .inl (ga 3 5 σ))), (gA G 3 6, .inl (gI G, 6, .inl (ga 3 6 σ))), (gA G 3 7, .inl (gI G, 6, .inl (ga 3 7 σ))), (gA G 3 8, .inl (gI G, 48, .inl (ga 3 8 σ))), (gO G 4, .inr (0, coF G 4 σ)), (gA G 4 2, .inl (gI G, 6, .inl (ga 4 2 σ))), (gA G 4 3, .inl (gI G, 6, .inl (ga 4 3 σ))), (gA G 4 4, .inl (gI G, 6, .inl (ga 4 4 σ))), (gA G 4 5, .inl (gI G, 6, .inl (ga 4 5 σ))), (gA G 4 6, .inl (gI G, 6, .inl (ga 4 6 σ))), (gA G 4 7, .inl (gI G, 6, .inl (ga 4 7 σ))), (gA G 4 8, .inl (gI G, 48, .inl (ga 4 8 σ))), (gO G 5, .inr (1, shF G 5 σ)), (gA G 5 0, .inl (gI G, 40, .inl (ga 5 0 σ))), (gO G 6, .inr (1, shF G 6 σ)), (gA G 6 0, .inl (gI G, 40, .inl (ga 6 0 σ))), (gO G 7, .inr (1, shF G 7 σ)), (gA G 7 0, .inl (gI G, 40, .inl (ga 7 0 σ))), (gO G 8, .inr (1, shF G 8 σ)), (gA G 8 0, .inl (gI G, 40, .inl (ga 8 0 σ)))]
def wT (I : ClassId) (T : TX) : Nat → va_W
  | 0 => []
  | t + 1 => wT I T t ++ [(tO T t, .inr (3, txF T t)), (tC T t, .inl (I, tL T t, .inl (tCode T t))), (tE T t, .inl (I, 3, .inl (tEnds T t)))]
def wC (G : JG) (σ : ST) : va_W := wC0 G σ ++ wT (gI G) (gT G) (tN (gT G))
theorem wT_len (I : ClassId) (T : TX) : ∀ n, (wT I T n).length = 3 * n := by
  intro n
  induction n with
  | zero => rfl
  | succ n ih => rw [wT, List.length_append, ih]; simp; omega
theorem wT_get (I : ClassId) (T : TX) (j : Nat) (hj : j < 3) : ∀ n t, t < n → (wT I T n)[3 * t + j]? = [(tO T t, .inr (3, txF T t)), (tC T t, .inl (I, tL T t, .inl (tCode T t))), (tE T t, .inl (I, 3, .inl (tEnds T t)))][j]? := by
  intro n
  induction n with
  | zero => intro t h; exact absurd h (Nat.not_lt_zero _)
  | succ n ih =>
    intro t h
    rw [wT]
    by_cases ht : t < n
    · rw [List.getElem?_append_left (by rw [wT_len]; omega)]
      exact ih t ht
    · have e : t = n := by omega
      subst e
      rw [List.getElem?_append_right (by rw [wT_len]; omega), wT_len]
      congr 1
      omega
theorem wC_get {G : JG} {σ : ST} {q : Nat} {x : Nat × va_E} (hq : q < 41) (h : (wC0 G σ)[q]? = some x) : (wC G σ)[q]? = some x := by
  unfold wC
  rw [List.getElem?_append_left (by exact hq)]
  exact h
theorem wC_set {G : JG} {σ σ1 : ST} {q : Nat} {x : Nat × va_E} (hq : q < 41) (h : (wC0 G σ).set q x = wC0 G σ1) : (wC G σ).set q x = wC G σ1 := by
  unfold wC
  rw [List.set_append_left _ _ (by exact hq), h]
theorem cO_tx (G : JG) (σ : ST) {t : Nat} (ht : t < tN (gT G)) : (wC G σ)[41 + (3 * t + 0)]? = some (tO (gT G) t, .inr (3, txF (gT G) t)) := by
  unfold wC
  rw [List.getElem?_append_right (by show 41 ≤ _; omega)]
  show (wT _ _ _)[41 + (3 * t + 0) - 41]? = _
  rw [Nat.add_sub_cancel_left, wT_get _ _ 0 (by decide) _ _ ht]; rfl
theorem cA_tc (G : JG) (σ : ST) {t : Nat} (ht : t < tN (gT G)) : (wC G σ)[41 + (3 * t + 1)]? = some (tC (gT G) t, .inl (gI G, tL (gT G) t, .inl (tCode (gT G) t))) := by
  unfold wC
  rw [List.getElem?_append_right (by show 41 ≤ _; omega)]
  show (wT _ _ _)[41 + (3 * t + 1) - 41]? = _
  rw [Nat.add_sub_cancel_left, wT_get _ _ 1 (by decide) _ _ ht]; rfl
theorem cA_te (G : JG) (σ : ST) {t : Nat} (ht : t < tN (gT G)) : (wC G σ)[41 + (3 * t + 2)]? = some (tE (gT G) t, .inl (gI G, 3, .inl (tEnds (gT G) t))) := by
  unfold wC
  rw [List.getElem?_append_right (by show 41 ≤ _; omega)]
  show (wT _ _ _)[41 + (3 * t + 2) - 41]? = _
  rw [Nat.add_sub_cancel_left, wT_get _ _ 2 (by decide) _ _ ht]; rfl
theorem cO_0 (G : JG) (σ : ST) : (wC G σ)[0]? = some (gO G 0, .inr (4, mnF G σ)) := wC_get (by decide) rfl
theorem cO_1 (G : JG) (σ : ST) : (wC G σ)[5]? = some (gO G 1, .inr (2, tpF G σ)) := wC_get (by decide) rfl
theorem cO_co (G : JG) (σ : ST) {o : Nat} (ho : isCo o) : (wC G σ)[9 + 8 * (o - 2)]? = some (gO G o, .inr (0, coF G o σ)) := wC_get (by rcases ho with rfl | rfl | rfl <;> decide) (by rcases ho with rfl | rfl | rfl <;> rfl)
theorem cO_sh (G : JG) (σ : ST) {o : Nat} (ho : isSh o) : (wC G σ)[33 + 2 * (o - 5)]? = some (gO G o, .inr (1, shF G o σ)) := wC_get (by rcases ho with rfl | rfl | rfl | rfl <;> decide) (by rcases ho with rfl | rfl | rfl | rfl <;> rfl)
theorem cR_tx (G : JG) (σ : ST) : (wC G σ)[1]? = some (gA G 0 0, .inl (gX G, 6, .inr (.inr (.inr (.inr (fun t => if t < tN (gT G) then some (tO (gT G) t) else none)))))) := wC_get (by decide) rfl
theorem cR_sh (G : JG) (σ : ST) : (wC G σ)[2]? = some (gA G 0 7, .inl (gH G, 4, .inr (.inr (.inr (.inr (fun i => some (gO G (5 + i)))))))) := wC_get (by decide) rfl
theorem cA_0_8 (G : JG) (σ : ST) : (wC G σ)[3]? = some (gA G 0 8, .inl (gI G, 61, .inl (ga 0 8 σ))) := wC_get (by decide) rfl
theorem cS_0_8 (G : JG) (σ : ST) : ∀ f : Nat → Int32, (wC G σ).set 3 (gA G 0 8, .inl (gI G, 61, .inl f)) = wC G (pa 0 8 f σ) := fun _ => wC_set (by decide) rfl
theorem cA_2_1 (G : JG) (σ : ST) : (wC G σ)[4]? = some (gA G 2 1, .inl (gI G, 160, .inl (ga 2 1 σ))) := wC_get (by decide) rfl
theorem cS_2_1 (G : JG) (σ : ST) : ∀ f : Nat → Int32, (wC G σ).set 4 (gA G 2 1, .inl (gI G, 160, .inl f)) = wC G (pa 2 1 f σ) := fun _ => wC_set (by decide) rfl
theorem cA_1_0 (G : JG) (σ : ST) : (wC G σ)[6]? = some (gA G 1 0, .inl (gI G, 160, .inl (ga 1 0 σ))) := wC_get (by decide) rfl
theorem cS_1_0 (G : JG) (σ : ST) : ∀ f : Nat → Int32, (wC G σ).set 6 (gA G 1 0, .inl (gI G, 160, .inl f)) = wC G (pa 1 0 f σ) := fun _ => wC_set (by decide) rfl
theorem cA_1_6 (G : JG) (σ : ST) : (wC G σ)[7]? = some (gA G 1 6, .inl (gI G, 160, .inl (ga 1 6 σ))) := wC_get (by decide) rfl
theorem cS_1_6 (G : JG) (σ : ST) : ∀ f : Nat → Int32, (wC G σ).set 7 (gA G 1 6, .inl (gI G, 160, .inl f)) = wC G (pa 1 6 f σ) := fun _ => wC_set (by decide) rfl
theorem cA_1_8 (G : JG) (σ : ST) : (wC G σ)[8]? = some (gA G 1 8, .inl (gI G, 3, .inl (ga 1 8 σ))) := wC_get (by decide) rfl
theorem cS_1_8 (G : JG) (σ : ST) : ∀ f : Nat → Int32, (wC G σ).set 8 (gA G 1 8, .inl (gI G, 3, .inl f)) = wC G (pa 1 8 f σ) := fun _ => wC_set (by decide) rfl
theorem cA_co_2 (G : JG) (σ : ST) {o : Nat} (ho : isCo o) : (wC G σ)[10 + 8 * (o - 2)]? = some (gA G o 2, .inl (gI G, 6, .inl (ga o 2 σ))) := wC_get (by rcases ho with rfl | rfl | rfl <;> decide) (by rcases ho with rfl | rfl | rfl <;> rfl)
theorem cS_co_2 (G : JG) (σ : ST) {o : Nat} (ho : isCo o) : ∀ f : Nat → Int32, (wC G σ).set (10 + 8 * (o - 2)) (gA G o 2, .inl (gI G, 6, .inl f)) = wC G (pa o 2 f σ) := fun _ => wC_set (by rcases ho with rfl | rfl | rfl <;> decide) (by rcases ho with rfl | rfl | rfl <;> rfl)
theorem cA_co_3 (G : JG) (σ : ST) {o : Nat} (ho : isCo o) : (wC G σ)[11 + 8 * (o - 2)]? = some (gA G o 3, .inl (gI G, 6, .inl (ga o 3 σ))) := wC_get (by rcases ho with rfl | rfl | rfl <;> decide) (by rcases ho with rfl | rfl | rfl <;> rfl)
theorem cS_co_3 (G : JG) (σ : ST) {o : Nat} (ho : isCo o) : ∀ f : Nat → Int32, (wC G σ).set (11 + 8 * (o - 2)) (gA G o 3, .inl (gI G, 6, .inl f)) = wC G (pa o 3 f σ) := fun _ => wC_set (by rcases ho with rfl | rfl | rfl <;> decide) (by rcases ho with rfl | rfl | rfl <;> rfl)
theorem cA_co_4 (G : JG) (σ : ST) {o : Nat} (ho : isCo o) : (wC G σ)[12 + 8 * (o - 2)]? = some (gA G o 4, .inl (gI G, 6, .inl (ga o 4 σ))) := wC_get (by rcases ho with rfl | rfl | rfl <;> decide) (by rcases ho with rfl | rfl | rfl <;> rfl)
theorem cS_co_4 (G : JG) (σ : ST) {o : Nat} (ho : isCo o) : ∀ f : Nat → Int32, (wC G σ).set (12 + 8 * (o - 2)) (gA G o 4, .inl (gI G, 6, .inl f)) = wC G (pa o 4 f σ) := fun _ => wC_set (by rcases ho with rfl | rfl | rfl <;> decide) (by rcases ho with rfl | rfl | rfl <;> rfl)
theorem cA_co_5 (G : JG) (σ : ST) {o : Nat} (ho : isCo o) : (wC G σ)[13 + 8 * (o - 2)]? = some (gA G o 5, .inl (gI G, 6, .inl (ga o 5 σ))) := wC_get (by rcases ho with rfl | rfl | rfl <;> decide) (by rcases ho with rfl | rfl | rfl <;> rfl)
theorem cS_co_5 (G : JG) (σ : ST) {o : Nat} (ho : isCo o) : ∀ f : Nat → Int32, (wC G σ).set (13 + 8 * (o - 2)) (gA G o 5, .inl (gI G, 6, .inl f)) = wC G (pa o 5 f σ) := fun _ => wC_set (by rcases ho with rfl | rfl | rfl <;> decide) (by rcases ho with rfl | rfl | rfl <;> rfl)
theorem cA_co_6 (G : JG) (σ : ST) {o : Nat} (ho : isCo o) : (wC G σ)[14 + 8 * (o - 2)]? = some (gA G o 6, .inl (gI G, 6, .inl (ga o 6 σ))) := wC_get (by rcases ho with rfl | rfl | rfl <;> decide) (by rcases ho with rfl | rfl | rfl <;> rfl)
theorem cS_co_6 (G : JG) (σ : ST) {o : Nat} (ho : isCo o) : ∀ f : Nat → Int32, (wC G σ).set (14 + 8 * (o - 2)) (gA G o 6, .inl (gI G, 6, .inl f)) = wC G (pa o 6 f σ) := fun _ => wC_set (by rcases ho with rfl | rfl | rfl <;> decide) (by rcases ho with rfl | rfl | rfl <;> rfl)
theorem cA_co_7 (G : JG) (σ : ST) {o : Nat} (ho : isCo o) : (wC G σ)[15 + 8 * (o - 2)]? = some (gA G o 7, .inl (gI G, 6, .inl (ga o 7 σ))) := wC_get (by rcases ho with rfl | rfl | rfl <;> decide) (by rcases ho with rfl | rfl | rfl <;> rfl)
theorem cS_co_7 (G : JG) (σ : ST) {o : Nat} (ho : isCo o) : ∀ f : Nat → Int32, (wC G σ).set (15 + 8 * (o - 2)) (gA G o 7, .inl (gI G, 6, .inl f)) = wC G (pa o 7 f σ) := fun _ => wC_set (by rcases ho with rfl | rfl | rfl <;> decide) (by rcases ho with rfl | rfl | rfl <;> rfl)
theorem cA_co_8 (G : JG) (σ : ST) {o : Nat} (ho : isCo o) : (wC G σ)[16 + 8 * (o - 2)]? = some (gA G o 8, .inl (gI G, 48, .inl (ga o 8 σ))) := wC_get (by rcases ho with rfl | rfl | rfl <;> decide) (by rcases ho with rfl | rfl | rfl <;> rfl)
theorem cS_co_8 (G : JG) (σ : ST) {o : Nat} (ho : isCo o) : ∀ f : Nat → Int32, (wC G σ).set (16 + 8 * (o - 2)) (gA G o 8, .inl (gI G, 48, .inl f)) = wC G (pa o 8 f σ) := fun _ => wC_set (by rcases ho with rfl | rfl | rfl <;> decide) (by rcases ho with rfl | rfl | rfl <;> rfl)
theorem cA_sh_0 (G : JG) (σ : ST) {o : Nat} (ho : isSh o) : (wC G σ)[34 + 2 * (o - 5)]? = some (gA G o 0, .inl (gI G, 40, .inl (ga o 0 σ))) := wC_get (by rcases ho with rfl | rfl | rfl | rfl <;> decide) (by rcases ho with rfl | rfl | rfl | rfl <;> rfl)
theorem cS_sh_0 (G : JG) (σ : ST) {o : Nat} (ho : isSh o) : ∀ f : Nat → Int32, (wC G σ).set (34 + 2 * (o - 5)) (gA G o 0, .inl (gI G, 40, .inl f)) = wC G (pa o 0 f σ) := fun _ => wC_set (by rcases ho with rfl | rfl | rfl | rfl <;> decide) (by rcases ho with rfl | rfl | rfl | rfl <;> rfl)
theorem cF_0_1 (G : JG) (v : Int32) (σ : ST) : (wC G σ).set 0 (gO G 0, .inr (4, (mnF G σ).set 1 (.int v))) = wC G (ps 0 1 v σ) := wC_set (by decide) rfl
theorem cF_0_6 (G : JG) (v : Int32) (σ : ST) : (wC G σ).set 0 (gO G 0, .inr (4, (mnF G σ).set 6 (.int v))) = wC G (ps 0 6 v σ) := wC_set (by decide) rfl
theorem cF_1_1 (G : JG) (v : Int32) (σ : ST) : (wC G σ).set 5 (gO G 1, .inr (2, (tpF G σ).set 1 (.int v))) = wC G (ps 1 1 v σ) := wC_set (by decide) rfl
theorem cF_1_2 (G : JG) (v : Int32) (σ : ST) : (wC G σ).set 5 (gO G 1, .inr (2, (tpF G σ).set 2 (.int v))) = wC G (ps 1 2 v σ) := wC_set (by decide) rfl
theorem cF_1_3 (G : JG) (v : Int32) (σ : ST) : (wC G σ).set 5 (gO G 1, .inr (2, (tpF G σ).set 3 (.int v))) = wC G (ps 1 3 v σ) := wC_set (by decide) rfl
theorem cF_1_4 (G : JG) (v : Int32) (σ : ST) : (wC G σ).set 5 (gO G 1, .inr (2, (tpF G σ).set 4 (.int v))) = wC G (ps 1 4 v σ) := wC_set (by decide) rfl
theorem cF_1_5 (G : JG) (v : Int32) (σ : ST) : (wC G σ).set 5 (gO G 1, .inr (2, (tpF G σ).set 5 (.int v))) = wC G (ps 1 5 v σ) := wC_set (by decide) rfl
theorem cF_1_7 (G : JG) (v : Int32) (σ : ST) : (wC G σ).set 5 (gO G 1, .inr (2, (tpF G σ).set 7 (.int v))) = wC G (ps 1 7 v σ) := wC_set (by decide) rfl
theorem cF_co_9 (G : JG) (v : Int32) (σ : ST) {o : Nat} (ho : isCo o) : (wC G σ).set (9 + 8 * (o - 2)) (gO G o, .inr (0, (coF G o σ).set 9 (.int v))) = wC G (ps o 9 v σ) := wC_set (by rcases ho with rfl | rfl | rfl <;> decide) (by rcases ho with rfl | rfl | rfl <;> rfl)
theorem cF_co_10 (G : JG) (v : Int32) (σ : ST) {o : Nat} (ho : isCo o) : (wC G σ).set (9 + 8 * (o - 2)) (gO G o, .inr (0, (coF G o σ).set 10 (.int v))) = wC G (ps o 10 v σ) := wC_set (by rcases ho with rfl | rfl | rfl <;> decide) (by rcases ho with rfl | rfl | rfl <;> rfl)
theorem cF_co_11 (G : JG) (v : Int32) (σ : ST) {o : Nat} (ho : isCo o) : (wC G σ).set (9 + 8 * (o - 2)) (gO G o, .inr (0, (coF G o σ).set 11 (.int v))) = wC G (ps o 11 v σ) := wC_set (by rcases ho with rfl | rfl | rfl <;> decide) (by rcases ho with rfl | rfl | rfl <;> rfl)
theorem cF_sh_1 (G : JG) (v : Int32) (σ : ST) {o : Nat} (ho : isSh o) : (wC G σ).set (33 + 2 * (o - 5)) (gO G o, .inr (1, (shF G o σ).set 1 (.int v))) = wC G (ps o 1 v σ) := wC_set (by rcases ho with rfl | rfl | rfl | rfl <;> decide) (by rcases ho with rfl | rfl | rfl | rfl <;> rfl)
theorem cF_sh_2 (G : JG) (v : Int32) (σ : ST) {o : Nat} (ho : isSh o) : (wC G σ).set (33 + 2 * (o - 5)) (gO G o, .inr (1, (shF G o σ).set 2 (.int v))) = wC G (ps o 2 v σ) := wC_set (by rcases ho with rfl | rfl | rfl | rfl <;> decide) (by rcases ho with rfl | rfl | rfl | rfl <;> rfl)
def sLen : List Nat := [4, 5, 6, 2, 3, 3, 4, 6, 3, 4, 6, 4, 43]
def sByt : List (List Int32) := [[103, 111, 110, 101], [103, 97, 105, 110, 115], [115, 112, 105, 108, 108, 115], [111, 114], [97, 110, 100], [110, 111, 116], [115, 111, 114, 116], [103, 114, 97, 105, 110, 115], [119, 105, 116], [115, 97, 110, 100], [109, 105, 110, 117, 116, 101], [109, 111, 114, 101], [103, 111, 110, 101, 32, 51, 32, 43, 32, 115, 111, 114, 116, 32, 59, 32, 103, 97, 105, 110, 115, 32, 115, 111, 114, 116, 32, 42, 32, 50, 32, 59, 32, 115, 112, 105, 108, 108, 115, 32, 48, 32, 59]]
def ZR (G : JG) (U : State) : Prop := vk_R RX2 106 "gone" (gK G 0) U ∧ vk_R RX2 108 "gains" (gK G 1) U ∧ vk_R RX2 110 "spills" (gK G 2) U ∧ vk_R RX2 112 "or" (gK G 3) U ∧ vk_R RX2 114 "and" (gK G 4) U ∧ vk_R RX2 116 "not" (gK G 5) U ∧ vk_R RX2 118 "sort" (gK G 6) U ∧ vk_R RX2 120 "grains" (gK G 7) U ∧ vk_R RX2 122 "wit" (gK G 8) U ∧ vk_R RX2 124 "sand" (gK G 9) U ∧ vk_R RX2 126 "minute" (gK G 10) U ∧ vk_R RX2 128 "more" (gK G 11) U ∧ vk_R RX4 18 "gone 3 + sort ; gains sort * 2 ; spills 0 ;" (gK G 12) U
def ZN (U : State) : Prop := va_Nw (.methodLinkNest RX0 93 yX4_bounded RX4) U ∧ va_Nw (.methodLinkNest RX0 103 yX4_isSort RX4) U
def ZH (G : JG) (A : Nat → Prop) (U : State) (H : Heap) : Prop := vk_S 13 sLen sByt (gK G) (gV G) A U H ∧ va_Z RJ0 "COMPACT_STRINGS" "Z" (.int 1) A U H ∧ va_Zq RJ3 "SIOOBE_FORMATTER" "Ljava/util/function/BiFunction;" A U H
def ZC (G : JG) (A : Nat → Prop) (U : State) : Prop := ZN U ∧ ZR G U ∧ ZH G A U U.heap
theorem ZR_warm {G : JG} {s U : State} (hW : s.WarmedH U.vm) (h : ZR G s) : ZR G U := by
  obtain ⟨h0, h1, h2, h3, h4, h5, h6, h7, h8, h9, h10, h11, h12⟩ := h
  exact ⟨h0.warm hW, h1.warm hW, h2.warm hW, h3.warm hW, h4.warm hW, h5.warm hW, h6.warm hW, h7.warm hW, h8.warm hW, h9.warm hW, h10.warm hW, h11.warm hW, h12.warm hW⟩
theorem ZR_same {G : JG} {u U : State} (hv : U.vm = u.vm) (h : ZR G u) : ZR G U := by
  obtain ⟨h0, h1, h2, h3, h4, h5, h6, h7, h8, h9, h10, h11, h12⟩ := h
  exact ⟨h0.same hv, h1.same hv, h2.same hv, h3.same hv, h4.same hv, h5.same hv, h6.same hv, h7.same hv, h8.same hv, h9.same hv, h10.same hv, h11.same hv, h12.same hv⟩
def VC (G : JG) : JV := (G.2.1, [(gI G, .int), (gX G, .object RX3), (gH G, .object RX1)], wC G, ZC G)
theorem VC_ok (G : JG) : VOK (VC G) := by
  refine ⟨fun A A1 s U locs h hA hS hW => ⟨⟨h.1.1.warmM hW, h.1.2.warmM hW⟩, ZR_warm hW h.2.1, ?_⟩, fun A U g mk a h => ⟨⟨h.1.1.same rfl rfl, h.1.2.same rfl rfl⟩, ZR_same rfl h.2.1, ?_⟩⟩
  · obtain ⟨h1, h2, h3⟩ := h.2.2
    exact ⟨((h1.kept hS.2.1).moved hW.alike).narrow hA, ((h2.kept hS.2.1).moved hW.alike).narrow hA, ((h3.kept hS.2.1).moved hW.alike).narrow hA⟩
  · obtain ⟨h1, h2, h3⟩ := h.2.2
    exact ⟨h1.moved (Vm.Alike.refl U.vm), h2.moved (Vm.Alike.refl U.vm), h3.moved (Vm.Alike.refl U.vm)⟩
def JC (E : JE) (nL : Nat) (cc : ByteArray) (own : String) (ret : Option FieldType) (F L : Nat) (G : JG) : Prop := JX E nL cc own ret F L ∧ jL E = G.1 ∧ jV E = VC G
def acp {α : Type} (o1 k1 n1 o2 k2 n2 : Nat) (sp dp n : Int32) (σ : ST) (K : ST → Option α) : Option α := if sp < 0 ∨ dp < 0 ∨ n < 0 ∨ n1 < sp.toNatClampNeg + n.toNatClampNeg ∨ n2 < dp.toNatClampNeg + n.toNatClampNeg then none else K (pa o2 k2 (va_cpy (ga o1 k1 σ) (ga o2 k2 σ) sp.toNatClampNeg dp.toNatClampNeg n.toNatClampNeg) σ)
theorem shI {i : Int32} (h : vp_in i 4) : isSh (5 + i.toNatClampNeg) := by
  have h2 : i.toNatClampNeg < 4 := Nat.not_le.mp fun q => h (Or.inr q)
  show 5 + i.toNatClampNeg = 5 ∨ 5 + i.toNatClampNeg = 6 ∨ 5 + i.toNatClampNeg = 7 ∨ 5 + i.toNatClampNeg = 8
  omega
/-- a world that holds the tape, whatever else -/
def TPw (Wd : ST → va_W) (G : JG) (p0 p1 p2 p3 : Nat) : Prop := (∀ σ, (Wd σ)[p0]? = some (gO G 1, .inr (2, tpF G σ))) ∧ (∀ σ, (Wd σ)[p1]? = some (gA G 1 0, .inl (gI G, 160, .inl (ga 1 0 σ)))) ∧ (∀ σ, (Wd σ)[p2]? = some (gA G 1 6, .inl (gI G, 160, .inl (ga 1 6 σ)))) ∧ (∀ σ, (Wd σ)[p3]? = some (gA G 1 8, .inl (gI G, 3, .inl (ga 1 8 σ)))) ∧ (∀ (σ : ST) (k : Nat) (v : Int32), (k = 1 ∨ k = 2 ∨ k = 3 ∨ k = 4 ∨ k = 5 ∨ k = 7) → (Wd σ).set p0 (gO G 1, .inr (2, (tpF G σ).set k (.int v))) = Wd (ps 1 k v σ)) ∧ (∀ (σ : ST) (f : Nat → Int32), (Wd σ).set p1 (gA G 1 0, .inl (gI G, 160, .inl f)) = Wd (pa 1 0 f σ)) ∧ (∀ (σ : ST) (f : Nat → Int32), (Wd σ).set p2 (gA G 1 6, .inl (gI G, 160, .inl f)) = Wd (pa 1 6 f σ)) ∧ (∀ (σ : ST) (f : Nat → Int32), (Wd σ).set p3 (gA G 1 8, .inl (gI G, 3, .inl f)) = Wd (pa 1 8 f σ))
def TPok (V : JV) (G : JG) : Prop := VOK V ∧ (∀ (A : Nat → Prop) (U : State), V.2.2.2 A U → ZC G A U) ∧ V.1 = G.2.1 ∧ V.2.1[0]? = some (gI G, .int) ∧ ∃ p0 p1 p2 p3 : Nat, TPw V.2.2.1 G p0 p1 p2 p3
theorem TP_VC (G : JG) : TPok (VC G) G := ⟨VC_ok G, fun _ _ h => h, rfl, rfl, 5, 6, 7, 8, cO_1 G, cA_1_0 G, cA_1_6 G, cA_1_8 G, fun σ k v h => by rcases h with rfl | rfl | rfl | rfl | rfl | rfl <;> exact wC_set (by decide) rfl, cS_1_0 G, cS_1_6 G, cS_1_8 G⟩
def JT (E : JE) (nL : Nat) (cc : ByteArray) (own : String) (ret : Option FieldType) (F L : Nat) (G : JG) : Prop := JX E nL cc own ret F L ∧ jL E = G.1 ∧ TPok (jV E) G
section PRows
variable {E : JE} {nL F L : Nat} {cc : ByteArray} {own : String} {ret : Option FieldType} {G : JG} {ρ : Type} {Fi : ρ → ST → State → Prop} {lv : List (Nat × Value)} {pc : Nat} {st : List Value} {σ : ST} {r : Option (ρ × ST)}
theorem P_Z (X : JT E nL cc own ret F L G) : ZC G (jA E) (jS E) := X.2.2.2.1 _ _ X.1.2.2.2.2.2.2.2.2
theorem P_get (k : Nat) {index : Nat} {ref : String} {v : Value} (X : JT E nL cc own ret F L G) (hk : k < 9) (href : ref = (TX2 k).1) (hlink : Cond.fieldLink own index ref (TX2 k).2.1 (TX2 k).2.2.1 ∈ lw_ok) (hv : (tpF G σ)[k]? = some v) (hdg : decode cc pc = .ok (.getfield index, 3)) (kk : Jg E nL Fi lv (pc + 3) (v :: st) σ r) : Jg E nL Fi lv pc (.ref (gO G 1) :: st) σ r := by
  obtain ⟨p0, p1, p2, p3, h0, -⟩ := X.2.2.2.2.2.2
  exact J_get (q := p0) (ci := 2) (fs := tpF G σ) X.1 uw_X2 (h0 σ) rfl hk hlink href hv hdg kk
theorem P_put (k : Nat) {index : Nat} {ref : String} {v : Int32} {K : ST → Option (ρ × ST)} (X : JT E nL cc own ret F L G) (hk : k = 1 ∨ k = 2 ∨ k = 3 ∨ k = 4 ∨ k = 5 ∨ k = 7) (href : ref = (TX2 k).1) (hlink : Cond.fieldLink own index ref (TX2 k).2.1 (TX2 k).2.2.1 ∈ lw_ok) (hdg : decode cc pc = .ok (.putfield index, 3)) (kk : ∀ σ1 : ST, Jg E nL Fi lv (pc + 3) st σ1 (K σ1)) : Jg E nL Fi lv pc (.int v :: .ref (gO G 1) :: st) σ (put 1 k v σ K) := by
  obtain ⟨p0, p1, p2, p3, h0, h1, h2, h3, h4, -⟩ := X.2.2.2.2.2.2
  have hk9 : k < 9 := by rcases hk with rfl | rfl | rfl | rfl | rfl | rfl <;> decide
  have hty : parseFieldDescriptor (TX2 k).2.2.1 = some .int := by rcases hk with rfl | rfl | rfl | rfl | rfl | rfl <;> decide +kernel
  have hfin : (TX2 k).2.2.2 = false := by rcases hk with rfl | rfl | rfl | rfl | rfl | rfl <;> rfl
  exact J_put (q := p0) (ci := 2) (fs := tpF G σ) (ty := .int) X.1 uw_X2 tyX2 tyX2_ok nmX2 (h0 σ) rfl hk9 hlink href hfin hty rfl rfl hk9 (h4 σ k v hk) hdg kk
theorem P_ald_0 {i : Int32} {K : Int32 → Option (ρ × ST)} (X : JT E nL cc own ret F L G) (hdg : decode cc pc = .ok (.iaload, 1)) (kk : ∀ x : Int32, Jg E nL Fi lv (pc + 1) (.int x :: st) σ (K x)) : Jg E nL Fi lv pc (.int i :: .ref (gA G 1 0) :: st) σ (ald (ga 1 0 σ) 160 i K) := by
  obtain ⟨p0, p1, p2, p3, h0, h1, h2, h3, -⟩ := X.2.2.2.2.2.2
  exact J_ald (q := p1) (cA := gI G) X.1 (h1 σ) X.2.2.2.2.2.1 hdg kk
theorem P_ast_0 {i x : Int32} {K : ST → Option (ρ × ST)} (X : JT E nL cc own ret F L G) (hdg : decode cc pc = .ok (.iastore, 1)) (kk : ∀ σ1 : ST, Jg E nL Fi lv (pc + 1) st σ1 (K σ1)) : Jg E nL Fi lv pc (.int x :: .int i :: .ref (gA G 1 0) :: st) σ (ast 1 0 160 i x σ K) := by
  obtain ⟨p0, p1, p2, p3, h0, h1, h2, h3, h4, h5, h6, h7⟩ := X.2.2.2.2.2.2
  exact J_ast (q := p1) (cA := gI G) X.1 (h1 σ) X.2.2.2.2.2.1 (h5 σ) hdg kk
theorem P_ald_6 {i : Int32} {K : Int32 → Option (ρ × ST)} (X : JT E nL cc own ret F L G) (hdg : decode cc pc = .ok (.iaload, 1)) (kk : ∀ x : Int32, Jg E nL Fi lv (pc + 1) (.int x :: st) σ (K x)) : Jg E nL Fi lv pc (.int i :: .ref (gA G 1 6) :: st) σ (ald (ga 1 6 σ) 160 i K) := by
  obtain ⟨p0, p1, p2, p3, h0, h1, h2, h3, -⟩ := X.2.2.2.2.2.2
  exact J_ald (q := p2) (cA := gI G) X.1 (h2 σ) X.2.2.2.2.2.1 hdg kk
theorem P_ast_6 {i x : Int32} {K : ST → Option (ρ × ST)} (X : JT E nL cc own ret F L G) (hdg : decode cc pc = .ok (.iastore, 1)) (kk : ∀ σ1 : ST, Jg E nL Fi lv (pc + 1) st σ1 (K σ1)) : Jg E nL Fi lv pc (.int x :: .int i :: .ref (gA G 1 6) :: st) σ (ast 1 6 160 i x σ K) := by
  obtain ⟨p0, p1, p2, p3, h0, h1, h2, h3, h4, h5, h6, h7⟩ := X.2.2.2.2.2.2
  exact J_ast (q := p2) (cA := gI G) X.1 (h2 σ) X.2.2.2.2.2.1 (h6 σ) hdg kk
theorem P_ald_8 {i : Int32} {K : Int32 → Option (ρ × ST)} (X : JT E nL cc own ret F L G) (hdg : decode cc pc = .ok (.iaload, 1)) (kk : ∀ x : Int32, Jg E nL Fi lv (pc + 1) (.int x :: st) σ (K x)) : Jg E nL Fi lv pc (.int i :: .ref (gA G 1 8) :: st) σ (ald (ga 1 8 σ) 3 i K) := by
  obtain ⟨p0, p1, p2, p3, h0, h1, h2, h3, -⟩ := X.2.2.2.2.2.2
  exact J_ald (q := p3) (cA := gI G) X.1 (h3 σ) X.2.2.2.2.2.1 hdg kk
theorem P_ast_8 {i x : Int32} {K : ST → Option (ρ × ST)} (X : JT E nL cc own ret F L G) (hdg : decode cc pc = .ok (.iastore, 1)) (kk : ∀ σ1 : ST, Jg E nL Fi lv (pc + 1) st σ1 (K σ1)) : Jg E nL Fi lv pc (.int x :: .int i :: .ref (gA G 1 8) :: st) σ (ast 1 8 3 i x σ K) := by
  obtain ⟨p0, p1, p2, p3, h0, h1, h2, h3, h4, h5, h6, h7⟩ := X.2.2.2.2.2.2
  exact J_ast (q := p3) (cA := gI G) X.1 (h3 σ) X.2.2.2.2.2.1 (h7 σ) hdg kk
theorem P_cVi {As : List Value} {n index maxL F1 L1 : Nat} {y : MethodName} {bytes : ByteArray} {ret1 : Option FieldType} {r1 : Option (Int32 × ST)} {K : Int32 → ST → Option (ρ × ST)} {st0 : List Value} (hst0 : st0 = As.reverse ++ .ref (gO G 1) :: st) (X : JT E nL cc own ret F L G) (C : Con (jV E) vI G.1 y bytes maxL ret1 F1 L1 (.ref (gO G 1) :: As) σ r1) (hy : y.cls = RX2) (hw : WI y bytes maxL ret1 n) (hi : Cond.instanceMethod y ∈ lw_ok) (hs : Cond.selects RX2 y y ∈ lw_ok) (hlink : Cond.methodLink own index y ∈ lw_ok) (hR : F1 + 1 ≤ F ∧ 8 + (maxL + 11) + L1 ≤ L) (hn : As.length = n) (hsum : (st.map fun v => v.category).sum ≤ 8) (hdg : decode cc pc = .ok (.invokevirtual index, 3)) (kk : ∀ (x : Int32) (σ1 : ST), Jg E nL Fi lv (pc + 3) (.int x :: st) σ1 (K x σ1)) : Jg E nL Fi lv pc st0 σ (bnd r1 K) := by
  obtain ⟨p0, p1, p2, p3, h0, -⟩ := X.2.2.2.2.2.2
  exact J_cV (val1 := vI) (As := As) (b := gO G 1) (q := p0) (ci := 2) (fs := tpF G σ) (rc := (RX2, TX2, 9)) st0 hst0 X.1 (by rw [X.2.1]; exact C) hw hi (by rw [hy]; exact hs) hlink hR (h0 σ) rfl hy.symm hn hsum hdg kk
theorem P_cSi {As : List Value} {n index maxL F1 L1 : Nat} {y : MethodName} {bytes : ByteArray} {ret1 : Option FieldType} {r1 : Option (Int32 × ST)} {K : Int32 → ST → Option (ρ × ST)} {st0 : List Value} (hst0 : st0 = As.reverse ++ st) (X : JT E nL cc own ret F L G) (C : Con (jV E) vI G.1 y bytes maxL ret1 F1 L1 As σ r1) (hw : WI y bytes maxL ret1 n) (hs : Cond.static y ∈ lw_ok) (hlink : Cond.methodLink own index y ∈ lw_ok) (hR : F1 + 1 ≤ F ∧ 8 + (maxL + 11) + L1 ≤ L) (hn : As.length = n) (hsum : (st.map fun v => v.category).sum ≤ 8) (hdg : decode cc pc = .ok (.invokestatic index, 3)) (kk : ∀ (x : Int32) (σ1 : ST), Jg E nL Fi lv (pc + 3) (.int x :: st) σ1 (K x σ1)) : Jg E nL Fi lv pc st0 σ (bnd r1 K) :=
  J_cS (val1 := vI) (As := As) st0 hst0 X.1 (by rw [X.2.1]; exact C) hw hs hlink hR hn hsum hdg kk
theorem P_cVv {As : List Value} {n index maxL F1 L1 : Nat} {y : MethodName} {bytes : ByteArray} {ret1 : Option FieldType} {r1 : Option (Unit × ST)} {K : Unit → ST → Option (ρ × ST)} {st0 : List Value} (hst0 : st0 = As.reverse ++ .ref (gO G 1) :: st) (X : JT E nL cc own ret F L G) (C : Con (jV E) vV G.1 y bytes maxL ret1 F1 L1 (.ref (gO G 1) :: As) σ r1) (hy : y.cls = RX2) (hw : WI y bytes maxL ret1 n) (hi : Cond.instanceMethod y ∈ lw_ok) (hs : Cond.selects RX2 y y ∈ lw_ok) (hlink : Cond.methodLink own index y ∈ lw_ok) (hR : F1 + 1 ≤ F ∧ 8 + (maxL + 11) + L1 ≤ L) (hn : As.length = n) (hsum : (st.map fun v => v.category).sum ≤ 8) (hdg : decode cc pc = .ok (.invokevirtual index, 3)) (kk : ∀ (σ1 : ST), Jg E nL Fi lv (pc + 3) st σ1 (K () σ1)) : Jg E nL Fi lv pc st0 σ (bnd r1 K) := by
  obtain ⟨p0, p1, p2, p3, h0, -⟩ := X.2.2.2.2.2.2
  exact J_cV (val1 := vV) (As := As) (b := gO G 1) (q := p0) (ci := 2) (fs := tpF G σ) (rc := (RX2, TX2, 9)) st0 hst0 X.1 (by rw [X.2.1]; exact C) hw hi (by rw [hy]; exact hs) hlink hR (h0 σ) rfl hy.symm hn hsum hdg (fun _ σ1 => kk σ1)
theorem P_cSv {As : List Value} {n index maxL F1 L1 : Nat} {y : MethodName} {bytes : ByteArray} {ret1 : Option FieldType} {r1 : Option (Unit × ST)} {K : Unit → ST → Option (ρ × ST)} {st0 : List Value} (hst0 : st0 = As.reverse ++ st) (X : JT E nL cc own ret F L G) (C : Con (jV E) vV G.1 y bytes maxL ret1 F1 L1 As σ r1) (hw : WI y bytes maxL ret1 n) (hs : Cond.static y ∈ lw_ok) (hlink : Cond.methodLink own index y ∈ lw_ok) (hR : F1 + 1 ≤ F ∧ 8 + (maxL + 11) + L1 ≤ L) (hn : As.length = n) (hsum : (st.map fun v => v.category).sum ≤ 8) (hdg : decode cc pc = .ok (.invokestatic index, 3)) (kk : ∀ (σ1 : ST), Jg E nL Fi lv (pc + 3) st σ1 (K () σ1)) : Jg E nL Fi lv pc st0 σ (bnd r1 K) :=
  J_cS (val1 := vV) (As := As) st0 hst0 X.1 (by rw [X.2.1]; exact C) hw hs hlink hR hn hsum hdg (fun _ σ1 => kk σ1)
end PRows
section CRows
variable {E : JE} {nL F L : Nat} {cc : ByteArray} {own : String} {ret : Option FieldType} {G : JG} {ρ : Type} {Fi : ρ → ST → State → Prop} {lv lv' : List (Nat × Value)} {pc : Nat} {st : List Value} {σ : ST} {r : Option (ρ × ST)}
theorem C_get (k : Nat) {ci N q a index : Nat} {C ref : String} {T : u_T} {fs : List Value} {v : Value} (X : JC E nL cc own ret F L G) (hin : ∀ w ∈ u_ws C T N, w ∈ lw_ok) (ha : (wC G σ)[q]? = some (a, .inr (ci, fs))) (hc : vwCl[ci]? = some (C, T, N)) (hk : k < N) (href : ref = (T k).1) (hlink : Cond.fieldLink own index ref (T k).2.1 (T k).2.2.1 ∈ lw_ok) (hv : fs[k]? = some v) (hdg : decode cc pc = .ok (.getfield index, 3)) (kk : Jg E nL Fi lv (pc + 3) (v :: st) σ r) : Jg E nL Fi lv pc (.ref a :: st) σ r :=
  J_get (q := q) (ci := ci) (fs := fs) X.1 hin (by rw [X.2.2]; exact ha) hc hk hlink href hv hdg kk
theorem C_put (k o : Nat) {ci N q a index : Nat} {C ref : String} {T : u_T} {fs : List Value} {ty : FieldType} {v : Int32} {K : ST → Option (ρ × ST)} (X : JC E nL cc own ret F L G) (hin : ∀ w ∈ u_ws C T N, w ∈ lw_ok) (ty0 : Nat → FieldType) (hty : ∀ k, k < N → parseFieldDescriptor (T k).2.2.1 = some (ty0 k)) (hnm : ∀ a, a < N → ∀ b, b < N → a ≠ b → (T a).2.1 ≠ (T b).2.1) (ha : (wC G σ)[q]? = some (a, .inr (ci, fs))) (hc : vwCl[ci]? = some (C, T, N)) (hk : k < N) (href : ref = (T k).1) (hlink : Cond.fieldLink own index ref (T k).2.1 (T k).2.2.1 ∈ lw_ok) (hfin : (T k).2.2.2 = false) (hn : narrow ty (.int v) = .int v) (hd : parseFieldDescriptor (T k).2.2.1 = some ty) (hfit : fits ty (.int v) = true) (hl0 : k < fs.length) (hset : (wC G σ).set q (a, .inr (ci, fs.set k (.int v))) = wC G (ps o k v σ)) (hdg : decode cc pc = .ok (.putfield index, 3)) (kk : ∀ σ1 : ST, Jg E nL Fi lv (pc + 3) st σ1 (K σ1)) : Jg E nL Fi lv pc (.int v :: .ref a :: st) σ (put o k v σ K) :=
  J_put (q := q) (ci := ci) (fs := fs) X.1 hin ty0 hty hnm (by rw [X.2.2]; exact ha) hc hk hlink href hfin hd hn hfit hl0 (by rw [X.2.2]; exact hset) hdg kk
theorem C_ald {a q n : Nat} {f : Nat → Int32} {i : Int32} {K : Int32 → Option (ρ × ST)} (X : JC E nL cc own ret F L G) (ha : (wC G σ)[q]? = some (a, .inl (gI G, n, .inl f))) (hdg : decode cc pc = .ok (.iaload, 1)) (kk : ∀ x : Int32, Jg E nL Fi lv (pc + 1) (.int x :: st) σ (K x)) : Jg E nL Fi lv pc (.int i :: .ref a :: st) σ (ald f n i K) :=
  J_ald (q := q) (cA := gI G) X.1 (by rw [X.2.2]; exact ha) (by rw [X.2.2]; rfl) hdg kk
theorem C_ast {o k a q n : Nat} {i x : Int32} {K : ST → Option (ρ × ST)} (X : JC E nL cc own ret F L G) (ha : (wC G σ)[q]? = some (a, .inl (gI G, n, .inl (ga o k σ)))) (hset : ∀ f : Nat → Int32, (wC G σ).set q (a, .inl (gI G, n, .inl f)) = wC G (pa o k f σ)) (hdg : decode cc pc = .ok (.iastore, 1)) (kk : ∀ σ1 : ST, Jg E nL Fi lv (pc + 1) st σ1 (K σ1)) : Jg E nL Fi lv pc (.int x :: .int i :: .ref a :: st) σ (ast o k n i x σ K) :=
  J_ast (q := q) (cA := gI G) X.1 (by rw [X.2.2]; exact ha) (by rw [X.2.2]; rfl) (by rw [X.2.2]; exact hset) hdg kk
theorem C_alen {a q n : Nat} {f : Nat → Int32} {v : Int32} (X : JC E nL cc own ret F L G) (ha : (wC G σ)[q]? = some (a, .inl (gI G, n, .inl f))) (hv : Int32.ofNat n = v) (hdg : decode cc pc = .ok (.arraylength, 1)) (kk : Jg E nL Fi lv (pc + 1) (.int v :: st) σ r) : Jg E nL Fi lv pc (.ref a :: st) σ r :=
  fun x σ' hr H locs ls hP hD hS hl => va_alen (jxx X.1) (jxb X.1) X.1.2.1 hP q 0 (by rw [X.2.2]; exact ha) (by rw [X.2.2]; rfl) hv hdg (kk x σ' hr H locs ls hP hD hS hl)
theorem C_aalS {i : Int32} (X : JC E nL cc own ret F L G) (h : vp_in i 4) (hdg : decode cc pc = .ok (.aaload, 1)) (kk : Jg E nL Fi lv (pc + 1) (.ref (gO G (5 + i.toNatClampNeg)) :: st) σ r) : Jg E nL Fi lv pc (.int i :: .ref (gA G 0 7) :: st) σ r :=
  fun x σ' hr H locs ls hP hD hS hl => va_aldq (cA := gH G) (C := RX1) (n := 4) (f := fun i => some (gO G (5 + i))) (jxx X.1) (jxb X.1) X.1.2.1 hP 2 2 (by rw [X.2.2]; exact cR_sh G σ) (by rw [X.2.2]; rfl) h hdg (kk x σ' hr H locs ls hP hD hS hl)
theorem C_aalT {i : Int32} (X : JC E nL cc own ret F L G) (h : vp_in i 6) (ht : i.toNatClampNeg < tN (gT G)) (hdg : decode cc pc = .ok (.aaload, 1)) (kk : Jg E nL Fi lv (pc + 1) (.ref (tO (gT G) i.toNatClampNeg) :: st) σ r) : Jg E nL Fi lv pc (.int i :: .ref (gA G 0 0) :: st) σ r := by
  intro x σ' hr H locs ls hP hD hS hl
  refine va_aldq (cA := gX G) (C := RX3) (n := 6) (f := fun t => if t < tN (gT G) then some (tO (gT G) t) else none) (jxx X.1) (jxb X.1) X.1.2.1 hP 1 1 (by rw [X.2.2]; exact cR_tx G σ) (by rw [X.2.2]; rfl) h hdg ?_
  have e : va_rf ((fun t => if t < tN (gT G) then some (tO (gT G) t) else none) i.toNatClampNeg) = .ref (tO (gT G) i.toNatClampNeg) := by
    show va_rf (if _ then _ else _) = _
    rw [if_pos ht]; rfl
  rw [e]
  exact kk x σ' hr H locs ls hP hD hS hl
theorem C_aalN {i : Int32} (X : JC E nL cc own ret F L G) (h : vp_in i 6) (ht : ¬ i.toNatClampNeg < tN (gT G)) (hdg : decode cc pc = .ok (.aaload, 1)) (kk : Jg E nL Fi lv (pc + 1) (.null :: st) σ r) : Jg E nL Fi lv pc (.int i :: .ref (gA G 0 0) :: st) σ r := by
  intro x σ' hr H locs ls hP hD hS hl
  refine va_aldq (cA := gX G) (C := RX3) (n := 6) (f := fun t => if t < tN (gT G) then some (tO (gT G) t) else none) (jxx X.1) (jxb X.1) X.1.2.1 hP 1 1 (by rw [X.2.2]; exact cR_tx G σ) (by rw [X.2.2]; rfl) h hdg ?_
  have e : va_rf ((fun t => if t < tN (gT G) then some (tO (gT G) t) else none) i.toNatClampNeg) = .null := by
    show va_rf (if _ then _ else _) = _
    rw [if_neg ht]; rfl
  rw [e]
  exact kk x σ' hr H locs ls hP hD hS hl
theorem C_acp {o1 k1 n1 o2 k2 n2 q1 q2 a1 a2 index : Nat} {sp dp n : Int32} {K : ST → Option (ρ × ST)} (X : JC E nL cc own ret F L G) (ha1 : (wC G σ)[q1]? = some (a1, .inl (gI G, n1, .inl (ga o1 k1 σ)))) (ha2 : (wC G σ)[q2]? = some (a2, .inl (gI G, n2, .inl (ga o2 k2 σ)))) (hset : ∀ f : Nat → Int32, (wC G σ).set q2 (a2, .inl (gI G, n2, .inl f)) = wC G (pa o2 k2 f σ)) (hlink : Cond.methodLink own index arraycopyName ∈ lw_ok) (hnat : Cond.native arraycopyName ∈ lw_ok) (hstat : Cond.static arraycopyName ∈ lw_ok) (hini : Cond.initialized "java/lang/System" ∈ lw_ok) (hF : 1 ≤ F) (hL : (st.map fun v => v.category).sum + (nativeFrameWords "java/lang/System" "arraycopy" 5 + 11) ≤ L) (hdg : decode cc pc = .ok (.invokestatic index, 3)) (kk : ∀ σ1 : ST, Jg E nL Fi lv (pc + 3) st σ1 (K σ1)) : Jg E nL Fi lv pc (.int n :: .int dp :: .ref a2 :: .int sp :: .ref a1 :: st) σ (acp o1 k1 n1 o2 k2 n2 sp dp n σ K) := by
  intro x σ' hr H locs ls hP hD hS hl
  unfold acp at hr
  by_cases h : sp < 0 ∨ dp < 0 ∨ n < 0 ∨ n1 < sp.toNatClampNeg + n.toNatClampNeg ∨ n2 < dp.toNatClampNeg + n.toNatClampNeg
  · rw [if_pos h] at hr; cases hr
  · rw [if_neg h] at hr
    have hR : jR E = _ := X.1.2.2.2.2.2.1
    refine va_copyi (jxx X.1) (jxb X.1) (X.1.1.2.2.1.trans hl.1.symm) (jxo X.1) (jxt X.1 _ hlink) (jxt X.1 _ hnat) (jxt X.1 _ hstat) (jxt X.1 _ hini) X.1.2.1 hP hD hS q1 q2 0 0 (by rw [X.2.2]; exact ha1) (by rw [X.2.2]; exact ha2) (by rw [X.2.2]; rfl) (by rw [X.2.2]; rfl) (ty := .int) rfl (fun q => h (Or.inl q)) (fun q => h (Or.inr (Or.inl q))) (fun q => h (Or.inr (Or.inr (Or.inl q)))) (Nat.not_lt.mp fun q => h (Or.inr (Or.inr (Or.inr (Or.inl q))))) (Nat.not_lt.mp fun q => h (Or.inr (Or.inr (Or.inr (Or.inr q))))) (fun _ _ => rfl) (by rw [hR]; exact hF) (by rw [hR]; exact hL) hdg (fun H1 locs1 hP1 hD1 hS1 => ?_)
    rw [X.2.2] at hP1 hD1
    have e : ((VC G).2.2.1 σ).set q2 (a2, .inl (gI G, n2, .inl (va_cpy (ga o1 k1 σ) (ga o2 k2 σ) sp.toNatClampNeg dp.toNatClampNeg n.toNatClampNeg))) = (VC G).2.2.1 (pa o2 k2 (va_cpy (ga o1 k1 σ) (ga o2 k2 σ) sp.toNatClampNeg dp.toNatClampNeg n.toNatClampNeg) σ) := hset _
    rw [e] at hP1 hD1
    exact kk _ x σ' hr H1 locs1 ls (by rw [X.2.2]; exact hP1) (by rw [X.2.2]; exact hD1) hS1 hl
theorem J_astoreN {i : Nat} (lv' : List (Nat × Value)) (X : JX E nL cc own ret F L) (hdg : decode cc pc = .ok (.astore i, 2)) (hn : i < nL) (hl' : (i, Value.null) :: lv.filter (fun q => !(q.1 == i) && !(q.1 + 1 == i && q.2.category == 2)) = lv') (kk : Jg E nL Fi lv' (pc + 2) st σ r) : Jg E nL Fi lv pc (.null :: st) σ r := Jstep (fun H locs Q ls hl k => lv_astoreN (jxx X) (jxb X) hdg hl hn hl' (fun ls' h' => k ls' h')) kk
theorem J_aloadN {i : Nat} (X : JX E nL cc own ret F L) (q : Nat) (hdg : decode cc pc = .ok (.aload i, 2)) (hq : lv[q]? = some (i, .null)) (kk : Jg E nL Fi lv (pc + 2) (.null :: st) σ r) : Jg E nL Fi lv pc st σ r := Jstep (fun H locs Q ls hl k => lv_aloadN (jxx X) (jxb X) hdg (lv_at hl q hq) (k ls hl)) kk
theorem J_ifnn {x : Nat} {off : Int} {tgt : Nat} (X : JX E nL cc own ret F L) (hdg : decode cc pc = .ok (.ifnonnull off, 3)) (ht : (pc : Int) + off = (tgt : Int)) (kk : Jg E nL Fi lv tgt st σ r) : Jg E nL Fi lv pc (.ref x :: st) σ r := Jstep (fun H locs Q ls hl k => lv_ifnonnull (jxx X) (jxb X) hdg ht (k ls hl)) kk
theorem J_ifnnN {off : Int} (X : JX E nL cc own ret F L) (hdg : decode cc pc = .ok (.ifnonnull off, 3)) (kk : Jg E nL Fi lv (pc + 3) st σ r) : Jg E nL Fi lv pc (.null :: st) σ r := Jstep (fun H locs Q ls hl k => lv_ifnonnullN (jxx X) (jxb X) hdg (k ls hl)) kk
theorem J_iushr {x y : Int32} (X : JX E nL cc own ret F L) (hdg : decode cc pc = .ok (.iushr, 1)) (kk : Jg E nL Fi lv (pc + 1) (.int (x.toUInt32 >>> (y.toUInt32 &&& Int32.toUInt32 31)).toInt32 :: st) σ r) : Jg E nL Fi lv pc (.int y :: .int x :: st) σ r := Jstep (fun H locs Q ls hl k => lv_iushr (jxx X) (jxb X) hdg rfl (k ls hl)) kk
/-- a private static method of a nest mate -/
theorem J_cSN {ρ1 : Type} {val1 : ρ1 → Option Value} {As : List Value} {n index maxL F1 L1 : Nat} {host : String} {y : MethodName} {bytes : ByteArray} {ret1 : Option FieldType} {r1 : Option (ρ1 × ST)} {K : ρ1 → ST → Option (ρ × ST)} (st0 : List Value) (hst0 : st0 = As.reverse ++ st) (X : JX E nL cc own ret F L)
    (C : Con (jV E) val1 (jL E) y bytes maxL ret1 F1 L1 As σ r1) (hw : WI y bytes maxL ret1 n) (hs : Cond.static y ∈ lw_ok) (hlink : va_Nw (.methodLinkNest own index y host) (jS E)) (hR : F1 + 1 ≤ F ∧ 8 + (maxL + 11) + L1 ≤ L)
    (hn : As.length = n) (hsum : (st.map fun v => v.category).sum ≤ 8) (hdg : decode cc pc = .ok (.invokestatic index, 3))
    (kk : ∀ (x : ρ1) (σ1 : ST), Jg E nL Fi lv (pc + 3) ((val1 x).toList ++ st) σ1 (K x σ1)) : Jg E nL Fi lv pc st0 σ (bnd r1 K) := by
  refine J_call (val1 := val1) (As := As) (mk := As.toArray) X (fun x σ1 h1 H locs ls hP hD hS hl => ?_) kk
  have hpre := J_pre X hP hD hS As
  have hR' : jR E = _ := X.2.2.2.2.2.1
  exact va_runSN (As := As) (rest := st) X.1 (C x σ1 h1 H.size) ⟨va_cnB n (jxt X) (lw_okG hw.1) rfl rfl rfl hlink (jxt X _ hw.2.1) hw.2.2 (by rw [hR']; exact hR), jxt X _ hs, trivial⟩ ⟨hpre.1, hpre.2⟩ rfl hn hl.1 hst0 (lv_room (pc := pc) (ls := ls) (rest := st0) (m := jM E) hsum) hdg (jfit X)
theorem C_cVi {As : List Value} {b q ci n index maxL F1 L1 : Nat} {y : MethodName} {bytes : ByteArray} {ret1 : Option FieldType} {fs : List Value} {rc : vw_C} {r1 : Option (Int32 × ST)} {K : Int32 → ST → Option (ρ × ST)} {st0 : List Value} (hst0 : st0 = As.reverse ++ .ref b :: st) (X : JC E nL cc own ret F L G) (C : Con (VC G) vI G.1 y bytes maxL ret1 F1 L1 (.ref b :: As) σ r1) (hrec : (wC G σ)[q]? = some (b, .inr (ci, fs))) (hc : vwCl[ci]? = some rc) (hrc : rc.1 = y.cls) (hw : WI y bytes maxL ret1 n) (hi : Cond.instanceMethod y ∈ lw_ok) (hs : Cond.selects rc.1 y y ∈ lw_ok) (hlink : Cond.methodLink own index y ∈ lw_ok) (hR : F1 + 1 ≤ F ∧ 8 + (maxL + 11) + L1 ≤ L) (hn : As.length = n) (hsum : (st.map fun v => v.category).sum ≤ 8) (hdg : decode cc pc = .ok (.invokevirtual index, 3)) (kk : ∀ (x : Int32) (σ1 : ST), Jg E nL Fi lv (pc + 3) (.int x :: st) σ1 (K x σ1)) : Jg E nL Fi lv pc st0 σ (bnd r1 K) :=
  J_cV (val1 := vI) (As := As) (b := b) (q := q) (ci := ci) (fs := fs) (rc := rc) st0 hst0 X.1 (by rw [X.2.2, X.2.1]; exact C) hw hi (by rw [← hrc]; exact hs) hlink hR (by rw [X.2.2]; exact hrec) hc hrc hn hsum hdg kk
theorem C_cSi {As : List Value} {n index maxL F1 L1 : Nat} {y : MethodName} {bytes : ByteArray} {ret1 : Option FieldType} {r1 : Option (Int32 × ST)} {K : Int32 → ST → Option (ρ × ST)} {st0 : List Value} (hst0 : st0 = As.reverse ++ st) (X : JC E nL cc own ret F L G) (C : Con (VC G) vI G.1 y bytes maxL ret1 F1 L1 As σ r1) (hw : WI y bytes maxL ret1 n) (hs : Cond.static y ∈ lw_ok) (hlink : Cond.methodLink own index y ∈ lw_ok) (hR : F1 + 1 ≤ F ∧ 8 + (maxL + 11) + L1 ≤ L) (hn : As.length = n) (hsum : (st.map fun v => v.category).sum ≤ 8) (hdg : decode cc pc = .ok (.invokestatic index, 3)) (kk : ∀ (x : Int32) (σ1 : ST), Jg E nL Fi lv (pc + 3) (.int x :: st) σ1 (K x σ1)) : Jg E nL Fi lv pc st0 σ (bnd r1 K) :=
  J_cS (val1 := vI) (As := As) st0 hst0 X.1 (by rw [X.2.2, X.2.1]; exact C) hw hs hlink hR hn hsum hdg kk
theorem C_cNi {As : List Value} {n index maxL F1 L1 : Nat} {host : String} {y : MethodName} {bytes : ByteArray} {ret1 : Option FieldType} {r1 : Option (Int32 × ST)} {K : Int32 → ST → Option (ρ × ST)} {st0 : List Value} (hst0 : st0 = As.reverse ++ st) (X : JC E nL cc own ret F L G) (C : Con (VC G) vI G.1 y bytes maxL ret1 F1 L1 As σ r1) (hw : WI y bytes maxL ret1 n) (hs : Cond.static y ∈ lw_ok) (hlink : va_Nw (.methodLinkNest own index y host) (jS E)) (hR : F1 + 1 ≤ F ∧ 8 + (maxL + 11) + L1 ≤ L) (hn : As.length = n) (hsum : (st.map fun v => v.category).sum ≤ 8) (hdg : decode cc pc = .ok (.invokestatic index, 3)) (kk : ∀ (x : Int32) (σ1 : ST), Jg E nL Fi lv (pc + 3) (.int x :: st) σ1 (K x σ1)) : Jg E nL Fi lv pc st0 σ (bnd r1 K) :=
  J_cSN (val1 := vI) (As := As) st0 hst0 X.1 (by rw [X.2.2, X.2.1]; exact C) hw hs hlink hR hn hsum hdg kk
theorem C_cVl {As : List Value} {b q ci n index maxL F1 L1 : Nat} {y : MethodName} {bytes : ByteArray} {ret1 : Option FieldType} {fs : List Value} {rc : vw_C} {r1 : Option (Int64 × ST)} {K : Int64 → ST → Option (ρ × ST)} {st0 : List Value} (hst0 : st0 = As.reverse ++ .ref b :: st) (X : JC E nL cc own ret F L G) (C : Con (VC G) vL G.1 y bytes maxL ret1 F1 L1 (.ref b :: As) σ r1) (hrec : (wC G σ)[q]? = some (b, .inr (ci, fs))) (hc : vwCl[ci]? = some rc) (hrc : rc.1 = y.cls) (hw : WI y bytes maxL ret1 n) (hi : Cond.instanceMethod y ∈ lw_ok) (hs : Cond.selects rc.1 y y ∈ lw_ok) (hlink : Cond.methodLink own index y ∈ lw_ok) (hR : F1 + 1 ≤ F ∧ 8 + (maxL + 11) + L1 ≤ L) (hn : As.length = n) (hsum : (st.map fun v => v.category).sum ≤ 8) (hdg : decode cc pc = .ok (.invokevirtual index, 3)) (kk : ∀ (x : Int64) (σ1 : ST), Jg E nL Fi lv (pc + 3) (.long x :: st) σ1 (K x σ1)) : Jg E nL Fi lv pc st0 σ (bnd r1 K) :=
  J_cV (val1 := vL) (As := As) (b := b) (q := q) (ci := ci) (fs := fs) (rc := rc) st0 hst0 X.1 (by rw [X.2.2, X.2.1]; exact C) hw hi (by rw [← hrc]; exact hs) hlink hR (by rw [X.2.2]; exact hrec) hc hrc hn hsum hdg kk
theorem C_cSl {As : List Value} {n index maxL F1 L1 : Nat} {y : MethodName} {bytes : ByteArray} {ret1 : Option FieldType} {r1 : Option (Int64 × ST)} {K : Int64 → ST → Option (ρ × ST)} {st0 : List Value} (hst0 : st0 = As.reverse ++ st) (X : JC E nL cc own ret F L G) (C : Con (VC G) vL G.1 y bytes maxL ret1 F1 L1 As σ r1) (hw : WI y bytes maxL ret1 n) (hs : Cond.static y ∈ lw_ok) (hlink : Cond.methodLink own index y ∈ lw_ok) (hR : F1 + 1 ≤ F ∧ 8 + (maxL + 11) + L1 ≤ L) (hn : As.length = n) (hsum : (st.map fun v => v.category).sum ≤ 8) (hdg : decode cc pc = .ok (.invokestatic index, 3)) (kk : ∀ (x : Int64) (σ1 : ST), Jg E nL Fi lv (pc + 3) (.long x :: st) σ1 (K x σ1)) : Jg E nL Fi lv pc st0 σ (bnd r1 K) :=
  J_cS (val1 := vL) (As := As) st0 hst0 X.1 (by rw [X.2.2, X.2.1]; exact C) hw hs hlink hR hn hsum hdg kk
theorem C_cNl {As : List Value} {n index maxL F1 L1 : Nat} {host : String} {y : MethodName} {bytes : ByteArray} {ret1 : Option FieldType} {r1 : Option (Int64 × ST)} {K : Int64 → ST → Option (ρ × ST)} {st0 : List Value} (hst0 : st0 = As.reverse ++ st) (X : JC E nL cc own ret F L G) (C : Con (VC G) vL G.1 y bytes maxL ret1 F1 L1 As σ r1) (hw : WI y bytes maxL ret1 n) (hs : Cond.static y ∈ lw_ok) (hlink : va_Nw (.methodLinkNest own index y host) (jS E)) (hR : F1 + 1 ≤ F ∧ 8 + (maxL + 11) + L1 ≤ L) (hn : As.length = n) (hsum : (st.map fun v => v.category).sum ≤ 8) (hdg : decode cc pc = .ok (.invokestatic index, 3)) (kk : ∀ (x : Int64) (σ1 : ST), Jg E nL Fi lv (pc + 3) (.long x :: st) σ1 (K x σ1)) : Jg E nL Fi lv pc st0 σ (bnd r1 K) :=
  J_cSN (val1 := vL) (As := As) st0 hst0 X.1 (by rw [X.2.2, X.2.1]; exact C) hw hs hlink hR hn hsum hdg kk
theorem C_cVv {As : List Value} {b q ci n index maxL F1 L1 : Nat} {y : MethodName} {bytes : ByteArray} {ret1 : Option FieldType} {fs : List Value} {rc : vw_C} {r1 : Option (Unit × ST)} {K : Unit → ST → Option (ρ × ST)} {st0 : List Value} (hst0 : st0 = As.reverse ++ .ref b :: st) (X : JC E nL cc own ret F L G) (C : Con (VC G) vV G.1 y bytes maxL ret1 F1 L1 (.ref b :: As) σ r1) (hrec : (wC G σ)[q]? = some (b, .inr (ci, fs))) (hc : vwCl[ci]? = some rc) (hrc : rc.1 = y.cls) (hw : WI y bytes maxL ret1 n) (hi : Cond.instanceMethod y ∈ lw_ok) (hs : Cond.selects rc.1 y y ∈ lw_ok) (hlink : Cond.methodLink own index y ∈ lw_ok) (hR : F1 + 1 ≤ F ∧ 8 + (maxL + 11) + L1 ≤ L) (hn : As.length = n) (hsum : (st.map fun v => v.category).sum ≤ 8) (hdg : decode cc pc = .ok (.invokevirtual index, 3)) (kk : ∀ (σ1 : ST), Jg E nL Fi lv (pc + 3) st σ1 (K () σ1)) : Jg E nL Fi lv pc st0 σ (bnd r1 K) :=
  J_cV (val1 := vV) (As := As) (b := b) (q := q) (ci := ci) (fs := fs) (rc := rc) st0 hst0 X.1 (by rw [X.2.2, X.2.1]; exact C) hw hi (by rw [← hrc]; exact hs) hlink hR (by rw [X.2.2]; exact hrec) hc hrc hn hsum hdg (fun _ σ1 => kk σ1)
theorem C_cSv {As : List Value} {n index maxL F1 L1 : Nat} {y : MethodName} {bytes : ByteArray} {ret1 : Option FieldType} {r1 : Option (Unit × ST)} {K : Unit → ST → Option (ρ × ST)} {st0 : List Value} (hst0 : st0 = As.reverse ++ st) (X : JC E nL cc own ret F L G) (C : Con (VC G) vV G.1 y bytes maxL ret1 F1 L1 As σ r1) (hw : WI y bytes maxL ret1 n) (hs : Cond.static y ∈ lw_ok) (hlink : Cond.methodLink own index y ∈ lw_ok) (hR : F1 + 1 ≤ F ∧ 8 + (maxL + 11) + L1 ≤ L) (hn : As.length = n) (hsum : (st.map fun v => v.category).sum ≤ 8) (hdg : decode cc pc = .ok (.invokestatic index, 3)) (kk : ∀ (σ1 : ST), Jg E nL Fi lv (pc + 3) st σ1 (K () σ1)) : Jg E nL Fi lv pc st0 σ (bnd r1 K) :=
  J_cS (val1 := vV) (As := As) st0 hst0 X.1 (by rw [X.2.2, X.2.1]; exact C) hw hs hlink hR hn hsum hdg (fun _ σ1 => kk σ1)
theorem C_cNv {As : List Value} {n index maxL F1 L1 : Nat} {host : String} {y : MethodName} {bytes : ByteArray} {ret1 : Option FieldType} {r1 : Option (Unit × ST)} {K : Unit → ST → Option (ρ × ST)} {st0 : List Value} (hst0 : st0 = As.reverse ++ st) (X : JC E nL cc own ret F L G) (C : Con (VC G) vV G.1 y bytes maxL ret1 F1 L1 As σ r1) (hw : WI y bytes maxL ret1 n) (hs : Cond.static y ∈ lw_ok) (hlink : va_Nw (.methodLinkNest own index y host) (jS E)) (hR : F1 + 1 ≤ F ∧ 8 + (maxL + 11) + L1 ≤ L) (hn : As.length = n) (hsum : (st.map fun v => v.category).sum ≤ 8) (hdg : decode cc pc = .ok (.invokestatic index, 3)) (kk : ∀ (σ1 : ST), Jg E nL Fi lv (pc + 3) st σ1 (K () σ1)) : Jg E nL Fi lv pc st0 σ (bnd r1 K) :=
  J_cSN (val1 := vV) (As := As) st0 hst0 X.1 (by rw [X.2.2, X.2.1]; exact C) hw hs hlink hR hn hsum hdg (fun _ σ1 => kk σ1)
theorem C_Z (X : JC E nL cc own ret F L G) : ZC G (jA E) (jS E) := by
  have h := X.1.2.2.2.2.2.2.2.2
  rw [X.2.2] at h
  exact h
theorem C_n93 (X : JC E nL cc own ret F L G) : va_Nw (.methodLinkNest RX0 93 yX4_bounded RX4) (jS E) := (C_Z X).1.1
theorem C_n103 (X : JC E nL cc own ret F L G) : va_Nw (.methodLinkNest RX0 103 yX4_isSort RX4) (jS E) := (C_Z X).1.2
end CRows
