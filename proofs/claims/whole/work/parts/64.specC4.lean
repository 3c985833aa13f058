section PC4
variable {S : LW} {T : TX} {n o : Nat} {c : ST} {v : VS}
theorem iv_pass1 {a : Int32 × VS} (iv : IV a.2) (k : Nat) (hk : k < sN a.2) : IV (pass1 k a).2 := by
  unfold pass1
  split
  · exact iv
  · rename_i hh
    obtain ⟨z, hz, ez, hz1⟩ := (iv k hk).2.2.2.2.1
    have hz1 : 1 ≤ z := hz1.resolve_left hh
    have e1 : sR a.2 (12 * k + 11) - 1 = nI (z - 1) := by rw [ez]; exact nI_sub (b := 1) hz1
    split
    · rename_i h0
      intro q hq
      obtain ⟨h1, h2, h3, h4, h5, h6, h7⟩ := iv q hq
      have R : ∀ j, sR (wR (12 * k + 10) (-1) (wR (12 * k + 11) (sR a.2 (12 * k + 11) - 1) a.2)) j = if j = 12 * k + 10 then -1 else if j = 12 * k + 11 then sR a.2 (12 * k + 11) - 1 else sR a.2 j := fun j => rfl
      refine ⟨fun t' ht' => ?_, ?_, ?_, ?_, ?_, h6, h7⟩
      · rw [R, if_neg (by omega), if_neg (by omega)]; exact h1 t' ht'
      · rw [R, if_neg (by omega), if_neg (by omega)]; exact h2
      · rw [R, if_neg (by omega), if_neg (by omega)]; exact h3
      · rw [R]
        by_cases hqk : q = k
        · rw [if_pos (by omega)]; exact Or.inl rfl
        · rw [if_neg (by omega), if_neg (by omega)]; exact h4
      · rw [R, R]
        by_cases hqk : q = k
        · rw [if_neg (by omega), if_pos (by omega), if_pos (by omega), e1]; exact ⟨z - 1, by omega, rfl, Or.inl rfl⟩
        · rw [if_neg (by omega), if_neg (by omega), if_neg (by omega), if_neg (by omega)]; exact h5
    · rename_i h0
      intro q hq
      obtain ⟨h1, h2, h3, h4, h5, h6, h7⟩ := iv q hq
      have R : ∀ j, sR (wR (12 * k + 11) (sR a.2 (12 * k + 11) - 1) a.2) j = if j = 12 * k + 11 then sR a.2 (12 * k + 11) - 1 else sR a.2 j := fun j => rfl
      refine ⟨fun t' ht' => ?_, ?_, ?_, ?_, ?_, h6, h7⟩
      · rw [R, if_neg (by omega)]; exact h1 t' ht'
      · rw [R, if_neg (by omega)]; exact h2
      · rw [R, if_neg (by omega)]; exact h3
      · rw [R, if_neg (by omega)]; exact h4
      · rw [R, R]
        by_cases hqk : q = k
        · rw [if_pos (by omega), if_neg (by omega), e1]
          have : ¬ z - 1 = 0 := fun e => h0 (by rw [e1, e]; rfl)
          exact ⟨z - 1, by omega, rfl, Or.inr (by omega)⟩
        · rw [if_neg (by omega), if_neg (by omega)]; exact h5
theorem fold_inv2 {α : Type} {P : α → Prop} {f : Nat → α → α} : ∀ (r k : Nat) (a : α), (∀ j a, k ≤ j → j < k + r → P a → P (f j a)) → P a → P (fold f r k a) := by
  intro r
  induction r with
  | zero => intro k a _ h; exact h
  | succ r ih => intro k a hf h; exact ih (k + 1) _ (fun j a h1 h2 h3 => hf j a (by omega) (by omega) h3) (hf k a (Nat.le_refl _) (by omega) h)
theorem iv_T {v : VS} (iv : IV v) (x : Int32) : IV (wTm x v) := iv
theorem iv_pass {v : VS} (iv : IV v) : IV (passS v).2 := by
  have z : IV (fold pass1 (sN v) 0 (0, v)).2 ∧ sN (fold pass1 (sN v) 0 (0, v)).2 = sN v :=
    fold_inv2 (P := fun a : Int32 × VS => IV a.2 ∧ sN a.2 = sN v) (sN v) 0 (0, v) (fun j a h1 h2 h3 => ⟨iv_pass1 h3.1 j (by rw [h3.2]; omega), (pass1_N j a).trans h3.2⟩) ⟨iv, rfl⟩
  exact z.1
theorem iv_try (S : LW) {v : VS} (iv : IV v) {x : Int32} (hx : celOk (sN v) x) (h6 : sN v ≤ 6) : IV (tryS S x v).2 := by
  rcases hx with rfl | ⟨p, t, hp, ht, rfl⟩
  · exact iv
  · by_cases hc : canS v p t
    · rw [tryS_yes rfl (by omega) ht hc]; exact iv_take S iv hp ht hc
    · rw [tryS_no rfl (by omega) ht hc]; exact iv
theorem iv_min (S : LW) {v : VS} (iv : IV v) {x : Int32} (hx : celOk (sN v) x) (h6 : sN v ≤ 6) : IV (minS1 S x v) := iv_pass (iv_try S iv hx h6)
theorem RC.wT (h : RC o c v) (x : Int32) : RC o (ps o 10 x c) (wTm x v) := by
  refine ⟨?_, ?_, ?_, h.2.2.2.1, h.2.2.2.2⟩
  · rw [gs_ps, if_neg (by omega)]; exact h.1
  · rw [gs_ps, if_pos ⟨rfl, rfl⟩]; rfl
  · rw [gs_ps, if_neg (by omega)]; exact h.2.2.1
theorem c_pass_L : ∀ (r q k : Nat) (a : Int32) (c : ST) (v : VS), RC o c v → sN v ≤ 6 → IV v → k + r = sN v → r < q → ∃ c', f_X0_pass_L4 T q o a (nI k) c = some ((fold pass1 r k (a, v)).1, c') ∧ RC o c' (wTm (sT (fold pass1 r k (a, v)).2 + 1) (fold pass1 r k (a, v)).2) ∧ fr (pCo o) c c' := by
  intro r
  induction r with
  | zero =>
    intro q k a c v h h6 iv hk hq
    obtain ⟨q, rfl⟩ : ∃ z, q = z + 1 := ⟨q - 1, by omega⟩
    rw [f_X0_pass_L4, h.1, if_pos (nI_le (by omega) (by omega))]
    unfold f_X0_pass_L67
    rw [put_eq, h.2.1]
    exact ⟨_, rfl, h.wT _, fr_ps (pCo_o o 10) _ c⟩
  | succ r ih =>
    intro q k a c v h h6 iv hk hq
    obtain ⟨q, rfl⟩ : ∃ z, q = z + 1 := ⟨q - 1, by omega⟩
    rw [f_X0_pass_L4, h.1, if_neg (nI_ge (by omega) (by omega)), ald_nI (by omega) (by omega), h.place (by omega)]
    show ∃ m', _ = some ((fold pass1 r (k + 1) (pass1 k (a, v))).1, m') ∧ RC o m' (wTm (sT (fold pass1 r (k + 1) (pass1 k (a, v))).2 + 1) (fold pass1 r (k + 1) (pass1 k (a, v))).2) ∧ _
    have iv1 := iv_pass1 (a := (a, v)) iv k (by show k < sN v; omega)
    by_cases hh : sR v (12 * k + 10) = -1
    · rw [if_pos hh]
      unfold f_X0_pass_L61
      rw [nI_1]
      have e : pass1 k (a, v) = (a, v) := if_pos hh
      rw [e]
      exact ih q (k + 1) a c v h h6 iv (by omega) (by omega)
    · rw [if_neg hh, ald_nI (by omega) (by omega), h.left (by omega), ast_nI (by omega) (by omega)]
      have h4 : RC o (pa o 7 (upd (ga o 7 c) k (sR v (12 * k + 11) - 1)) c) (wR (12 * k + 11) (sR v (12 * k + 11) - 1) v) := h.wX 7 (by decide) (sR v (12 * k + 11) - 1)
      have f4 := fr_pa (pCo_o o 7) (upd (ga o 7 c) k (sR v (12 * k + 11) - 1)) c
      generalize pa o 7 (upd (ga o 7 c) k (sR v (12 * k + 11) - 1)) c = A1 at h4 f4 ⊢
      rw [ald_nI (by omega) (by omega), h4.left (by omega)]
      have e0 : sR (wR (12 * k + 11) (sR v (12 * k + 11) - 1) v) (12 * k + 11) = sR v (12 * k + 11) - 1 := upd_eq _ _ _
      rw [e0]
      unfold f_X0_pass_L61
      rw [nI_1]
      obtain ⟨z, hz, ez, hz1⟩ := (iv k (by omega)).2.2.2.2.1
      have hz1 : 1 ≤ z := hz1.resolve_left hh
      have e1 : sR v (12 * k + 11) - 1 = nI (z - 1) := by rw [ez]; exact nI_sub (b := 1) hz1
      by_cases h0 : sR v (12 * k + 11) - 1 = 0
      · rw [if_neg (by rw [h0]; decide), ast_nI (by omega) (by omega)]
        have h5 : RC o (pa o 7 (upd (ga o 7 A1) k 0) A1) (wR (12 * k + 11) 0 (wR (12 * k + 11) (sR v (12 * k + 11) - 1) v)) := h4.wX 7 (by decide) 0
        have f5 := fr_pa (pCo_o o 7) (upd (ga o 7 A1) k 0) A1
        generalize pa o 7 (upd (ga o 7 A1) k 0) A1 = A2 at h5 f5 ⊢
        have e2 : wR (12 * k + 11) 0 (wR (12 * k + 11) (sR v (12 * k + 11) - 1) v) = wR (12 * k + 11) (sR v (12 * k + 11) - 1) v := by
          show (upd (upd v.1 (12 * k + 11) (sR v (12 * k + 11) - 1)) (12 * k + 11) 0, v.2) = (upd v.1 (12 * k + 11) (sR v (12 * k + 11) - 1), v.2)
          rw [fa_upd_twice, h0]
        rw [e2] at h5
        rw [ast_nI (by omega) (by omega)]
        have h7 : RC o (pa o 6 (upd (ga o 6 A2) k (-1)) A2) (wR (12 * k + 10) (-1) (wR (12 * k + 11) (sR v (12 * k + 11) - 1) v)) := h5.wX 6 (by decide) (-1)
        have f7 := fr_pa (pCo_o o 6) (upd (ga o 6 A2) k (-1)) A2
        generalize pa o 6 (upd (ga o 6 A2) k (-1)) A2 = A3 at h7 f7 ⊢
        have e : pass1 k (a, v) = (a ||| (1 <<< (nI k &&& 31)), wR (12 * k + 10) (-1) (wR (12 * k + 11) (sR v (12 * k + 11) - 1) v)) := by
          unfold pass1
          rw [if_neg hh, if_pos h0]
        rw [e] at iv1 ⊢
        obtain ⟨m', g1, g2, g3⟩ := ih q (k + 1) (a ||| (1 <<< (nI k &&& 31))) A3 _ h7 h6 iv1 (by show k + 1 + r = sN v; omega) (by omega)
        exact ⟨m', g1, g2, ((f4.trans f5).trans f7).trans g3⟩
      · have hz2 : ¬ z - 1 = 0 := fun e => h0 (by rw [e1, e]; rfl)
        have hpos : 0 < sR v (12 * k + 11) - 1 := by rw [e1]; exact nI_lt (a := 0) (by omega) (by omega)
        rw [if_pos hpos]
        have e : pass1 k (a, v) = (a, wR (12 * k + 11) (sR v (12 * k + 11) - 1) v) := by
          unfold pass1
          rw [if_neg hh, if_neg h0]
        rw [e] at iv1 ⊢
        obtain ⟨m', g1, g2, g3⟩ := ih q (k + 1) a A1 _ h4 h6 iv1 (by show k + 1 + r = sN v; omega) (by omega)
        exact ⟨m', g1, g2, f4.trans g3⟩
theorem c_pass (h : CC S T o c v) : ∃ c', f_X0_pass T o c = some ((passS v).1, c') ∧ CC S T o c' (passS v).2 ∧ fr (pCo o) c c' := by
  obtain ⟨c', e, r, f⟩ := c_pass_L (T := T) (sN v) 1000 0 0 c v h.1 h.2.1 h.2.2.2.2.2 (by omega) (by have := h.2.1; omega)
  have eT : sT (fold pass1 (sN v) 0 (0, v)).2 = sT v := fold_inv (P := fun a : Int32 × VS => sT a.2 = sT v) (fun k a e => (pass1_T k a).trans e) (sN v) 0 (0, v) rfl
  rw [eT] at r
  exact ⟨c', e, ⟨r, by rw [passS_N]; exact h.2.1, by rw [passS_L]; exact h.2.2.1, h.2.2.2.1, h.2.2.2.2.1, iv_pass h.2.2.2.2.2⟩, f⟩
theorem c_whoIsIn_L (x : Int32) : ∀ (r q k : Nat) (a : Int32), RC o c v → sN v ≤ 6 → k + r = sN v → r < q → f_X0_whoIsIn_L4 T q o x a (nI k) c = some (fold (fun k a => if sR v (12 * k + 10) = x then a ||| (1 <<< (nI k &&& 31)) else a) r k a, c) := by
  intro r
  induction r with
  | zero =>
    intro q k a h h6 hk hq
    obtain ⟨q, rfl⟩ : ∃ z, q = z + 1 := ⟨q - 1, by omega⟩
    rw [f_X0_whoIsIn_L4, h.1, if_pos (nI_le (by omega) (by omega))]
    rfl
  | succ r ih =>
    intro q k a h h6 hk hq
    obtain ⟨q, rfl⟩ : ∃ z, q = z + 1 := ⟨q - 1, by omega⟩
    rw [f_X0_whoIsIn_L4, h.1, if_neg (nI_ge (by omega) (by omega)), ald_nI (by omega) (by omega), h.place (by omega)]
    unfold f_X0_whoIsIn_L28
    rw [nI_1, fold]
    by_cases hh : sR v (12 * k + 10) = x
    · rw [if_pos hh, if_pos hh]
      exact ih q (k + 1) _ h h6 (by omega) (by omega)
    · rw [if_neg hh, if_neg hh]
      exact ih q (k + 1) _ h h6 (by omega) (by omega)
theorem c_whoIsIn (h : RC o c v) (h6 : sN v ≤ 6) (x : Int32) : f_X0_whoIsIn T o x c = some (whoS v x, c) := c_whoIsIn_L x (sN v) 1000 0 0 h h6 (by omega) (by omega)
theorem whoS_nI {v : VS} (h6 : sN v ≤ 6) (x : Int32) : ∃ k, k < 256 ∧ whoS v x = nI k := by
  refine fold_inv2 (P := fun a : Int32 => ∃ k, k < 256 ∧ a = nI k) (sN v) 0 0 (fun j a h1 h2 h3 => ?_) ⟨0, by decide, rfl⟩
  obtain ⟨k, hk, rfl⟩ := h3
  show ∃ z, z < 256 ∧ (if sR v (12 * j + 10) = x then nI k ||| (1 <<< (nI j &&& 31)) else nI k) = nI z
  split
  · exact ⟨_, or_bit_lt hk (by omega), or_bit k hk j (by omega)⟩
  · exact ⟨k, hk, rfl⟩
theorem c_howManyHere (h : RC o c v) (h6 : sN v ≤ 6) : f_X0_howManyHere T o c = some (popS (whoS v (-1)), c) := by
  unfold f_X0_howManyHere
  rw [c_whoIsIn h h6, bnd_some]
  obtain ⟨k, hk, e⟩ := whoS_nI h6 (v := v) (-1)
  rw [e, pop_tab k hk]
  rfl
theorem c_mostLeft_L : ∀ (r q k : Nat) (a : Int32), RC o c v → sN v ≤ 6 → k + r = sN v → r < q → f_X0_mostLeft_L4 T q o a (nI k) c = some (fold (fun k a => if sR v (12 * k + 11) ≤ a then a else sR v (12 * k + 11)) r k a, c) := by
  intro r
  induction r with
  | zero =>
    intro q k a h h6 hk hq
    obtain ⟨q, rfl⟩ : ∃ z, q = z + 1 := ⟨q - 1, by omega⟩
    rw [f_X0_mostLeft_L4, h.1, if_pos (nI_le (by omega) (by omega))]
    rfl
  | succ r ih =>
    intro q k a h h6 hk hq
    obtain ⟨q, rfl⟩ : ∃ z, q = z + 1 := ⟨q - 1, by omega⟩
    rw [f_X0_mostLeft_L4, h.1, if_neg (nI_ge (by omega) (by omega)), ald_nI (by omega) (by omega), h.left (by omega), nI_1, fold]
    have e : mxI a (sR v (12 * k + 11)) = if sR v (12 * k + 11) ≤ a then a else sR v (12 * k + 11) := by
      unfold mxI
      by_cases hh : sR v (12 * k + 11) ≤ a
      · rw [if_neg (Int32.not_lt.mpr hh), if_pos hh]
      · rw [if_pos (Int32.not_le.mp hh), if_neg hh]
    rw [e]
    exact ih q (k + 1) _ h h6 (by omega) (by omega)
theorem c_mostLeft (h : RC o c v) (h6 : sN v ≤ 6) : f_X0_mostLeft T o c = some (longS v, c) := c_mostLeft_L (sN v) 1000 0 0 h h6 (by omega) (by omega)
theorem c_allWit_L : ∀ (r q k : Nat) (a : Int32), RC o c v → sN v ≤ 6 → k + r = sN v → r < q → f_X0_allWit_L4 T q o a (nI k) c = some (fold (fun k a => a + sR v (12 * k + 8)) r k a, c) := by
  intro r
  induction r with
  | zero =>
    intro q k a h h6 hk hq
    obtain ⟨q, rfl⟩ : ∃ z, q = z + 1 := ⟨q - 1, by omega⟩
    rw [f_X0_allWit_L4, h.1, if_pos (nI_le (by omega) (by omega))]
    rfl
  | succ r ih =>
    intro q k a h h6 hk hq
    obtain ⟨q, rfl⟩ : ∃ z, q = z + 1 := ⟨q - 1, by omega⟩
    rw [f_X0_allWit_L4, h.1, if_neg (nI_ge (by omega) (by omega)), ald_nI (by omega) (by omega), h.wit (by omega), nI_1, fold]
    exact ih q (k + 1) _ h h6 (by omega) (by omega)
theorem c_allWit (h : RC o c v) (h6 : sN v ≤ 6) : f_X0_allWit T o c = some (witS v, c) := c_allWit_L (sN v) 1000 0 0 h h6 (by omega) (by omega)
theorem c_grainsOf_L {p : Nat} (hp : p < 6) : ∀ (r q k : Nat) (a : Int32), RC o c v → k + r = 8 → r < q → f_X0_grainsOf_L4 T q o (nI p) a (nI k) c = some (fold (fun k a => a + sR v (12 * p + k)) r k a, c) := by
  intro r
  induction r with
  | zero =>
    intro q k a h hk hq
    obtain ⟨q, rfl⟩ : ∃ z, q = z + 1 := ⟨q - 1, by omega⟩
    rw [f_X0_grainsOf_L4, if_pos (c := (8 : Int32) ≤ nI k) (nI_le (a := 8) (by omega) (by omega))]
    rfl
  | succ r ih =>
    intro q k a h hk hq
    obtain ⟨q, rfl⟩ : ∃ z, q = z + 1 := ⟨q - 1, by omega⟩
    rw [f_X0_grainsOf_L4, if_neg (c := (8 : Int32) ≤ nI k) (nI_ge (b := 8) (by omega) (by omega)), iC, ald_nI (by omega) (by omega), h.g (by omega) (by omega), nI_1, fold]
    exact ih q (k + 1) _ h (by omega) (by omega)
theorem c_grainsOf (h : RC o c v) {p : Nat} (hp : p < 6) : f_X0_grainsOf T o (nI p) c = some (grS v p, c) := c_grainsOf_L hp 8 1000 0 0 h (by omega) (by omega)
theorem c_firstUnseen_L {p : Nat} (hp : p < 6) (h : RC o c v) : ∀ (r q k : Nat), k + r = 8 → r < q → f_X0_firstUnseen_L2 T q o (nI p) (nI k) c = some (nI (fuS v p r k), c) := by
  intro r
  induction r with
  | zero =>
    intro q k hk hq
    obtain ⟨q, rfl⟩ : ∃ z, q = z + 1 := ⟨q - 1, by omega⟩
    rw [f_X0_firstUnseen_L2, if_pos (c := (8 : Int32) ≤ nI k) (nI_le (a := 8) (by omega) (by omega)), fuS]
    rfl
  | succ r ih =>
    intro q k hk hq
    obtain ⟨q, rfl⟩ : ∃ z, q = z + 1 := ⟨q - 1, by omega⟩
    rw [f_X0_firstUnseen_L2, if_neg (c := (8 : Int32) ≤ nI k) (nI_ge (b := 8) (by omega) (by omega)), fuS, nI_1]
    by_cases hc : (sR v (12 * p + 9) >>> (nI k &&& 31)) &&& 1 = 0
    · rw [c_hasSand_no h hp hc, bnd_some, if_pos rfl, if_pos hc]
      rfl
    · rw [c_hasSand_yes h hp hc, bnd_some, if_neg one_ne0, if_neg hc]
      exact ih q (k + 1) (by omega) (by omega)
theorem c_firstUnseen {p : Nat} (hp : p < 6) (h : RC o c v) : f_X0_firstUnseen T o (nI p) c = some (nI (fuS v p 8 0), c) := c_firstUnseen_L hp h 8 1000 0 (by omega) (by omega)
theorem c_tries (h : CC S T o c v) (ho : isC o) {x : Int32} (hx : celOk (sN v) x) : ∃ c', f_X0_tries T o x c = some ((tryS S x v).1, c') ∧ CC S T o c' (tryS S x v).2 ∧ fr (pCo o) c c' := by
  have h6 := h.2.1
  unfold f_X0_tries f_X0_tries_L19
  rcases hx with rfl | ⟨p, t, hp, ht, rfl⟩
  · exact ⟨c, rfl, h, fr.refl c⟩
  · obtain ⟨d1, d2⟩ := two_div (p := p) (t := t) (by omega) ht
    rw [if_neg (nI_pos (by omega)), d2, d1]
    by_cases hc : canS v p t
    · rw [tryS_yes rfl (by omega) ht hc, c_can_yes h.1 h6 hp ht hc, bnd_some, if_neg one_ne0]
      obtain ⟨c', e, g1, g2⟩ := c_take h ho hp ht hc
      rw [e]
      exact ⟨c', rfl, g1, g2⟩
    · rw [tryS_no rfl (by omega) ht hc, c_can_no h.1 h6 hp ht hc, bnd_some, if_pos rfl]
      exact ⟨c, rfl, h, fr.refl c⟩
/-- a company becomes another -/
theorem acp6 {α : Type} {o1 k1 o2 k2 : Nat} {σ : ST} {K : ST → Option α} : acp o1 k1 6 o2 k2 6 0 0 6 σ K = K (pa o2 k2 (va_cpy (ga o1 k1 σ) (ga o2 k2 σ) 0 0 6) σ) := rfl
theorem acp48 {α : Type} {o1 k1 o2 k2 : Nat} {σ : ST} {K : ST → Option α} : acp o1 k1 48 o2 k2 48 0 0 48 σ K = K (pa o2 k2 (va_cpy (ga o1 k1 σ) (ga o2 k2 σ) 0 0 48) σ) := rfl
theorem cpy_in {f g : Nat → Int32} {n k : Nat} (h : k < n) : va_cpy f g 0 0 n k = f k := by
  unfold va_cpy
  rw [if_pos ⟨Nat.zero_le _, by omega⟩, Nat.sub_zero, Nat.zero_add]
def pTo (o a k : Nat) : Prop := a = o ∧ 2 ≤ k
theorem c_becomes {o1 : Nat} (hne : o ≠ o1) (h : RC o1 c v) (h6 : sN v ≤ 6) : ∃ c', f_X0_becomes T o o1 c = some ((), c') ∧ RC o c' v ∧ fr (pTo o) c c' := by
  have hne' : ¬ o1 = o := fun e => hne e.symm
  unfold f_X0_becomes
  simp only [acp6, acp48, put_eq]
  refine ⟨_, rfl, ?_, ?_⟩
  · refine ⟨?_, ?_, ?_, fun p hp => ⟨fun t ht => ?_, ?_, ?_, ?_, ?_⟩, fun p hp => ⟨?_, ?_⟩⟩
    · simp only [ga_pa, gs_pa, ga_ps, gs_ps, reduceIte, Nat.reduceEqDiff, reduceCtorEq, and_true, true_and, and_false, false_and, and_self, eq_self, hne, hne']; exact h.1
    · simp only [ga_pa, gs_pa, ga_ps, gs_ps, reduceIte, Nat.reduceEqDiff, reduceCtorEq, and_true, true_and, and_false, false_and, and_self, eq_self, hne, hne']; exact h.2.1
    · simp only [ga_pa, gs_pa, ga_ps, gs_ps, reduceIte, Nat.reduceEqDiff, reduceCtorEq, and_true, true_and, and_false, false_and, and_self, eq_self, hne, hne']; exact h.2.2.1
    · simp only [ga_pa, gs_pa, ga_ps, gs_ps, reduceIte, Nat.reduceEqDiff, reduceCtorEq, and_true, true_and, and_false, false_and, and_self, eq_self, hne, hne']; rw [cpy_in (by omega)]; exact h.g hp ht
    · simp only [ga_pa, gs_pa, ga_ps, gs_ps, reduceIte, Nat.reduceEqDiff, reduceCtorEq, and_true, true_and, and_false, false_and, and_self, eq_self, hne, hne']; rw [cpy_in (by omega)]; exact h.wit hp
    · simp only [ga_pa, gs_pa, ga_ps, gs_ps, reduceIte, Nat.reduceEqDiff, reduceCtorEq, and_true, true_and, and_false, false_and, and_self, eq_self, hne, hne']; rw [cpy_in (by omega)]; exact h.sand hp
    · simp only [ga_pa, gs_pa, ga_ps, gs_ps, reduceIte, Nat.reduceEqDiff, reduceCtorEq, and_true, true_and, and_false, false_and, and_self, eq_self, hne, hne']; rw [cpy_in (by omega)]; exact h.place hp
    · simp only [ga_pa, gs_pa, ga_ps, gs_ps, reduceIte, Nat.reduceEqDiff, reduceCtorEq, and_true, true_and, and_false, false_and, and_self, eq_self, hne, hne']; rw [cpy_in (by omega)]; exact h.left hp
    · simp only [ga_pa, gs_pa, ga_ps, gs_ps, reduceIte, Nat.reduceEqDiff, reduceCtorEq, and_true, true_and, and_false, false_and, and_self, eq_self, hne, hne']; rw [cpy_in (by omega)]; exact (h.2.2.2.2 p hp).1
    · simp only [ga_pa, gs_pa, ga_ps, gs_ps, reduceIte, Nat.reduceEqDiff, reduceCtorEq, and_true, true_and, and_false, false_and, and_self, eq_self, hne, hne']; rw [cpy_in (by omega)]; exact (h.2.2.2.2 p hp).2
  · have z : ∀ k, 2 ≤ k → pTo o o k := fun k hk => ⟨rfl, hk⟩
    exact (((((((((fr_pa (z 2 (by decide)) _ _).trans (fr_pa (z 3 (by decide)) _ _)).trans (fr_pa (z 4 (by decide)) _ _)).trans (fr_pa (z 5 (by decide)) _ _)).trans (fr_pa (z 6 (by decide)) _ _)).trans (fr_pa (z 7 (by decide)) _ _)).trans (fr_pa (z 8 (by decide)) _ _)).trans (fr_ps (z 9 (by decide)) _ _)).trans (fr_ps (z 10 (by decide)) _ _)).trans (fr_ps (z 11 (by decide)) _ _)
end PC4
