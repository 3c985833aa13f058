/-! THE PURE PART: what both programs stand for -/
section PBase
theorem nI_mul (a b : Nat) : nI a * nI b = nI (a * b) := (Int32.ofNat_mul a b).symm
theorem nI_sub {a b : Nat} (h : b ≤ a) : nI a - nI b = nI (a - b) := by
  apply Int32.toBitVec_inj.mp
  show BitVec.ofNat 32 a - BitVec.ofNat 32 b = BitVec.ofNat 32 (a - b)
  apply BitVec.eq_of_toNat_eq
  simp only [BitVec.toNat_sub, BitVec.toNat_ofNat]
  omega
theorem i32_add {a b : Int32} (h1 : -2147483648 ≤ a.toInt + b.toInt) (h2 : a.toInt + b.toInt < 2147483648) : (a + b).toInt = a.toInt + b.toInt := by
  rw [Int32.toInt_add]
  exact Int.bmod_eq_of_le (by omega) (by omega)
theorem bnd_some {α β : Type} (a : α) (σ : ST) (K : α → ST → Option β) : bnd (some (a, σ)) K = K a σ := rfl
theorem put_eq {α : Type} (o k : Nat) (v : Int32) (σ : ST) (K : ST → Option α) : put o k v σ K = K (ps o k v σ) := rfl
theorem ald_nI {α : Type} {f : Nat → Int32} {n j : Nat} {K : Int32 → Option α} (h : j < n) (hn : n < 2147483648) : ald f n (nI j) K = K (f j) := by
  unfold ald
  rw [if_neg (nI_in h hn), nI_clamp (by omega)]
theorem ast_nI {α : Type} {o k n j : Nat} {x : Int32} {σ : ST} {K : ST → Option α} (h : j < n) (hn : n < 2147483648) : ast o k n (nI j) x σ K = K (pa o k (upd (ga o k σ) j x) σ) := by
  unfold ast
  rw [if_neg (nI_in h hn), nI_clamp (by omega)]
theorem ald_lit {α : Type} {f : Nat → Int32} {n j : Nat} {K : Int32 → Option α} (h : j < n) (hn : n < 2147483648) : ald f n (OfNat.ofNat j : Int32) K = K (f j) := ald_nI h hn
theorem ast_lit {α : Type} {o k n j : Nat} {x : Int32} {σ : ST} {K : ST → Option α} (h : j < n) (hn : n < 2147483648) : ast o k n (OfNat.ofNat j : Int32) x σ K = K (pa o k (upd (ga o k σ) j x) σ) := ast_nI h hn
theorem chk_nI {α : Type} {n j : Nat} {r : Option α} (h : j < n) (hn : n < 2147483648) : chk (nI j) n r = r := by
  unfold chk
  rw [if_neg (nI_in h hn)]
theorem retz_0 (σ : ST) : retz 0 σ = some (0, σ) := rfl
theorem retz_1 (σ : ST) : retz 1 σ = some (1, σ) := rfl
theorem gs_ps (a b o k : Nat) (v : Int32) (σ : ST) : gs a b (ps o k v σ) = if a = o ∧ b = k then v else gs a b σ := rfl
theorem ga_ps (a b o k : Nat) (v : Int32) (σ : ST) : ga a b (ps o k v σ) = ga a b σ := rfl
theorem gs_pa (a b o k : Nat) (f : Nat → Int32) (σ : ST) : gs a b (pa o k f σ) = gs a b σ := rfl
theorem ga_pa (a b o k : Nat) (f : Nat → Int32) (σ : ST) : ga a b (pa o k f σ) = if a = o ∧ b = k then f else ga a b σ := rfl
theorem upd_at (f : Nat → Int32) (i j : Nat) (x : Int32) : upd f i x j = if j = i then x else f j := rfl
theorem upd_eq (f : Nat → Int32) (i : Nat) (x : Int32) : upd f i x i = x := if_pos rfl
theorem upd_ne (f : Nat → Int32) {i j : Nat} (x : Int32) (h : j ≠ i) : upd f i x j = f j := if_neg h
theorem one_ne0 : ¬ (1 : Int32) = 0 := by decide
/-- what a step may write -/
def fr (P : Nat → Nat → Prop) (a b : ST) : Prop := ∀ o k, ¬ P o k → b.1 o k = a.1 o k ∧ b.2 o k = a.2 o k
theorem fr.refl {P : Nat → Nat → Prop} (a : ST) : fr P a a := fun _ _ _ => ⟨rfl, rfl⟩
theorem fr.trans {P : Nat → Nat → Prop} {a b c : ST} (h : fr P a b) (g : fr P b c) : fr P a c := fun o k q => ⟨((g o k q).1).trans (h o k q).1, ((g o k q).2).trans (h o k q).2⟩
theorem fr.mono {P Q : Nat → Nat → Prop} {a b : ST} (h : fr P a b) (g : ∀ o k, P o k → Q o k) : fr Q a b := fun o k q => h o k (fun z => q (g o k z))
theorem fr.gs {P : Nat → Nat → Prop} {a b : ST} (h : fr P a b) {o k : Nat} (g : ¬ P o k) : gs o k b = gs o k a := (h o k g).1
theorem fr.ga {P : Nat → Nat → Prop} {a b : ST} (h : fr P a b) {o k : Nat} (g : ¬ P o k) : ga o k b = ga o k a := (h o k g).2
theorem fr_ps {P : Nat → Nat → Prop} {o k : Nat} (h : P o k) (v : Int32) (σ : ST) : fr P σ (ps o k v σ) := fun a b q => ⟨by
  show (if a = o ∧ b = k then v else σ.1 a b) = σ.1 a b
  rw [if_neg]
  rintro ⟨rfl, rfl⟩
  exact q h, rfl⟩
theorem fr_pa {P : Nat → Nat → Prop} {o k : Nat} (h : P o k) (f : Nat → Int32) (σ : ST) : fr P σ (pa o k f σ) := fun a b q => ⟨rfl, by
  show (if a = o ∧ b = k then f else σ.2 a b) = σ.2 a b
  rw [if_neg]
  rintro ⟨rfl, rfl⟩
  exact q h⟩
/-- a count from k on, r times -/
def fold {α : Type} (f : Nat → α → α) : Nat → Nat → α → α
  | 0, _, a => a
  | r + 1, k, a => fold f r (k + 1) (f k a)
theorem iM (p t : Nat) : (12 : Int32) * nI p + nI t = nI (12 * p + t) := by
  show nI 12 * nI p + nI t = _
  rw [nI_mul, nI_add]
theorem iM8 (p : Nat) : (12 : Int32) * nI p + (8 : Int32) = nI (12 * p + 8) := iM p 8
theorem iM9 (p : Nat) : (12 : Int32) * nI p + (9 : Int32) = nI (12 * p + 9) := iM p 9
theorem iM10 (p : Nat) : (12 : Int32) * nI p + (10 : Int32) = nI (12 * p + 10) := iM p 10
theorem iM11 (p : Nat) : (12 : Int32) * nI p + (11 : Int32) = nI (12 * p + 11) := iM p 11
theorem iC (p t : Nat) : nI p * (8 : Int32) + nI t = nI (8 * p + t) := by
  show nI p * nI 8 + nI t = _
  rw [nI_mul, nI_add, Nat.mul_comm]
/-- between two bounds, as a number from 0 on -/
theorem in_nI {v : Int32} {n : Nat} (hn : n < 2147483648) : (0 ≤ v ∧ v ≤ nI n) ↔ ∃ k, k ≤ n ∧ v = nI k := by
  constructor
  · rintro ⟨h1, h2⟩
    exact nI_of2 (nI_toInt hn) (Int32.not_lt.mpr h1) h2
  · rintro ⟨k, hk, rfl⟩
    exact ⟨nI_pos' (by omega), nI_le hk hn⟩
theorem le_pred {v : Int32} {N : Nat} (hN : N < 2147483648) : (0 ≤ v ∧ v ≤ nI N - 1) ↔ ∃ k, k < N ∧ v = nI k := by
  cases N with
  | zero =>
    constructor
    · rintro ⟨h1, h2⟩
      have e : (nI 0 - 1).toInt = -1 := by decide
      have a := Int32.le_iff_toInt_le.mp h1
      have b := Int32.le_iff_toInt_le.mp h2
      have z : (0 : Int32).toInt = 0 := by decide
      omega
    · rintro ⟨k, hk, _⟩
      omega
  | succ N =>
    rw [nI_pred, in_nI (by omega)]
    constructor
    · rintro ⟨k, hk, e⟩; exact ⟨k, by omega, e⟩
    · rintro ⟨k, hk, e⟩; exact ⟨k, by omega, e⟩
theorem i32_nI (x : Int32) : ∃ n, n < 4294967296 ∧ x = nI n := ⟨x.toBitVec.toNat, x.toBitVec.isLt, Int32.toBitVec_inj.mp (by show _ = BitVec.ofNat 32 _; simp)⟩
end PBase
/-! THE STATE that both stand for: rows twelve by twelve, kinds, mores, how many, the minute, the rule -/
abbrev VS : Type := (Nat → Int32) × (Nat → Int32) × (Nat → Int32) × Nat × Int32 × Nat
def sR (v : VS) : Nat → Int32 := v.1
def sK (v : VS) : Nat → Int32 := v.2.1
def sO (v : VS) : Nat → Int32 := v.2.2.1
def sN (v : VS) : Nat := v.2.2.2.1
def sT (v : VS) : Int32 := v.2.2.2.2.1
def sL (v : VS) : Nat := v.2.2.2.2.2
def wR (i : Nat) (x : Int32) (v : VS) : VS := (upd v.1 i x, v.2)
def wTm (x : Int32) (v : VS) : VS := (v.1, v.2.1, v.2.2.1, v.2.2.2.1, x, v.2.2.2.2.2)
/-- the texts: text, part, what the names stand for -/
abbrev LW : Type := Nat → Nat → (Nat → Int32) → Int32
def popS (x : Int32) : Int32 := fold (fun k a => a + ((x >>> (nI k &&& 31)) &&& 1)) 8 0 0
def wiS (x lo hi : Int32) : Int32 := if lo ≤ x then (if x ≤ hi then x else hi) else lo
def nmS (v : VS) (p t : Nat) (k : Nat) : Int32 := if k = 0 then nI t else if k = 1 then sR v (12 * p + t) else if k = 2 then sR v (12 * p + 8) else if k = 3 then popS (sR v (12 * p + 9)) else if k = 4 then sT v else sO v p
def askS (S : LW) (v : VS) (part p t : Nat) : Int32 := wiS (S (sL v) part (nmS v p t)) (if part = 1 then -99 else 0) (if part = 2 then 9 else 99)
def m1 (x : Int32) : Int32 := if 1 ≤ x then x else 1
def goS (S : LW) (v : VS) (p t : Nat) : Int32 :=
  if sK v p = 5 then m1 (sO v p) else m1 (if sK v p = 1 then askS S v 0 p t / 2 else if sK v p = 2 then askS S v 0 p t + 10 else if sK v p = 3 then (if nI t = sO v p - sO v p / 8 * 8 then 1 else askS S v 0 p t / 2) else if sK v p = 4 then (if nI t = 7 then 99 else (askS S v 0 p t + 10) / 3) else askS S v 0 p t)
def sandS (v : VS) (p t : Nat) : Prop := ¬ (sR v (12 * p + 9) >>> (nI t &&& 31)) &&& 1 = 0
noncomputable def gaS (S : LW) (v : VS) (p t : Nat) : Int32 :=
  if sK v p = 1 then (if (sR v (12 * p + 9) >>> (nI t &&& 31)) &&& 1 = 0 then askS S v 1 p t + sO v p else askS S v 1 p t) else if sK v p = 3 then (if (sR v (12 * p + 9) >>> (nI t &&& 31)) &&& 1 = 0 then 2 * (askS S v 1 p t + sO v p) else 0) else if sK v p = 4 then - askS S v 1 p t else askS S v 1 p t
def spS (S : LW) (v : VS) (p t : Nat) : Int32 :=
  if sK v p = 5 then 0 else if sK v p = 2 ∨ sK v p = 4 then (if sT v - sT v / 2 * 2 = 0 then askS S v 2 p t + 1 else 0) else askS S v 2 p t
def hereS (v : VS) (p : Nat) : Prop := sR v (12 * p + 10) = -1
def canS (v : VS) (p t : Nat) : Prop := sR v (12 * p + 10) = -1 ∧ 0 < sR v (12 * p + t)
def minS (x y : Int32) : Int32 := if x ≤ y then x else y
/-- who comes next -/
def nxS (v : VS) (p : Nat) : Nat := if p + 1 = sN v then 0 else p + 1
noncomputable def takeS (S : LW) (v : VS) (p t : Nat) : VS :=
  let w1 := wR (12 * p + t) (sR v (12 * p + t) - 1) v
  let q := nxS v p
  let much := minS (minS (sR w1 (12 * p + t)) (spS S v p t)) (9 - sR w1 (12 * q + t))
  let w2 := wR (12 * p + t) (sR w1 (12 * p + t) - much) w1
  let w3 := if q = p then w1 else wR (12 * q + t) (sR w2 (12 * q + t) + much) w2
  let w4 := wR (12 * p + 8) (wiS (sR w3 (12 * p + 8) + gaS S v p t) 0 99) w3
  let w5 := wR (12 * p + 9) (sR w4 (12 * p + 9) ||| (1 <<< (nI t &&& 31))) w4
  let w6 := wR (12 * p + 10) (nI t) w5
  wR (12 * p + 11) (goS S v p t) w6
/-- one passes a minute -/
def pass1 (k : Nat) (a : Int32 × VS) : Int32 × VS :=
  if sR a.2 (12 * k + 10) = -1 then a else
    if sR a.2 (12 * k + 11) - 1 = 0 then (a.1 ||| (1 <<< (nI k &&& 31)), wR (12 * k + 10) (-1) (wR (12 * k + 11) (sR a.2 (12 * k + 11) - 1) a.2))
    else (a.1, wR (12 * k + 11) (sR a.2 (12 * k + 11) - 1) a.2)
def passS (v : VS) : Int32 × VS := ((fold pass1 (sN v) 0 (0, v)).1, wTm (sT v + 1) (fold pass1 (sN v) 0 (0, v)).2)
