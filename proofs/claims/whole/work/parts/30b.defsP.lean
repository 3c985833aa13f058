noncomputable section
def f_X2_isLetter_L17 (T : TX) (s0 : Int32) (σ : ST) : Option (Int32 × ST) := retz s0 σ
def f_X2_isLetter_L16 (T : TX) (σ : ST) : Option (Int32 × ST) := f_X2_isLetter_L17 T (0 : Int32) σ
def f_X2_isLetter (T : TX) (v0 : Int32) (σ : ST) : Option (Int32 × ST) := (if v0 < (97 : Int32) then f_X2_isLetter_L16 T σ else (if (122 : Int32) < v0 then f_X2_isLetter_L16 T σ else f_X2_isLetter_L17 T (1 : Int32) σ))
def f_X2_isDigit_L17 (T : TX) (s0 : Int32) (σ : ST) : Option (Int32 × ST) := retz s0 σ
def f_X2_isDigit_L16 (T : TX) (σ : ST) : Option (Int32 × ST) := f_X2_isDigit_L17 T (0 : Int32) σ
def f_X2_isDigit (T : TX) (v0 : Int32) (σ : ST) : Option (Int32 × ST) := (if v0 < (48 : Int32) then f_X2_isDigit_L16 T σ else (if (57 : Int32) < v0 then f_X2_isDigit_L16 T σ else f_X2_isDigit_L17 T (1 : Int32) σ))
def f_X2_isSign_L53 (T : TX) (s0 : Int32) (σ : ST) : Option (Int32 × ST) := retz s0 σ
def f_X2_isSign_L48 (T : TX) (σ : ST) : Option (Int32 × ST) := f_X2_isSign_L53 T (1 : Int32) σ
def f_X2_isSign (T : TX) (v0 : Int32) (σ : ST) : Option (Int32 × ST) := (if v0 = (40 : Int32) then f_X2_isSign_L48 T σ else (if v0 = (41 : Int32) then f_X2_isSign_L48 T σ else (if v0 = (59 : Int32) then f_X2_isSign_L48 T σ else (if v0 = (43 : Int32) then f_X2_isSign_L48 T σ else (if v0 = (45 : Int32) then f_X2_isSign_L48 T σ else (if v0 = (42 : Int32) then f_X2_isSign_L48 T σ else (if v0 = (60 : Int32) then f_X2_isSign_L48 T σ else (if v0 = (61 : Int32) then f_X2_isSign_L48 T σ else f_X2_isSign_L53 T (0 : Int32) σ))))))))
def f_X2_add_L30 (T : TX) (σ : ST) : Option (Unit × ST) := some ((), σ)
def f_X2_add (T : TX) (v1 : Int32) (σ : ST) : Option (Unit × ST) := (if (160 : Int32) ≤ gs 1 1 σ then f_X2_add_L30 T σ else ast 1 0 160 (gs 1 1 σ) v1 σ (fun t19 => put 1 1 ((gs 1 1 t19) + (1 : Int32)) t19 (fun t27 => f_X2_add_L30 T t27)))
def f_X2_emit_L30 (T : TX) (σ : ST) : Option (Unit × ST) := some ((), σ)
def f_X2_emit (T : TX) (v1 : Int32) (σ : ST) : Option (Unit × ST) := (if (160 : Int32) ≤ gs 1 7 σ then f_X2_emit_L30 T σ else ast 1 6 160 (gs 1 7 σ) v1 σ (fun t19 => put 1 7 ((gs 1 7 t19) + (1 : Int32)) t19 (fun t27 => f_X2_emit_L30 T t27)))
def f_X2_readNumber_L87 (T : TX) (s0 : Int32) (σ : ST) : Option (Unit × ST) := put 1 4 s0 σ (fun t87 => some ((), t87))
def f_X2_readNumber_L68 (T : TX) (σ : ST) : Option (Unit × ST) := (if (gs 1 3 σ) - (gs 1 2 σ) ≤ (4 : Int32) then f_X2_readNumber_L87 T (1 : Int32) σ else f_X2_readNumber_L87 T (2 : Int32) σ)
def f_X2_readNumber_L5 (T : TX) : Nat → ST → Option (Unit × ST)
  | 0, _ => none
  | n + 1, σ => (if gs 1 1 σ ≤ gs 1 3 σ then f_X2_readNumber_L68 T σ else ald (ga 1 0 σ) 160 (gs 1 3 σ) (fun x24 => bnd (f_X2_isDigit T x24 σ) (fun y25 t25 => (if y25 = 0 then f_X2_readNumber_L68 T t25 else ald (ga 1 0 t25) 160 (gs 1 3 t25) (fun x47 => put 1 5 ((((gs 1 5 t25) * (10 : Int32)) + x47) - (48 : Int32)) t25 (fun t52 => put 1 3 ((gs 1 3 t52) + (1 : Int32)) t52 (fun t62 => f_X2_readNumber_L5 T n t62)))))))
def f_X2_readNumber (T : TX) (σ : ST) : Option (Unit × ST) := put 1 5 (0 : Int32) σ (fun t2 => f_X2_readNumber_L5 T 1000 t2)
def f_X2_wordOf (T : TX) (v0 : Int32) (σ : ST) : Option (Nat × ST) := (if v0 = (0 : Int32) then some (0, σ) else (if v0 = (1 : Int32) then some (1, σ) else (if v0 = (2 : Int32) then some (2, σ) else (if v0 = (3 : Int32) then some (3, σ) else (if v0 = (4 : Int32) then some (4, σ) else (if v0 = (5 : Int32) then some (5, σ) else (if v0 = (6 : Int32) then some (6, σ) else (if v0 = (7 : Int32) then some (7, σ) else (if v0 = (8 : Int32) then some (8, σ) else (if v0 = (9 : Int32) then some (9, σ) else (if v0 = (10 : Int32) then some (10, σ) else some (11, σ))))))))))))
def f_X2_spells_L20 (T : TX) : Nat → Nat → Int32 → ST → Option (Int32 × ST)
  | 0, _, _, _ => none
  | n + 1, o1, v2, σ => bnd (f_J0_length o1 σ) (fun y22 t22 => (if y22 ≤ v2 then retz (1 : Int32) t22 else ald (ga 1 0 t22) 160 ((gs 1 2 t22) + v2) (fun x38 => bnd (f_J0_charAt o1 v2 t22) (fun y41 t41 => (if x38 = y41 then f_X2_spells_L20 T n o1 (v2 + (1 : Int32)) t41 else retz (0 : Int32) t41)))))
def f_X2_spells (T : TX) (o1 : Nat) (σ : ST) : Option (Int32 × ST) := bnd (f_J0_length o1 σ) (fun y1 t1 => (if y1 = (gs 1 3 t1) - (gs 1 2 t1) then f_X2_spells_L20 T 1000 o1 (0 : Int32) t1 else retz (0 : Int32) t1))
def f_X2_readWord_L72 (T : TX) (k46 : Int32 → ST → Option (Unit × ST)) (v1 : Int32) (σ : ST) : Option (Unit × ST) := k46 (v1 + (1 : Int32)) σ
def f_X2_readWord_L46 (T : TX) : Nat → Int32 → ST → Option (Unit × ST)
  | 0, _, _ => none
  | n + 1, v1, σ => (if (12 : Int32) ≤ v1 then some ((), σ) else bnd (f_X2_wordOf T v1 σ) (fun y54 t54 => if y54 < 13 then bnd (f_X2_spells T y54 t54) (fun y57 t57 => (if y57 = 0 then f_X2_readWord_L72 T (fun v1 σ => f_X2_readWord_L46 T n v1 σ) v1 t57 else put 1 4 ((1000 : Int32) + v1) t57 (fun t69 => f_X2_readWord_L72 T (fun v1 σ => f_X2_readWord_L46 T n v1 σ) v1 t69))) else none))
def f_X2_readWord_L39 (T : TX) (σ : ST) : Option (Unit × ST) := put 1 4 (2 : Int32) σ (fun t41 => f_X2_readWord_L46 T 1000 (0 : Int32) t41)
def f_X2_readWord_L0 (T : TX) : Nat → ST → Option (Unit × ST)
  | 0, _ => none
  | n + 1, σ => (if gs 1 1 σ ≤ gs 1 3 σ then f_X2_readWord_L39 T σ else ald (ga 1 0 σ) 160 (gs 1 3 σ) (fun x19 => bnd (f_X2_isLetter T x19 σ) (fun y20 t20 => (if y20 = 0 then f_X2_readWord_L39 T t20 else put 1 3 ((gs 1 3 t20) + (1 : Int32)) t20 (fun t33 => f_X2_readWord_L0 T n t33)))))
def f_X2_readWord (T : TX) (σ : ST) : Option (Unit × ST) := f_X2_readWord_L0 T 1000 σ
def f_X2_readToken_L39 (T : TX) (k0 : ST → Option (Unit × ST)) (σ : ST) : Option (Unit × ST) := put 1 3 ((gs 1 3 σ) + (1 : Int32)) σ (fun t46 => k0 t46)
def f_X2_readToken_L165 (T : TX) (σ : ST) : Option (Unit × ST) := some ((), σ)
def f_X2_readToken_L152 (T : TX) (s0 : Int32) (σ : ST) : Option (Unit × ST) := put 1 4 s0 σ (fun t152 => put 1 3 ((gs 1 3 t152) + (1 : Int32)) t152 (fun t162 => f_X2_readToken_L165 T t162))
def f_X2_readToken_L52 (T : TX) (σ : ST) : Option (Unit × ST) := put 1 2 (gs 1 3 σ) σ (fun t57 => (if gs 1 3 t57 < gs 1 1 t57 then ald (ga 1 0 t57) 160 (gs 1 3 t57) (fun x87 => bnd (f_X2_isLetter T x87 t57) (fun y88 t88 => (if y88 = 0 then ald (ga 1 0 t88) 160 (gs 1 3 t88) (fun x109 => bnd (f_X2_isDigit T x109 t88) (fun y110 t110 => (if y110 = 0 then ald (ga 1 0 t110) 160 (gs 1 3 t110) (fun x132 => bnd (f_X2_isSign T x132 t110) (fun y133 t133 => (if y133 = 0 then f_X2_readToken_L152 T (2 : Int32) t133 else ald (ga 1 0 t133) 160 (gs 1 3 t133) (fun x147 => f_X2_readToken_L152 T x147 t133)))) else bnd (f_X2_readNumber T t110) (fun _ t117 => f_X2_readToken_L165 T t117)))) else bnd (f_X2_readWord T t88) (fun _ t95 => f_X2_readToken_L165 T t95)))) else put 1 4 (0 : Int32) t57 (fun t73 => f_X2_readToken_L165 T t73)))
def f_X2_readToken_L0 (T : TX) : Nat → ST → Option (Unit × ST)
  | 0, _ => none
  | n + 1, σ => (if gs 1 1 σ ≤ gs 1 3 σ then f_X2_readToken_L52 T σ else ald (ga 1 0 σ) 160 (gs 1 3 σ) (fun x19 => (if x19 = (32 : Int32) then f_X2_readToken_L39 T (fun  σ => f_X2_readToken_L0 T n  σ) σ else ald (ga 1 0 σ) 160 (gs 1 3 σ) (fun x33 => (if x33 = (10 : Int32) then f_X2_readToken_L39 T (fun  σ => f_X2_readToken_L0 T n  σ) σ else f_X2_readToken_L52 T σ)))))
def f_X2_readToken (T : TX) (σ : ST) : Option (Unit × ST) := f_X2_readToken_L0 T 1000 σ
def f_X2_passes (T : TX) (v1 : Int32) (σ : ST) : Option (Int32 × ST) := (if gs 1 4 σ = v1 then bnd (f_X2_readToken T σ) (fun _ t11 => retz (1 : Int32) t11) else retz (0 : Int32) σ)
def f_X2_readAny_L51 (T : TX) (rd : Nat → Int32 → ST → Option (Int32 × ST)) (v2 : Int32) (σ : ST) : Option (Int32 × ST) := retz v2 σ
def f_X2_readAny_L8 (T : TX) (rd : Nat → Int32 → ST → Option (Int32 × ST)) : Nat → Int32 → Int32 → Int32 → ST → Option (Int32 × ST)
  | 0, _, _, _, _ => none
  | n + 1, v1, v2, v3, σ => (if (160 : Int32) ≤ v3 then f_X2_readAny_L51 T rd v2 σ else (if v2 = 0 then f_X2_readAny_L51 T rd v2 σ else (if gs 1 4 σ = (1003 : Int32) then bnd (f_X2_readToken T σ) (fun _ t30 => bnd (rd 1 v1 t30) (fun y35 t35 => bnd (f_X2_emit T (-9 : Int32) t35) (fun _ t42 => f_X2_readAny_L8 T rd n v1 y35 (v3 + (1 : Int32)) t42))) else f_X2_readAny_L51 T rd v2 σ)))
def f_X2_readAny (T : TX) (rd : Nat → Int32 → ST → Option (Int32 × ST)) (v1 : Int32) (σ : ST) : Option (Int32 × ST) := bnd (rd 1 v1 σ) (fun y2 t2 => f_X2_readAny_L8 T rd 1000 v1 y2 (0 : Int32) t2)
def f_X2_readBoth_L51 (T : TX) (rd : Nat → Int32 → ST → Option (Int32 × ST)) (v2 : Int32) (σ : ST) : Option (Int32 × ST) := retz v2 σ
def f_X2_readBoth_L8 (T : TX) (rd : Nat → Int32 → ST → Option (Int32 × ST)) : Nat → Int32 → Int32 → Int32 → ST → Option (Int32 × ST)
  | 0, _, _, _, _ => none
  | n + 1, v1, v2, v3, σ => (if (160 : Int32) ≤ v3 then f_X2_readBoth_L51 T rd v2 σ else (if v2 = 0 then f_X2_readBoth_L51 T rd v2 σ else (if gs 1 4 σ = (1004 : Int32) then bnd (f_X2_readToken T σ) (fun _ t30 => bnd (rd 2 v1 t30) (fun y35 t35 => bnd (f_X2_emit T (-10 : Int32) t35) (fun _ t42 => f_X2_readBoth_L8 T rd n v1 y35 (v3 + (1 : Int32)) t42))) else f_X2_readBoth_L51 T rd v2 σ)))
def f_X2_readBoth (T : TX) (rd : Nat → Int32 → ST → Option (Int32 × ST)) (v1 : Int32) (σ : ST) : Option (Int32 × ST) := bnd (rd 2 v1 σ) (fun y2 t2 => f_X2_readBoth_L8 T rd 1000 v1 y2 (0 : Int32) t2)
def f_X2_readNot_L97 (T : TX) (rd : Nat → Int32 → ST → Option (Int32 × ST)) (v2 : Int32) (σ : ST) : Option (Int32 × ST) := retz v2 σ
def f_X2_readNot_L81 (T : TX) (rd : Nat → Int32 → ST → Option (Int32 × ST)) (v1 : Int32) (s0 : Int32) (σ : ST) : Option (Int32 × ST) := bnd (f_X2_readToken T σ) (fun _ t83 => bnd (rd 3 v1 t83) (fun y88 t88 => bnd (f_X2_emit T s0 t88) (fun _ t94 => f_X2_readNot_L97 T rd y88 t94)))
def f_X2_readNot_L65 (T : TX) (rd : Nat → Int32 → ST → Option (Int32 × ST)) (v1 : Int32) (σ : ST) : Option (Int32 × ST) := (if gs 1 4 σ = (60 : Int32) then f_X2_readNot_L81 T rd v1 (-11 : Int32) σ else f_X2_readNot_L81 T rd v1 (-12 : Int32) σ)
def f_X2_readNot (T : TX) (rd : Nat → Int32 → ST → Option (Int32 × ST)) (v1 : Int32) (σ : ST) : Option (Int32 × ST) := (if gs 1 4 σ = (1005 : Int32) then (if v1 < (5 : Int32) then bnd (f_X2_readToken T σ) (fun _ t18 => bnd (rd 2 (v1 + (1 : Int32)) t18) (fun y25 t25 => bnd (f_X2_emit T (-8 : Int32) t25) (fun _ t32 => retz y25 t32))) else retz (0 : Int32) σ) else bnd (rd 3 v1 σ) (fun y39 t39 => (if y39 = 0 then f_X2_readNot_L97 T rd y39 t39 else (if gs 1 4 t39 = (60 : Int32) then f_X2_readNot_L65 T rd v1 t39 else (if gs 1 4 t39 = (61 : Int32) then f_X2_readNot_L65 T rd v1 t39 else f_X2_readNot_L97 T rd y39 t39)))))
def f_X2_readSum_L53 (T : TX) (rd : Nat → Int32 → ST → Option (Int32 × ST)) (k8 : Int32 → Int32 → Int32 → ST → Option (Int32 × ST)) (v1 : Int32) (v3 : Int32) (s0 : Int32) (σ : ST) : Option (Int32 × ST) := bnd (f_X2_readToken T σ) (fun _ t56 => bnd (rd 4 v1 t56) (fun y61 t61 => bnd (f_X2_emit T s0 t61) (fun _ t68 => k8 v1 y61 (v3 + (1 : Int32)) t68)))
def f_X2_readSum_L37 (T : TX) (rd : Nat → Int32 → ST → Option (Int32 × ST)) (k8 : Int32 → Int32 → Int32 → ST → Option (Int32 × ST)) (v1 : Int32) (v3 : Int32) (σ : ST) : Option (Int32 × ST) := (if gs 1 4 σ = (43 : Int32) then f_X2_readSum_L53 T rd k8 v1 v3 (-13 : Int32) σ else f_X2_readSum_L53 T rd k8 v1 v3 (-14 : Int32) σ)
def f_X2_readSum_L77 (T : TX) (rd : Nat → Int32 → ST → Option (Int32 × ST)) (v2 : Int32) (σ : ST) : Option (Int32 × ST) := retz v2 σ
def f_X2_readSum_L8 (T : TX) (rd : Nat → Int32 → ST → Option (Int32 × ST)) : Nat → Int32 → Int32 → Int32 → ST → Option (Int32 × ST)
  | 0, _, _, _, _ => none
  | n + 1, v1, v2, v3, σ => (if (160 : Int32) ≤ v3 then f_X2_readSum_L77 T rd v2 σ else (if v2 = 0 then f_X2_readSum_L77 T rd v2 σ else (if gs 1 4 σ = (43 : Int32) then f_X2_readSum_L37 T rd (fun v1 v2 v3 σ => f_X2_readSum_L8 T rd n v1 v2 v3 σ) v1 v3 σ else (if gs 1 4 σ = (45 : Int32) then f_X2_readSum_L37 T rd (fun v1 v2 v3 σ => f_X2_readSum_L8 T rd n v1 v2 v3 σ) v1 v3 σ else f_X2_readSum_L77 T rd v2 σ))))
def f_X2_readSum (T : TX) (rd : Nat → Int32 → ST → Option (Int32 × ST)) (v1 : Int32) (σ : ST) : Option (Int32 × ST) := bnd (rd 4 v1 σ) (fun y2 t2 => f_X2_readSum_L8 T rd 1000 v1 y2 (0 : Int32) t2)
def f_X2_readTerm_L50 (T : TX) (rd : Nat → Int32 → ST → Option (Int32 × ST)) (v2 : Int32) (σ : ST) : Option (Int32 × ST) := retz v2 σ
def f_X2_readTerm_L8 (T : TX) (rd : Nat → Int32 → ST → Option (Int32 × ST)) : Nat → Int32 → Int32 → Int32 → ST → Option (Int32 × ST)
  | 0, _, _, _, _ => none
  | n + 1, v1, v2, v3, σ => (if (160 : Int32) ≤ v3 then f_X2_readTerm_L50 T rd v2 σ else (if v2 = 0 then f_X2_readTerm_L50 T rd v2 σ else (if gs 1 4 σ = (42 : Int32) then bnd (f_X2_readToken T σ) (fun _ t29 => bnd (rd 5 v1 t29) (fun y34 t34 => bnd (f_X2_emit T (-15 : Int32) t34) (fun _ t41 => f_X2_readTerm_L8 T rd n v1 y34 (v3 + (1 : Int32)) t41))) else f_X2_readTerm_L50 T rd v2 σ)))
def f_X2_readTerm (T : TX) (rd : Nat → Int32 → ST → Option (Int32 × ST)) (v1 : Int32) (σ : ST) : Option (Int32 × ST) := bnd (rd 5 v1 σ) (fun y2 t2 => f_X2_readTerm_L8 T rd 1000 v1 y2 (0 : Int32) t2)
def f_X2_readOne_L75 (T : TX) (rd : Nat → Int32 → ST → Option (Int32 × ST)) (σ : ST) : Option (Int32 × ST) := retz (0 : Int32) σ
def f_X2_readOne_L114 (T : TX) (rd : Nat → Int32 → ST → Option (Int32 × ST)) (s0 : Int32) (σ : ST) : Option (Int32 × ST) := retz s0 σ
def f_X2_readOne_L113 (T : TX) (rd : Nat → Int32 → ST → Option (Int32 × ST)) (σ : ST) : Option (Int32 × ST) := f_X2_readOne_L114 T rd (0 : Int32) σ
def f_X2_readOne_L70 (T : TX) (rd : Nat → Int32 → ST → Option (Int32 × ST)) (v1 : Int32) (σ : ST) : Option (Int32 × ST) := (if v1 < (5 : Int32) then (if gs 1 4 σ = (40 : Int32) then bnd (f_X2_readToken T σ) (fun _ t87 => bnd (rd 0 (v1 + (1 : Int32)) t87) (fun y94 t94 => (if y94 = 0 then f_X2_readOne_L113 T rd t94 else bnd (f_X2_passes T (41 : Int32) t94) (fun y103 t103 => (if y103 = 0 then f_X2_readOne_L113 T rd t103 else f_X2_readOne_L114 T rd (1 : Int32) t103))))) else bnd (f_X2_readToken T σ) (fun _ t116 => bnd (rd 5 (v1 + (1 : Int32)) t116) (fun y123 t123 => bnd (f_X2_emit T (-7 : Int32) t123) (fun _ t130 => retz y123 t130)))) else f_X2_readOne_L75 T rd σ)
def f_X2_readOne (T : TX) (rd : Nat → Int32 → ST → Option (Int32 × ST)) (v1 : Int32) (σ : ST) : Option (Int32 × ST) := (if gs 1 4 σ = (1 : Int32) then bnd (f_X2_emit T (gs 1 5 σ) σ) (fun _ t13 => bnd (f_X2_readToken T t13) (fun _ t17 => retz (1 : Int32) t17)) else (if gs 1 4 σ < (1006 : Int32) then (if gs 1 4 σ = (45 : Int32) then f_X2_readOne_L70 T rd v1 σ else (if gs 1 4 σ = (40 : Int32) then f_X2_readOne_L70 T rd v1 σ else f_X2_readOne_L75 T rd σ)) else bnd (f_X2_emit T ((-1 : Int32) - ((gs 1 4 σ) - (1006 : Int32))) σ) (fun _ t43 => bnd (f_X2_readToken T t43) (fun _ t47 => retz (1 : Int32) t47))))
def f_rd (T : TX) : Nat → Nat → Int32 → ST → Option (Int32 × ST)
  | 0, _, _, _ => none
  | d + 1, w, v, σ => if w = 0 then f_X2_readAny T (f_rd T d) v σ else if w = 1 then f_X2_readBoth T (f_rd T d) v σ else if w = 2 then f_X2_readNot T (f_rd T d) v σ else if w = 3 then f_X2_readSum T (f_rd T d) v σ else if w = 4 then f_X2_readTerm T (f_rd T d) v σ else f_X2_readOne T (f_rd T d) v σ
def f_X2_isText_L50 (T : TX) (σ : ST) : Option (Int32 × ST) := retz (0 : Int32) σ
def f_X2_isText_L80 (T : TX) (s0 : Int32) (σ : ST) : Option (Int32 × ST) := retz s0 σ
def f_X2_isText_L68 (T : TX) (σ : ST) : Option (Int32 × ST) := (if gs 1 4 σ = 0 then f_X2_isText_L80 T (1 : Int32) σ else f_X2_isText_L80 T (0 : Int32) σ)
def f_X2_isText_L16 (T : TX) : Nat → Int32 → ST → Option (Int32 × ST)
  | 0, _, _ => none
  | n + 1, v1, σ => (if (3 : Int32) ≤ v1 then f_X2_isText_L68 T σ else bnd (f_X2_passes T ((1000 : Int32) + v1) σ) (fun y27 t27 => (if y27 = 0 then f_X2_isText_L50 T t27 else bnd (f_rd T 60 0 (0 : Int32) t27) (fun y35 t35 => (if y35 = 0 then f_X2_isText_L50 T t35 else bnd (f_X2_passes T (59 : Int32) t35) (fun y44 t44 => (if y44 = 0 then f_X2_isText_L50 T t44 else ast 1 8 3 v1 (gs 1 7 t44) t44 (fun t61 => f_X2_isText_L16 T n (v1 + (1 : Int32)) t61))))))))
def f_X2_isText (T : TX) (σ : ST) : Option (Int32 × ST) := put 1 3 (0 : Int32) σ (fun t2 => put 1 7 (0 : Int32) t2 (fun t7 => bnd (f_X2_readToken T t7) (fun _ t11 => f_X2_isText_L16 T 1000 (0 : Int32) t11)))
end
