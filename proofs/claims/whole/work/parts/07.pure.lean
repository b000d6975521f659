-- X3_pageOf
def f_X3_pageOf (a1 a2 : Int32) (σ : St) : Option Int32 := ld σ 14 48 ((2 * a1) + a2) (fun x1 => some x1)
-- X3_has
def f_X3_has (a1 a2 : Int32) (σ : St) : Option Int32 := bi (f_X3_pageOf a1 a2 σ) (fun x1 => if x1 = (-9) then gb 0 (some 0) else gb 1 (some 1))
-- X0_lastOnward
def f_X0_lastOnward_L5 (σ : St) : Nat → Int32 → Int32 → Int32 → Option Int32
  | 0, _, _, _ => none
  | n + 1, a1, a2, a3 => lf σ 5 10 (fun x1 => if x1 ≤ a3 then some a2 else ld σ 26 24 a3 (fun x2 => ld σ 24 24 x2 (fun x3 => if x3 = a1 then bi (f_X3_has x2 0 σ) (fun x4 => if x4 = 0 then f_X0_lastOnward_L5 σ n a1 a2 (a3 + 1) else f_X0_lastOnward_L5 σ n a1 x2 (a3 + 1)) else f_X0_lastOnward_L5 σ n a1 a2 (a3 + 1))))
def f_X0_lastOnward (a1 : Int32) (σ : St) : Option Int32 := f_X0_lastOnward_L5 σ 64 a1 (-9) 0
-- X3_wordOf
def f_X3_wordOf (a1 a2 : Int32) (σ : St) : Option Int32 := ld σ 15 48 ((2 * a1) + a2) (fun x1 => some x1)
-- X0_aimOf
def f_X0_aimOf_B76 (σ : St) (K : Int32 → Int32 → Int32 → Int32 → Option Int32) (a1 a2 a3 a4 t0 : Int32) : Option Int32 := ld σ 7 24 a4 (fun x1 => if x1 = a2 then if t0 = 0 then K a1 a2 a3 (a4 + 1) else ld σ 24 24 a4 (fun x2 => some x2) else K a1 a2 a3 (a4 + 1))
def f_X0_aimOf_B75 (σ : St) (K : Int32 → Int32 → Int32 → Int32 → Option Int32) (a1 a2 a3 a4 : Int32) : Option Int32 := f_X0_aimOf_B76 σ K a1 a2 a3 a4 0
def f_X0_aimOf_L23 (σ : St) : Nat → Int32 → Int32 → Int32 → Int32 → Option Int32
  | 0, _, _, _, _ => none
  | n + 1, a1, a2, a3, a4 => lf σ 1 0 (fun x1 => if x1 ≤ a4 then some (-9) else bi (f_X3_pageOf a4 1 σ) (fun x2 => ld σ 7 24 a1 (fun x3 => if x2 = x3 then bi (f_X3_wordOf a4 1 σ) (fun x4 => if x4 = a3 then f_X0_aimOf_B76 σ (f_X0_aimOf_L23 σ n) a1 a2 a3 a4 1 else f_X0_aimOf_B75 σ (f_X0_aimOf_L23 σ n) a1 a2 a3 a4) else f_X0_aimOf_B75 σ (f_X0_aimOf_L23 σ n) a1 a2 a3 a4)))
def f_X0_aimOf (a1 : Int32) (σ : St) : Option Int32 := bi (f_X3_pageOf a1 0 σ) (fun x1 => bi (f_X3_wordOf a1 0 σ) (fun x2 => f_X0_aimOf_L23 σ 64 a1 x1 x2 0))
-- X0_linkToAim
def f_X0_linkToAim_B26 (a1 t0 : Int32) (σ : St) : Option St := if t0 = (-9) then some σ else if t0 = a1 then some σ else ld σ 29 24 t0 (fun x1 => if x1 = (-9) then sd σ 28 24 a1 t0 (fun σ2 => sd σ2 29 24 t0 a1 (fun σ3 => some σ3)) else some σ)
def f_X0_linkToAim (a1 : Int32) (σ : St) : Option St := ld σ 27 24 a1 (fun x1 => if x1 = (-9) then f_X0_linkToAim_B26 a1 (-9) σ else ld σ 27 24 a1 (fun x2 => bi (f_X0_aimOf x2 σ) (fun x3 => f_X0_linkToAim_B26 a1 x3 σ)))
-- X0_addFrom
def f_X0_addFrom_B93  (σ : St) : Option St := lf σ 6 3 (fun x1 => sf σ 6 3 (x1 + 1) (fun σ2 => some σ2))
def f_X0_addFrom_L24 : Nat → Int32 → Int32 → Int32 → St → Option St
  | 0, _, _, _, _ => none
  | n + 1, a2, a3, a4, σ => lf σ 5 3 (fun x1 => if x1 ≤ a4 then f_X0_addFrom_B93 σ else if a3 = (-9) then f_X0_addFrom_B93 σ else ld σ 30 24 a3 (fun x2 => if x2 = (-9) then sd σ 30 24 a3 a2 (fun σ3 => sd σ3 32 24 a2 a3 (fun σ4 => ld σ4 33 24 a2 (fun x5 => sd σ4 33 24 a2 (x5 + 1) (fun σ6 => ld σ6 28 24 a3 (fun x7 => f_X0_addFrom_L24 n a2 x7 (a4 + 1) σ6))))) else f_X0_addFrom_B93 σ))
def f_X0_addFrom (a1 : Int32) (σ : St) : Option St := lf σ 6 3 (fun x1 => sd σ 31 24 x1 a1 (fun σ2 => sd σ2 33 24 x1 0 (fun σ3 => f_X0_addFrom_L24 64 x1 a1 0 σ3)))
-- X0_build
def f_X0_build_L120 : Nat → Int32 → St → Option St
  | 0, _, _ => none
  | n + 1, a1, σ => lf σ 5 3 (fun x1 => if x1 ≤ a1 then some σ else ld σ 30 24 a1 (fun x2 => if x2 = (-9) then bs (f_X0_addFrom a1 σ) (fun σ3 => f_X0_build_L120 n (a1 + 1) σ3) else f_X0_build_L120 n (a1 + 1) σ))
def f_X0_build_L85 : Nat → Int32 → St → Option St
  | 0, _, _ => none
  | n + 1, a1, σ => lf σ 5 3 (fun x1 => if x1 ≤ a1 then f_X0_build_L120 64 0 σ else ld σ 29 24 a1 (fun x2 => if x2 = (-9) then bs (f_X0_addFrom a1 σ) (fun σ3 => f_X0_build_L85 n (a1 + 1) σ3) else f_X0_build_L85 n (a1 + 1) σ))
def f_X0_build_L61 : Nat → Int32 → St → Option St
  | 0, _, _ => none
  | n + 1, a1, σ => lf σ 5 3 (fun x1 => if x1 ≤ a1 then f_X0_build_L85 64 0 σ else bs (f_X0_linkToAim a1 σ) (fun σ2 => f_X0_build_L61 n (a1 + 1) σ2))
def f_X0_build_L7 : Nat → Int32 → St → Option St
  | 0, _, _ => none
  | n + 1, a1, σ => lf σ 5 3 (fun x1 => if x1 ≤ a1 then f_X0_build_L61 64 0 σ else bi (f_X0_lastOnward a1 σ) (fun x2 => sd σ 27 24 a1 x2 (fun σ3 => sd σ3 28 24 a1 (-9) (fun σ4 => sd σ4 29 24 a1 (-9) (fun σ5 => sd σ5 30 24 a1 (-9) (fun σ6 => f_X0_build_L7 n (a1 + 1) σ6))))))
def f_X0_build (σ : St) : Option St := sf σ 6 3 0 (fun σ1 => f_X0_build_L7 64 0 σ1)
-- X0_has
def f_X0_has (a1 : Int32) (σ : St) : Option Int32 := if a1 < 0 then gb 0 (some 0) else lf σ 6 3 (fun x1 => if x1 ≤ a1 then gb 0 (some 0) else gb 1 (some 1))
-- X0_isBroken
def f_X0_isBroken (a1 : Int32) (σ : St) : Option Int32 := ld σ 27 24 a1 (fun x1 => if x1 = (-9) then gb 0 (some 0) else ld σ 28 24 a1 (fun x2 => if x2 = (-9) then gb 1 (some 1) else gb 0 (some 0)))
-- X0_isRing
def f_X0_isRing (a1 : Int32) (σ : St) : Option Int32 := ld σ 31 24 a1 (fun x1 => ld σ 29 24 x1 (fun x2 => if x2 = (-9) then gb 0 (some 0) else gb 1 (some 1)))
-- X0_isReadIn
def f_X0_isReadIn (a1 a2 : Int32) (σ : St) : Option Int32 := ld σ 24 24 a2 (fun x1 => ld σ 8 24 a2 (fun x2 => if x2 = 2 then gb 0 (some 0) else if x1 = (-9) then gb 0 (some 0) else ld σ 30 24 x1 (fun x3 => if x3 = a1 then gb 1 (some 1) else gb 0 (some 0))))
-- X0_textsOf
def f_X0_textsOf_L4 (σ : St) : Nat → Int32 → Int32 → Int32 → Option Int32
  | 0, _, _, _ => none
  | n + 1, a1, a2, a3 => lf σ 1 0 (fun x1 => if x1 ≤ a3 then some a2 else ld σ 8 24 a3 (fun x2 => if x2 = 1 then bi (f_X0_isReadIn a1 a3 σ) (fun x3 => if x3 = 0 then f_X0_textsOf_L4 σ n a1 a2 (a3 + 1) else f_X0_textsOf_L4 σ n a1 (a2 + 1) (a3 + 1)) else f_X0_textsOf_L4 σ n a1 a2 (a3 + 1)))
def f_X0_textsOf (a1 : Int32) (σ : St) : Option Int32 := f_X0_textsOf_L4 σ 64 a1 0 0
-- X0_wordsOf
def f_X0_wordsOf_L4 (σ : St) : Nat → Int32 → Int32 → Int32 → Option Int32
  | 0, _, _, _ => none
  | n + 1, a1, a2, a3 => lf σ 1 0 (fun x1 => if x1 ≤ a3 then some a2 else ld σ 8 24 a3 (fun x2 => if x2 = 1 then bi (f_X0_isReadIn a1 a3 σ) (fun x3 => if x3 = 0 then f_X0_wordsOf_L4 σ n a1 a2 (a3 + 1) else ld σ 13 24 a3 (fun x4 => f_X0_wordsOf_L4 σ n a1 (a2 + x4) (a3 + 1))) else f_X0_wordsOf_L4 σ n a1 a2 (a3 + 1)))
def f_X0_wordsOf (a1 : Int32) (σ : St) : Option Int32 := f_X0_wordsOf_L4 σ 64 a1 0 0
-- X0_pagesOf
def f_X0_pagesOf_L4 (σ : St) : Nat → Int32 → Int32 → Int32 → Option Int32
  | 0, _, _, _ => none
  | n + 1, a1, a2, a3 => lf σ 1 0 (fun x1 => if x1 ≤ a3 then some a2 else bi (f_X0_isReadIn a1 a3 σ) (fun x2 => if x2 = 0 then f_X0_pagesOf_L4 σ n a1 a2 (a3 + 1) else ld σ 7 24 a3 (fun x3 => f_X0_pagesOf_L4 σ n a1 (a2 ||| (1 <<< (x3 &&& 31))) (a3 + 1))))
def f_X0_pagesOf (a1 : Int32) (σ : St) : Option Int32 := f_X0_pagesOf_L4 σ 64 a1 0 0
-- X5_headOf
def f_X5_headOf (a1 : Int32) (σ : St) : Option Int32 := ld σ 25 24 a1 (fun x1 => ld σ 8 24 x1 (fun x2 => if x2 = 0 then ld σ 25 24 a1 (fun x3 => some x3) else some (-9)))
-- X5_textAt
def f_X5_textAt_L5 (σ : St) : Nat → Int32 → Int32 → Int32 → Int32 → Option Int32
  | 0, _, _, _, _ => none
  | n + 1, a1, a2, a3, a4 => lf σ 5 10 (fun x1 => if x1 ≤ a4 then some (-9) else ld σ 26 24 a4 (fun x2 => ld σ 24 24 x2 (fun x3 => if x3 = a1 then if a3 = a2 then ld σ 26 24 a4 (fun x4 => some x4) else f_X5_textAt_L5 σ n a1 a2 (a3 + 1) (a4 + 1) else f_X5_textAt_L5 σ n a1 a2 a3 (a4 + 1))))
def f_X5_textAt (a1 a2 : Int32) (σ : St) : Option Int32 := f_X5_textAt_L5 σ 64 a1 a2 0 0
-- X5_textsOf
def f_X5_textsOf_L4 (σ : St) : Nat → Int32 → Int32 → Int32 → Option Int32
  | 0, _, _, _ => none
  | n + 1, a1, a2, a3 => lf σ 5 10 (fun x1 => if x1 ≤ a3 then some a2 else ld σ 26 24 a3 (fun x2 => ld σ 24 24 x2 (fun x3 => if x3 = a1 then f_X5_textsOf_L4 σ n a1 (a2 + 1) (a3 + 1) else f_X5_textsOf_L4 σ n a1 a2 (a3 + 1))))
def f_X5_textsOf (a1 : Int32) (σ : St) : Option Int32 := f_X5_textsOf_L4 σ 64 a1 0 0
-- X0_blockAt
def f_X0_blockAt_B59 (σ : St) (K : Int32 → Int32 → Int32 → Int32 → Option Int32) (a1 a3 a4 a5 : Int32) : Option Int32 := bi (f_X5_textAt a4 a3 σ) (fun x1 => if x1 = (-9) then bi (f_X5_textsOf a4 σ) (fun x2 => ld σ 28 24 a4 (fun x3 => K a1 (a3 - x2) x3 (a5 + 1))) else some x1)
def f_X0_blockAt_L13 (σ : St) : Nat → Int32 → Int32 → Int32 → Int32 → Option Int32
  | 0, _, _, _, _ => none
  | n + 1, a1, a3, a4, a5 => ld σ 33 24 a1 (fun x1 => if x1 ≤ a5 then some (-9) else if a4 = (-9) then some (-9) else bi (f_X5_headOf a4 σ) (fun x2 => if x2 = (-9) then f_X0_blockAt_B59 σ (f_X0_blockAt_L13 σ n) a1 a3 a4 a5 else if a3 = 0 then some x2 else f_X0_blockAt_B59 σ (f_X0_blockAt_L13 σ n) a1 (a3 + (-1)) a4 a5))
def f_X0_blockAt (a1 a2 : Int32) (σ : St) : Option Int32 := ld σ 31 24 a1 (fun x1 => f_X0_blockAt_L13 σ 64 a1 a2 x1 0)
-- X0_manyRings
def f_X0_manyRings_L4 (σ : St) : Nat → Int32 → Int32 → Option Int32
  | 0, _, _ => none
  | n + 1, a1, a2 => lf σ 6 3 (fun x1 => if x1 ≤ a2 then some a1 else bi (f_X0_isRing a2 σ) (fun x2 => if x2 = 0 then f_X0_manyRings_L4 σ n a1 (a2 + 1) else f_X0_manyRings_L4 σ n (a1 + 1) (a2 + 1)))
def f_X0_manyRings (σ : St) : Option Int32 := f_X0_manyRings_L4 σ 64 0 0
-- X0_manyBroken
def f_X0_manyBroken_L4 (σ : St) : Nat → Int32 → Int32 → Option Int32
  | 0, _, _ => none
  | n + 1, a1, a2 => lf σ 5 3 (fun x1 => if x1 ≤ a2 then some a1 else bi (f_X0_isBroken a2 σ) (fun x2 => if x2 = 0 then f_X0_manyBroken_L4 σ n a1 (a2 + 1) else f_X0_manyBroken_L4 σ n (a1 + 1) (a2 + 1)))
def f_X0_manyBroken (σ : St) : Option Int32 := f_X0_manyBroken_L4 σ 64 0 0
-- X0_manyIdleFrom
def f_X0_manyIdleFrom_L4 (σ : St) : Nat → Int32 → Int32 → Option Int32
  | 0, _, _ => none
  | n + 1, a1, a2 => lf σ 1 0 (fun x1 => if x1 ≤ a2 then some a1 else ld σ 24 24 a2 (fun x2 => bi (f_X3_has a2 1 σ) (fun x3 => if x3 = 0 then f_X0_manyIdleFrom_L4 σ n a1 (a2 + 1) else if x2 = (-9) then f_X0_manyIdleFrom_L4 σ n a1 (a2 + 1) else ld σ 29 24 x2 (fun x4 => if x4 = (-9) then f_X0_manyIdleFrom_L4 σ n (a1 + 1) (a2 + 1) else f_X0_manyIdleFrom_L4 σ n a1 (a2 + 1)))))
def f_X0_manyIdleFrom (σ : St) : Option Int32 := f_X0_manyIdleFrom_L4 σ 64 0 0
-- X1_has
def f_X1_has (a1 : Int32) (σ : St) : Option Int32 := if a1 < 0 then gb 0 (some 0) else lf σ 1 0 (fun x1 => if x1 ≤ a1 then gb 0 (some 0) else gb 1 (some 1))
-- X1_add
def f_X1_add (a1 a2 a3 a4 a5 a6 : Int32) (σ : St) : Option (Int32 × St) := lf σ 1 0 (fun x1 => sd σ 7 24 x1 a1 (fun σ2 => sd σ2 8 24 x1 a2 (fun σ3 => sd σ3 9 24 x1 a3 (fun σ4 => sd σ4 10 24 x1 a4 (fun σ5 => sd σ5 11 24 x1 a5 (fun σ6 => sd σ6 12 24 x1 a6 (fun σ7 => sd σ7 13 24 x1 1 (fun σ8 => lf σ8 1 0 (fun x9 => sf σ8 1 0 (x9 + 1) (fun σ10 => some (x1, σ10)))))))))))
-- X1_firstIn
def f_X1_firstIn_B70 (σ : St) (K : Int32 → Int32 → Int32 → Int32 → Int32 → Int32 → Option Int32) (a1 a2 a3 a4 a5 a6 a7 t0 : Int32) : Option Int32 := ld σ 7 24 a6 (fun x1 => if x1 = a1 then if a7 = 0 then K a1 a2 a3 a4 a5 (a6 + 1) else if t0 = 0 then K a1 a2 a3 a4 a5 (a6 + 1) else some a6 else K a1 a2 a3 a4 a5 (a6 + 1))
def f_X1_firstIn_B69 (σ : St) (K : Int32 → Int32 → Int32 → Int32 → Int32 → Int32 → Option Int32) (a1 a2 a3 a4 a5 a6 a7 : Int32) : Option Int32 := f_X1_firstIn_B70 σ K a1 a2 a3 a4 a5 a6 a7 0
def f_X1_firstIn_B39 (σ : St) (K : Int32 → Int32 → Int32 → Int32 → Int32 → Int32 → Option Int32) (a1 a2 a3 a4 a5 a6 t0 : Int32) : Option Int32 := ld σ 11 24 a6 (fun x1 => if a5 < x1 then f_X1_firstIn_B69 σ K a1 a2 a3 a4 a5 a6 t0 else ld σ 12 24 a6 (fun x2 => if x2 < a4 then f_X1_firstIn_B69 σ K a1 a2 a3 a4 a5 a6 t0 else f_X1_firstIn_B70 σ K a1 a2 a3 a4 a5 a6 t0 1))
def f_X1_firstIn_B38 (σ : St) (K : Int32 → Int32 → Int32 → Int32 → Int32 → Int32 → Option Int32) (a1 a2 a3 a4 a5 a6 : Int32) : Option Int32 := f_X1_firstIn_B39 σ K a1 a2 a3 a4 a5 a6 0
def f_X1_firstIn_L3 (σ : St) : Nat → Int32 → Int32 → Int32 → Int32 → Int32 → Int32 → Option Int32
  | 0, _, _, _, _, _, _ => none
  | n + 1, a1, a2, a3, a4, a5, a6 => lf σ 1 0 (fun x1 => if x1 ≤ a6 then some (-9) else ld σ 9 24 a6 (fun x2 => if a3 < x2 then f_X1_firstIn_B38 σ (f_X1_firstIn_L3 σ n) a1 a2 a3 a4 a5 a6 else ld σ 10 24 a6 (fun x3 => if x3 < a2 then f_X1_firstIn_B38 σ (f_X1_firstIn_L3 σ n) a1 a2 a3 a4 a5 a6 else f_X1_firstIn_B39 σ (f_X1_firstIn_L3 σ n) a1 a2 a3 a4 a5 a6 1)))
def f_X1_firstIn (a1 a2 a3 a4 a5 : Int32) (σ : St) : Option Int32 := f_X1_firstIn_L3 σ 64 a1 a2 a3 a4 a5 0
-- X1_meets
def f_X1_meets (a1 a2 a3 a4 a5 : Int32) (σ : St) : Option Int32 := bi (f_X1_firstIn a1 a2 a3 a4 a5 σ) (fun x1 => if x1 = (-9) then gb 0 (some 0) else gb 1 (some 1))
-- X1_turnAbout
def f_X1_turnAbout_B46 (K : Int32 → Int32 → St → Option (Int32 × St)) (a1 a2 a3 a4 : Int32) (σ : St) : Option (Int32 × St) := sd σ 9 24 a2 a3 (fun σ1 => sd σ1 10 24 a2 a4 (fun σ2 => K a1 (a2 + 1) σ2))
def f_X1_turnAbout_L4 : Nat → Int32 → Int32 → St → Option (Int32 × St)
  | 0, _, _, _ => none
  | n + 1, a1, a2, σ => lf σ 1 0 (fun x1 => if x1 ≤ a2 then some (a1, σ) else ld σ 10 24 a2 (fun x2 => ld σ 9 24 a2 (fun x3 => ld σ 9 24 a2 (fun x4 => if (7 - x2) = x4 then f_X1_turnAbout_B46 (f_X1_turnAbout_L4 n) a1 a2 (7 - x2) (7 - x3) σ else f_X1_turnAbout_B46 (f_X1_turnAbout_L4 n) (a1 + 1) a2 (7 - x2) (7 - x3) σ))))
def f_X1_turnAbout (σ : St) : Option (Int32 × St) := f_X1_turnAbout_L4 64 0 0 σ
-- X1_manyOf
def f_X1_manyOf_L4 (σ : St) : Nat → Int32 → Int32 → Int32 → Option Int32
  | 0, _, _, _ => none
  | n + 1, a1, a2, a3 => lf σ 1 0 (fun x1 => if x1 ≤ a3 then some a2 else ld σ 8 24 a3 (fun x2 => if x2 = a1 then f_X1_manyOf_L4 σ n a1 (a2 + 1) (a3 + 1) else f_X1_manyOf_L4 σ n a1 a2 (a3 + 1)))
def f_X1_manyOf (a1 : Int32) (σ : St) : Option Int32 := f_X1_manyOf_L4 σ 64 a1 0 0
-- X1_headBelow
def f_X1_headBelow_B43 (σ : St) (K : Int32 → Int32 → Int32 → Int32 → Int32 → Option Int32) (a1 a2 a3 a4 a5 t0 : Int32) : Option Int32 := ld σ 8 24 a5 (fun x1 => if x1 = 0 then ld σ 7 24 a5 (fun x2 => if x2 = a1 then if t0 = 0 then K a1 a2 a3 a4 (a5 + 1) else ld σ 11 24 a5 (fun x3 => if x3 ≤ a3 then K a1 a2 a3 a4 (a5 + 1) else ld σ 11 24 a5 (fun x4 => K a1 a2 a3 (jmin a4 x4) (a5 + 1))) else K a1 a2 a3 a4 (a5 + 1)) else K a1 a2 a3 a4 (a5 + 1))
def f_X1_headBelow_B42 (σ : St) (K : Int32 → Int32 → Int32 → Int32 → Int32 → Option Int32) (a1 a2 a3 a4 a5 : Int32) : Option Int32 := f_X1_headBelow_B43 σ K a1 a2 a3 a4 a5 0
def f_X1_headBelow_L7 (σ : St) : Nat → Int32 → Int32 → Int32 → Int32 → Int32 → Option Int32
  | 0, _, _, _, _, _ => none
  | n + 1, a1, a2, a3, a4, a5 => lf σ 1 0 (fun x1 => if x1 ≤ a5 then some a4 else ld σ 9 24 a5 (fun x2 => if a2 < x2 then f_X1_headBelow_B42 σ (f_X1_headBelow_L7 σ n) a1 a2 a3 a4 a5 else ld σ 10 24 a5 (fun x3 => if x3 < a2 then f_X1_headBelow_B42 σ (f_X1_headBelow_L7 σ n) a1 a2 a3 a4 a5 else f_X1_headBelow_B43 σ (f_X1_headBelow_L7 σ n) a1 a2 a3 a4 a5 1)))
def f_X1_headBelow (a1 a2 a3 : Int32) (σ : St) : Option Int32 := f_X1_headBelow_L7 σ 64 a1 a2 a3 30 0
-- X1_isAhead
def f_X1_isAhead (a1 a2 : Int32) (σ : St) : Option Int32 := ld σ 9 24 a1 (fun x1 => ld σ 9 24 a2 (fun x2 => if x1 < x2 then gb 1 (some 1) else ld σ 9 24 a1 (fun x3 => ld σ 9 24 a2 (fun x4 => if x3 = x4 then ld σ 11 24 a1 (fun x5 => ld σ 11 24 a2 (fun x6 => if x6 ≤ x5 then gb 0 (some 0) else gb 1 (some 1))) else gb 0 (some 0)))))
-- X2_has
def f_X2_has (a1 : Int32) (σ : St) : Option Int32 := if a1 < 0 then gb 0 (some 0) else lf σ 3 0 (fun x1 => if x1 ≤ a1 then gb 0 (some 0) else gb 1 (some 1))
-- X2_add
def f_X2_add (a1 a2 a3 a4 a5 : Int32) (σ : St) : Option (Int32 × St) := lf σ 3 0 (fun x1 => sd σ 16 12 x1 a1 (fun σ2 => sd σ2 17 12 x1 a2 (fun σ3 => sd σ3 18 12 x1 a3 (fun σ4 => sd σ4 19 12 x1 a4 (fun σ5 => sd σ5 20 12 x1 a5 (fun σ6 => lf σ6 3 0 (fun x7 => sf σ6 3 0 (x7 + 1) (fun σ8 => some (x1, σ8)))))))))
-- X2_turnAbout
def f_X2_turnAbout_L2 : Nat → Int32 → St → Option St
  | 0, _, _ => none
  | n + 1, a1, σ => lf σ 3 0 (fun x1 => if x1 ≤ a1 then some σ else ld σ 17 12 a1 (fun x2 => if x2 = 0 then ld σ 18 12 a1 (fun x7 => sd σ 18 12 a1 (8 - x7) (fun σ8 => f_X2_turnAbout_L2 n (a1 + 1) σ8)) else ld σ 20 12 a1 (fun x3 => ld σ 19 12 a1 (fun x4 => sd σ 20 12 a1 (7 - x4) (fun σ5 => sd σ5 19 12 a1 (7 - x3) (fun σ6 => f_X2_turnAbout_L2 n (a1 + 1) σ6))))))
def f_X2_turnAbout (σ : St) : Option St := f_X2_turnAbout_L2 64 0 σ
-- X2_hasUpright
def f_X2_hasUpright_B49 (σ : St) (K : Int32 → Int32 → Int32 → Int32 → Int32 → Option Int32) (a1 a2 a3 a4 a5 t0 : Int32) : Option Int32 := if t0 = 0 then K a1 a2 a3 a4 (a5 + 1) else ld σ 19 12 a5 (fun x1 => if a4 < x1 then K a1 a2 a3 a4 (a5 + 1) else ld σ 20 12 a5 (fun x2 => if x2 < a3 then K a1 a2 a3 a4 (a5 + 1) else gb 1 (some 1)))
def f_X2_hasUpright_B48 (σ : St) (K : Int32 → Int32 → Int32 → Int32 → Int32 → Option Int32) (a1 a2 a3 a4 a5 : Int32) : Option Int32 := f_X2_hasUpright_B49 σ K a1 a2 a3 a4 a5 0
def f_X2_hasUpright_L3 (σ : St) : Nat → Int32 → Int32 → Int32 → Int32 → Int32 → Option Int32
  | 0, _, _, _, _, _ => none
  | n + 1, a1, a2, a3, a4, a5 => lf σ 3 0 (fun x1 => if x1 ≤ a5 then gb 0 (some 0) else ld σ 17 12 a5 (fun x2 => if x2 = 0 then ld σ 16 12 a5 (fun x3 => if x3 = a1 then ld σ 18 12 a5 (fun x4 => if x4 = a2 then f_X2_hasUpright_B49 σ (f_X2_hasUpright_L3 σ n) a1 a2 a3 a4 a5 1 else f_X2_hasUpright_B48 σ (f_X2_hasUpright_L3 σ n) a1 a2 a3 a4 a5) else f_X2_hasUpright_B48 σ (f_X2_hasUpright_L3 σ n) a1 a2 a3 a4 a5) else f_X2_hasUpright_B48 σ (f_X2_hasUpright_L3 σ n) a1 a2 a3 a4 a5))
def f_X2_hasUpright (a1 a2 a3 a4 : Int32) (σ : St) : Option Int32 := f_X2_hasUpright_L3 σ 64 a1 a2 a3 a4 0
-- X2_flatBelow
def f_X2_flatBelow_B54 (σ : St) (K : Int32 → Int32 → Int32 → Int32 → Int32 → Option Int32) (a1 a2 a3 a4 a5 t0 : Int32) : Option Int32 := if t0 = 0 then K a1 a2 a3 a4 (a5 + 1) else ld σ 16 12 a5 (fun x1 => if x1 = a1 then ld σ 18 12 a5 (fun x2 => if x2 ≤ a3 then K a1 a2 a3 a4 (a5 + 1) else ld σ 18 12 a5 (fun x3 => K a1 a2 a3 (jmin a4 x3) (a5 + 1))) else K a1 a2 a3 a4 (a5 + 1))
def f_X2_flatBelow_B53 (σ : St) (K : Int32 → Int32 → Int32 → Int32 → Int32 → Option Int32) (a1 a2 a3 a4 a5 : Int32) : Option Int32 := f_X2_flatBelow_B54 σ K a1 a2 a3 a4 a5 0
def f_X2_flatBelow_L7 (σ : St) : Nat → Int32 → Int32 → Int32 → Int32 → Int32 → Option Int32
  | 0, _, _, _, _, _ => none
  | n + 1, a1, a2, a3, a4, a5 => lf σ 3 0 (fun x1 => if x1 ≤ a5 then some a4 else ld σ 17 12 a5 (fun x2 => if x2 = 1 then ld σ 19 12 a5 (fun x3 => if a2 < x3 then f_X2_flatBelow_B53 σ (f_X2_flatBelow_L7 σ n) a1 a2 a3 a4 a5 else ld σ 20 12 a5 (fun x4 => if x4 < a2 then f_X2_flatBelow_B53 σ (f_X2_flatBelow_L7 σ n) a1 a2 a3 a4 a5 else f_X2_flatBelow_B54 σ (f_X2_flatBelow_L7 σ n) a1 a2 a3 a4 a5 1)) else f_X2_flatBelow_B53 σ (f_X2_flatBelow_L7 σ n) a1 a2 a3 a4 a5))
def f_X2_flatBelow (a1 a2 a3 : Int32) (σ : St) : Option Int32 := f_X2_flatBelow_L7 σ 64 a1 a2 a3 30 0
-- X3_put
def f_X3_put (a1 a2 a3 a4 : Int32) (σ : St) : Option St := sd σ 14 48 ((2 * a1) + a2) a3 (fun σ1 => sd σ1 15 48 ((2 * a1) + a2) a4 (fun σ2 => some σ2))
-- X3_forget
def f_X3_forget (a1 a2 : Int32) (σ : St) : Option St := bs (f_X3_put a1 a2 (-9) (-9) σ) (fun σ1 => some σ1)
-- X3_forgetAllOf
def f_X3_forgetAllOf (a1 : Int32) (σ : St) : Option St := bs (f_X3_forget a1 0 σ) (fun σ1 => bs (f_X3_forget a1 1 σ1) (fun σ2 => some σ2))
-- X4_lastColumn
def f_X4_lastColumn_L24 (σ : St) : Nat → Int32 → Int32 → Int32 → Option Int32
  | 0, _, _, _ => none
  | n + 1, a1, a2, a3 => ld σ 10 24 a1 (fun x1 => if x1 < a3 then ld σ 10 24 a1 (fun x2 => some x2) else ld σ 7 24 a1 (fun x3 => bi (f_X2_hasUpright x3 a3 a2 a2 σ) (fun x4 => if x4 = 0 then f_X4_lastColumn_L24 σ n a1 a2 (a3 + 1) else some (a3 - 1))))
def f_X4_lastColumn (a1 : Int32) (σ : St) : Option Int32 := ld σ 12 24 a1 (fun x1 => ld σ 9 24 a1 (fun x2 => f_X4_lastColumn_L24 σ 64 a1 (x1 + 1) (x2 + 1)))
-- X4_lastRow
def f_X4_lastRow (a1 a2 : Int32) (σ : St) : Option Int32 := ld σ 9 24 a1 (fun x1 => if a2 < x1 then some (-9) else bi (f_X4_lastColumn a1 σ) (fun x2 => if a2 ≤ x2 then ld σ 7 24 a1 (fun x3 => ld σ 12 24 a1 (fun x4 => bi (f_X1_headBelow x3 a2 x4 σ) (fun x5 => bi (f_X2_flatBelow x3 a2 x4 σ) (fun x6 => if ((jmin x5 x6) - 1) ≤ x4 then some (-9) else some ((jmin x5 x6) - 1))))) else some (-9)))
-- X4_headOver
def f_X4_headOver_B60 (σ : St) (K : Int32 → Int32 → Option Int32) (a1 a2 t0 : Int32) : Option Int32 := ld σ 8 24 a2 (fun x1 => if x1 = 0 then if t0 = 0 then K a1 (a2 + 1) else ld σ 9 24 a1 (fun x2 => bi (f_X4_lastRow a2 x2 σ) (fun x3 => ld σ 11 24 a1 (fun x4 => if x3 < x4 then K a1 (a2 + 1) else some a2))) else K a1 (a2 + 1))
def f_X4_headOver_B59 (σ : St) (K : Int32 → Int32 → Option Int32) (a1 a2 : Int32) : Option Int32 := f_X4_headOver_B60 σ K a1 a2 0
def f_X4_headOver_L2 (σ : St) : Nat → Int32 → Int32 → Option Int32
  | 0, _, _ => none
  | n + 1, a1, a2 => lf σ 1 0 (fun x1 => if x1 ≤ a2 then some (-9) else ld σ 7 24 a2 (fun x2 => ld σ 7 24 a1 (fun x3 => if x2 = x3 then ld σ 12 24 a2 (fun x4 => ld σ 11 24 a1 (fun x5 => if x5 ≤ x4 then f_X4_headOver_B59 σ (f_X4_headOver_L2 σ n) a1 a2 else f_X4_headOver_B60 σ (f_X4_headOver_L2 σ n) a1 a2 1)) else f_X4_headOver_B59 σ (f_X4_headOver_L2 σ n) a1 a2)))
def f_X4_headOver (a1 : Int32) (σ : St) : Option Int32 := f_X4_headOver_L2 σ 64 a1 0
-- X5_insert
def f_X5_insert_B48 (a1 a2 : Int32) (σ : St) : Option St := sd σ 26 24 a2 a1 (fun σ1 => lf σ1 5 10 (fun x2 => sf σ1 5 10 (x2 + 1) (fun σ3 => some σ3)))
def f_X5_insert_L5 : Nat → Int32 → Int32 → St → Option St
  | 0, _, _, _ => none
  | n + 1, a1, a2, σ => if a2 ≤ 0 then f_X5_insert_B48 a1 a2 σ else ld σ 26 24 (a2 - 1) (fun x1 => bi (f_X1_isAhead a1 x1 σ) (fun x2 => if x2 = 0 then f_X5_insert_B48 a1 a2 σ else ld σ 26 24 (a2 - 1) (fun x3 => sd σ 26 24 a2 x3 (fun σ4 => f_X5_insert_L5 n a1 (a2 + (-1)) σ4))))
def f_X5_insert (a1 : Int32) (σ : St) : Option St := lf σ 5 10 (fun x1 => f_X5_insert_L5 64 a1 x1 σ)
-- X5_putUnderHead
def f_X5_putUnderHead_B35 (a1 t0 t1 : Int32) (σ : St) : Option St := sd σ 23 24 t1 t0 (fun σ1 => ld σ1 8 24 a1 (fun x2 => if x2 = 1 then ld σ1 21 24 a1 (fun x3 => if x3 = (-9) then some σ1 else bs (f_X5_insert a1 σ1) (fun σ4 => some σ4)) else some σ1))
def f_X5_putUnderHead (a1 : Int32) (σ : St) : Option St := sd σ 22 24 a1 (-9) (fun σ1 => ld σ1 8 24 a1 (fun x2 => if x2 = 0 then f_X5_putUnderHead_B35 a1 a1 a1 σ1 else ld σ1 21 24 a1 (fun x3 => f_X5_putUnderHead_B35 a1 x3 a1 σ1)))
-- X5_isWithoutStory
def f_X5_isWithoutStory (a1 : Int32) (σ : St) : Option Int32 := ld σ 8 24 a1 (fun x1 => if x1 = 1 then ld σ 23 24 a1 (fun x2 => if x2 = (-9) then gb 1 (some 1) else gb 0 (some 0)) else gb 0 (some 0))
-- X5_takes
def f_X5_takes_B79 (σ : St) (a1 a2 a3 t0 : Int32) : Option Int32 := if a3 = 0 then gb 0 (some 0) else if t0 = 0 then gb 0 (some 0) else ld σ 11 24 a1 (fun x1 => ld σ 11 24 a2 (fun x2 => ld σ 12 24 a1 (fun x3 => ld σ 12 24 a2 (fun x4 => if (jmin x3 x4) < (jmax x1 x2) then gb 0 (some 0) else ld σ 7 24 a2 (fun x5 => ld σ 9 24 a2 (fun x6 => bi (f_X2_hasUpright x5 x6 (jmax x1 x2) (jmin x3 x4) σ) (fun x7 => if x7 = 0 then gb 1 (some 1) else gb 0 (some 0))))))))
def f_X5_takes_B78 (σ : St) (a1 a2 a3 : Int32) : Option Int32 := f_X5_takes_B79 σ a1 a2 a3 0
def f_X5_takes_B29 (σ : St) (a1 a2 t0 : Int32) : Option Int32 := ld σ 7 24 a1 (fun x1 => ld σ 7 24 a2 (fun x2 => if x1 = x2 then ld σ 10 24 a1 (fun x3 => ld σ 9 24 a2 (fun x4 => if (x3 + 1) = x4 then f_X5_takes_B79 σ a1 a2 t0 1 else f_X5_takes_B78 σ a1 a2 t0)) else f_X5_takes_B78 σ a1 a2 t0))
def f_X5_takes_B28 (σ : St) (a1 a2 : Int32) : Option Int32 := f_X5_takes_B29 σ a1 a2 0
def f_X5_takes (a1 a2 : Int32) (σ : St) : Option Int32 := ld σ 8 24 a1 (fun x1 => if x1 = 1 then ld σ 23 24 a1 (fun x2 => if x2 = (-9) then f_X5_takes_B28 σ a1 a2 else f_X5_takes_B29 σ a1 a2 1) else f_X5_takes_B28 σ a1 a2)
-- X5_takerFor
def f_X5_takerFor_L5 (σ : St) : Nat → Int32 → Int32 → Int32 → Option Int32
  | 0, _, _, _ => none
  | n + 1, a1, a2, a3 => lf σ 1 0 (fun x1 => if x1 ≤ a3 then some a2 else bi (f_X5_takes a3 a1 σ) (fun x2 => if x2 = 0 then f_X5_takerFor_L5 σ n a1 a2 (a3 + 1) else if a2 = (-9) then f_X5_takerFor_L5 σ n a1 a3 (a3 + 1) else ld σ 11 24 a3 (fun x3 => ld σ 11 24 a2 (fun x4 => if x4 ≤ x3 then f_X5_takerFor_L5 σ n a1 a2 (a3 + 1) else f_X5_takerFor_L5 σ n a1 a3 (a3 + 1)))))
def f_X5_takerFor (a1 : Int32) (σ : St) : Option Int32 := f_X5_takerFor_L5 σ 64 a1 (-9) 0
-- X5_append
def f_X5_append (a1 : Int32) (σ : St) : Option St := lf σ 5 10 (fun x1 => sd σ 26 24 x1 a1 (fun σ2 => lf σ2 5 10 (fun x3 => sf σ2 5 10 (x3 + 1) (fun σ4 => some σ4))))
-- X5_joinNext
def f_X5_joinNext_B31 (K : Int32 → St → Option (Int32 × St)) (a1 t0 : Int32) (σ : St) : Option (Int32 × St) := if t0 = (-9) then K (a1 + 1) σ else sd σ 22 24 a1 t0 (fun σ1 => ld σ1 23 24 t0 (fun x2 => sd σ1 23 24 a1 x2 (fun σ3 => bs (f_X5_append a1 σ3) (fun σ4 => gb 1 (some (1, σ4))))))
def f_X5_joinNext_L2 : Nat → Int32 → St → Option (Int32 × St)
  | 0, _, _ => none
  | n + 1, a1, σ => lf σ 1 0 (fun x1 => if x1 ≤ a1 then gb 0 (some (0, σ)) else bi (f_X5_isWithoutStory a1 σ) (fun x2 => if x2 = 0 then f_X5_joinNext_B31 (f_X5_joinNext_L2 n) a1 (-9) σ else bi (f_X5_takerFor a1 σ) (fun x3 => f_X5_joinNext_B31 (f_X5_joinNext_L2 n) a1 x3 σ)))
def f_X5_joinNext (σ : St) : Option (Int32 × St) := f_X5_joinNext_L2 64 0 σ
-- X5_giveNumbers
def f_X5_giveNumbers_B109 (K : Int32 → St → Option St) (a1 t0 t1 : Int32) (σ : St) : Option St := sd σ 24 24 t1 t0 (fun σ1 => K (a1 + 1) σ1)
def f_X5_giveNumbers_L66 : Nat → Int32 → St → Option St
  | 0, _, _ => none
  | n + 1, a1, σ => lf σ 1 0 (fun x1 => if x1 ≤ a1 then some σ else ld σ 23 24 a1 (fun x2 => if x2 = (-9) then f_X5_giveNumbers_B109 (f_X5_giveNumbers_L66 n) a1 (-9) a1 σ else ld σ 23 24 a1 (fun x3 => ld σ 24 24 x3 (fun x4 => f_X5_giveNumbers_B109 (f_X5_giveNumbers_L66 n) a1 x4 a1 σ))))
def f_X5_giveNumbers_L7 : Nat → Int32 → St → Option St
  | 0, _, _ => none
  | n + 1, a1, σ => lf σ 1 0 (fun x1 => if x1 ≤ a1 then f_X5_giveNumbers_L66 64 0 σ else ld σ 23 24 a1 (fun x2 => if x2 = a1 then lf σ 5 3 (fun x3 => sd σ 25 24 x3 a1 (fun σ4 => lf σ4 5 3 (fun x5 => sd σ4 24 24 a1 x5 (fun σ6 => lf σ6 5 3 (fun x7 => sf σ6 5 3 (x7 + 1) (fun σ8 => f_X5_giveNumbers_L7 n (a1 + 1) σ8)))))) else f_X5_giveNumbers_L7 n (a1 + 1) σ))
def f_X5_giveNumbers (σ : St) : Option St := sf σ 5 3 0 (fun σ1 => f_X5_giveNumbers_L7 64 0 σ1)
-- X5_build
def f_X5_build_L88 : Nat → Int32 → St → Option St
  | 0, _, _ => none
  | n + 1, a2, σ => lf σ 1 0 (fun x1 => if x1 ≤ a2 then bs (f_X5_giveNumbers σ) (fun σ2 => some σ2) else bi (f_X5_isWithoutStory a2 σ) (fun x3 => if x3 = 0 then f_X5_build_L88 n (a2 + 1) σ else sd σ 23 24 a2 a2 (fun σ4 => bs (f_X5_append a2 σ4) (fun σ5 => f_X5_build_L88 n (a2 + 1) σ5))))
def f_X5_build_L62 : Nat → Int32 → St → Option St
  | 0, _, _ => none
  | n + 1, a1, σ => lf σ 1 0 (fun x1 => if x1 ≤ a1 then f_X5_build_L88 64 0 σ else bp (f_X5_joinNext σ) (fun x2 σ3 => if x2 = 0 then f_X5_build_L88 64 0 σ3 else f_X5_build_L62 n (a1 + 1) σ3))
def f_X5_build_B48 (K : Int32 → St → Option St) (a1 t0 t1 : Int32) (σ : St) : Option St := sd σ 21 24 t1 t0 (fun σ1 => bs (f_X5_putUnderHead a1 σ1) (fun σ2 => K (a1 + 1) σ2))
def f_X5_build_L7 : Nat → Int32 → St → Option St
  | 0, _, _ => none
  | n + 1, a1, σ => lf σ 1 0 (fun x1 => if x1 ≤ a1 then f_X5_build_L62 64 0 σ else ld σ 8 24 a1 (fun x2 => if x2 = 0 then f_X5_build_B48 (f_X5_build_L7 n) a1 (-9) a1 σ else bi (f_X4_headOver a1 σ) (fun x3 => f_X5_build_B48 (f_X5_build_L7 n) a1 x3 a1 σ)))
def f_X5_build (σ : St) : Option St := sf σ 5 10 0 (fun σ1 => f_X5_build_L7 64 0 σ1)
-- X5_has
def f_X5_has (a1 : Int32) (σ : St) : Option Int32 := if a1 < 0 then gb 0 (some 0) else lf σ 5 3 (fun x1 => if x1 ≤ a1 then gb 0 (some 0) else gb 1 (some 1))
-- X5_wordsOf
def f_X5_wordsOf_L4 (σ : St) : Nat → Int32 → Int32 → Int32 → Option Int32
  | 0, _, _, _ => none
  | n + 1, a1, a2, a3 => lf σ 5 10 (fun x1 => if x1 ≤ a3 then some a2 else ld σ 26 24 a3 (fun x2 => ld σ 24 24 x2 (fun x3 => if x3 = a1 then ld σ 26 24 a3 (fun x4 => ld σ 13 24 x4 (fun x5 => f_X5_wordsOf_L4 σ n a1 (a2 + x5) (a3 + 1))) else f_X5_wordsOf_L4 σ n a1 a2 (a3 + 1))))
def f_X5_wordsOf (a1 : Int32) (σ : St) : Option Int32 := f_X5_wordsOf_L4 σ 64 a1 0 0
-- X5_picturesOf
def f_X5_picturesOf_L4 (σ : St) : Nat → Int32 → Int32 → Int32 → Option Int32
  | 0, _, _, _ => none
  | n + 1, a1, a2, a3 => lf σ 1 0 (fun x1 => if x1 ≤ a3 then some a2 else ld σ 8 24 a3 (fun x2 => if x2 = 2 then ld σ 24 24 a3 (fun x3 => if x3 = a1 then f_X5_picturesOf_L4 σ n a1 (a2 + 1) (a3 + 1) else f_X5_picturesOf_L4 σ n a1 a2 (a3 + 1)) else f_X5_picturesOf_L4 σ n a1 a2 (a3 + 1)))
def f_X5_picturesOf (a1 : Int32) (σ : St) : Option Int32 := f_X5_picturesOf_L4 σ 64 a1 0 0
-- X5_joinedOf
def f_X5_joinedOf_L4 (σ : St) : Nat → Int32 → Int32 → Int32 → Option Int32
  | 0, _, _, _ => none
  | n + 1, a1, a2, a3 => lf σ 1 0 (fun x1 => if x1 ≤ a3 then some a2 else ld σ 22 24 a3 (fun x2 => if x2 = (-9) then f_X5_joinedOf_L4 σ n a1 a2 (a3 + 1) else ld σ 24 24 a3 (fun x3 => if x3 = a1 then f_X5_joinedOf_L4 σ n a1 (a2 + 1) (a3 + 1) else f_X5_joinedOf_L4 σ n a1 a2 (a3 + 1))))
def f_X5_joinedOf (a1 : Int32) (σ : St) : Option Int32 := f_X5_joinedOf_L4 σ 64 a1 0 0
-- X5_manyJoined
def f_X5_manyJoined_L4 (σ : St) : Nat → Int32 → Int32 → Option Int32
  | 0, _, _ => none
  | n + 1, a1, a2 => lf σ 1 0 (fun x1 => if x1 ≤ a2 then some a1 else ld σ 22 24 a2 (fun x2 => if x2 = (-9) then f_X5_manyJoined_L4 σ n a1 (a2 + 1) else f_X5_manyJoined_L4 σ n (a1 + 1) (a2 + 1)))
def f_X5_manyJoined (σ : St) : Option Int32 := f_X5_manyJoined_L4 σ 64 0 0
-- X5_manyLeftOver
def f_X5_manyLeftOver (σ : St) : Option Int32 := lf σ 5 3 (fun x1 => bi (f_X1_manyOf 0 σ) (fun x2 => some (x1 - x2)))
-- X5_manyLoosePictures
def f_X5_manyLoosePictures_L4 (σ : St) : Nat → Int32 → Int32 → Option Int32
  | 0, _, _ => none
  | n + 1, a1, a2 => lf σ 1 0 (fun x1 => if x1 ≤ a2 then some a1 else ld σ 8 24 a2 (fun x2 => if x2 = 2 then ld σ 21 24 a2 (fun x3 => if x3 = (-9) then f_X5_manyLoosePictures_L4 σ n (a1 + 1) (a2 + 1) else f_X5_manyLoosePictures_L4 σ n a1 (a2 + 1)) else f_X5_manyLoosePictures_L4 σ n a1 (a2 + 1)))
def f_X5_manyLoosePictures (σ : St) : Option Int32 := f_X5_manyLoosePictures_L4 σ 64 0 0
-- X6_isBelow
def f_X6_isBelow (a0 a1 : Int32) : Option Int32 := if a0 < 0 then gb 0 (some 0) else if a1 ≤ a0 then gb 0 (some 0) else gb 1 (some 1)
-- X6_isSpan
def f_X6_isSpan (a0 a1 a2 : Int32) : Option Int32 := if a0 < 0 then gb 0 (some 0) else if a1 < a0 then gb 0 (some 0) else if a2 ≤ a1 then gb 0 (some 0) else gb 1 (some 1)
-- X6_block
def f_X6_block (a1 a2 a3 a4 a5 a6 : Int32) (σ : St) : Option (Int32 × St) := bi (f_X6_isBelow a1 4) (fun x1 => if x1 = 0 then some ((-2), σ) else bi (f_X6_isBelow a2 3) (fun x2 => if x2 = 0 then some ((-2), σ) else bi (f_X6_isSpan a3 a4 8) (fun x3 => if x3 = 0 then some ((-2), σ) else bi (f_X6_isSpan a5 a6 30) (fun x4 => if x4 = 0 then some ((-2), σ) else bi (f_X1_meets a1 a3 a4 a5 a6 σ) (fun x5 => if x5 = 0 then lf σ 1 0 (fun x6 => if x6 < 24 then lf σ 1 0 (fun x7 => bs (f_X3_forgetAllOf x7 σ) (fun σ8 => gb 1 (sf σ8 0 6 1 (fun σ9 => bp (f_X1_add a1 a2 a3 a4 a5 a6 σ9) (fun x10 σ11 => some (x10, σ11)))))) else some ((-4), σ)) else some ((-3), σ))))))
-- X6_words
def f_X6_words (a1 a2 : Int32) (σ : St) : Option (Int32 × St) := bi (f_X1_has a1 σ) (fun x1 => if x1 = 0 then some ((-1), σ) else if a2 < 1 then some ((-2), σ) else if a2 ≤ 99 then ld σ 8 24 a1 (fun x2 => if x2 = 1 then ld σ 13 24 a1 (fun x3 => sd σ 13 24 a1 a2 (fun σ4 => some (x3, σ4))) else some ((-3), σ)) else some ((-2), σ))
-- X6_line
def f_X6_line_B43 (a1 a2 a3 a4 a5 a6 t0 : Int32) (σ : St) : Option (Int32 × St) := if a3 < 1 then some ((-2), σ) else if a6 ≤ a3 then some ((-2), σ) else bi (f_X6_isSpan a4 a5 t0) (fun x1 => if x1 = 0 then some ((-2), σ) else lf σ 3 0 (fun x2 => if x2 < 12 then gb 1 (sf σ 0 6 1 (fun σ3 => bp (f_X2_add a1 a2 a3 a4 a5 σ3) (fun x4 σ5 => some (x4, σ5)))) else some ((-4), σ)))
def f_X6_line_B30 (a1 a2 a3 a4 a5 t0 : Int32) (σ : St) : Option (Int32 × St) := if a2 = 0 then f_X6_line_B43 a1 a2 a3 a4 a5 t0 30 σ else f_X6_line_B43 a1 a2 a3 a4 a5 t0 8 σ
def f_X6_line (a1 a2 a3 a4 a5 : Int32) (σ : St) : Option (Int32 × St) := bi (f_X6_isBelow a1 4) (fun x1 => if x1 = 0 then some ((-2), σ) else bi (f_X6_isBelow a2 2) (fun x2 => if x2 = 0 then some ((-2), σ) else if a2 = 0 then f_X6_line_B30 a1 a2 a3 a4 a5 8 σ else f_X6_line_B30 a1 a2 a3 a4 a5 30 σ))
-- X6_back
def f_X6_back (σ : St) : Option (Int32 × St) := lf σ 1 0 (fun x1 => if 1 ≤ x1 then lf σ 1 0 (fun x2 => sf σ 1 0 (x2 - 1) (fun σ3 => gb 1 (sf σ3 0 6 1 (fun σ4 => lf σ4 1 0 (fun x5 => some (x5, σ4)))))) else some ((-3), σ))
-- X6_erase
def f_X6_erase (σ : St) : Option (Int32 × St) := lf σ 3 0 (fun x1 => if 1 ≤ x1 then lf σ 3 0 (fun x2 => sf σ 3 0 (x2 - 1) (fun σ3 => gb 1 (sf σ3 0 6 1 (fun σ4 => lf σ4 3 0 (fun x5 => some (x5, σ4)))))) else some ((-3), σ))
-- X6_clear
def f_X6_clear (σ : St) : Option (Int32 × St) := lf σ 1 0 (fun x1 => sf σ 1 0 0 (fun σ2 => sf σ2 3 0 0 (fun σ3 => gb 1 (sf σ3 0 6 1 (fun σ4 => some (x1, σ4))))))
-- X6_turn
def f_X6_turn (σ : St) : Option (Int32 × St) := bs (f_X2_turnAbout σ) (fun σ1 => gb 1 (sf σ1 0 6 1 (fun σ2 => bp (f_X1_turnAbout σ2) (fun x3 σ4 => some (x3, σ4)))))
-- X6_ofBlock
def f_X6_ofBlock (a1 a2 : Int32) (σ : St) : Option Int32 := bi (f_X1_has a1 σ) (fun x1 => if x1 = 0 then some (-1) else if a2 = 0 then ld σ 7 24 a1 (fun x2 => some x2) else if a2 = 1 then ld σ 8 24 a1 (fun x3 => some x3) else if a2 = 2 then ld σ 9 24 a1 (fun x4 => some x4) else if a2 = 3 then ld σ 10 24 a1 (fun x5 => some x5) else if a2 = 4 then ld σ 11 24 a1 (fun x6 => some x6) else if a2 = 5 then ld σ 12 24 a1 (fun x7 => some x7) else if a2 = 6 then ld σ 8 24 a1 (fun x8 => if x8 = 1 then ld σ 13 24 a1 (fun x9 => some x9) else some (-9)) else some (-2))
-- X6_ofLine
def f_X6_ofLine (a1 a2 : Int32) (σ : St) : Option Int32 := bi (f_X2_has a1 σ) (fun x1 => if x1 = 0 then some (-1) else if a2 = 0 then ld σ 16 12 a1 (fun x2 => some x2) else if a2 = 1 then ld σ 17 12 a1 (fun x3 => some x3) else if a2 = 2 then ld σ 18 12 a1 (fun x4 => some x4) else if a2 = 3 then ld σ 19 12 a1 (fun x5 => some x5) else if a2 = 4 then ld σ 20 12 a1 (fun x6 => some x6) else some (-2))
-- X6_at
def f_X6_at (a1 a2 a3 : Int32) (σ : St) : Option Int32 := bi (f_X6_isBelow a1 4) (fun x1 => if x1 = 0 then some (-2) else bi (f_X6_isBelow a2 8) (fun x2 => if x2 = 0 then some (-2) else bi (f_X6_isBelow a3 30) (fun x3 => if x3 = 0 then some (-2) else bi (f_X1_firstIn a1 a2 a2 a3 a3 σ) (fun x4 => some x4))))
-- X6_reach
def f_X6_reach (a1 a2 : Int32) (σ : St) : Option Int32 := bi (f_X1_has a1 σ) (fun x1 => if x1 = 0 then some (-1) else ld σ 8 24 a1 (fun x2 => if x2 = 0 then bi (f_X6_isBelow a2 8) (fun x3 => if x3 = 0 then some (-2) else bi (f_X4_lastRow a1 a2 σ) (fun x4 => some x4)) else some (-1)))
-- X6_refresh
def f_X6_refresh (σ : St) : Option St := lf σ 0 6 (fun x1 => if x1 = 0 then some σ else bs (f_X5_build σ) (fun σ2 => bs (f_X0_build σ2) (fun σ3 => gb 0 (sf σ3 0 6 0 (fun σ4 => some σ4)))))
-- X6_under
def f_X6_under (a1 : Int32) (σ : St) : Option (Int32 × St) := bi (f_X1_has a1 σ) (fun x1 => if x1 = 0 then some ((-1), σ) else ld σ 8 24 a1 (fun x2 => if x2 = 0 then some ((-3), σ) else bs (f_X6_refresh σ) (fun σ3 => ld σ3 21 24 a1 (fun x4 => some (x4, σ3)))))
-- X6_story
def f_X6_story (a1 : Int32) (σ : St) : Option (Int32 × St) := bi (f_X1_has a1 σ) (fun x1 => if x1 = 0 then some ((-1), σ) else bs (f_X6_refresh σ) (fun σ2 => ld σ2 24 24 a1 (fun x3 => some (x3, σ2))))
-- X6_takenBy
def f_X6_takenBy (a1 : Int32) (σ : St) : Option (Int32 × St) := bi (f_X1_has a1 σ) (fun x1 => if x1 = 0 then some ((-1), σ) else ld σ 8 24 a1 (fun x2 => if x2 = 1 then bs (f_X6_refresh σ) (fun σ3 => ld σ3 22 24 a1 (fun x4 => some (x4, σ3))) else some ((-3), σ)))
-- X6_ofStory
def f_X6_ofStory (a1 a2 : Int32) (σ : St) : Option (Int32 × St) := bs (f_X6_refresh σ) (fun σ1 => bi (f_X5_has a1 σ1) (fun x2 => if x2 = 0 then some ((-1), σ1) else if a2 = 0 then bi (f_X5_headOf a1 σ1) (fun x3 => some (x3, σ1)) else if a2 = 1 then bi (f_X5_textsOf a1 σ1) (fun x4 => some (x4, σ1)) else if a2 = 2 then bi (f_X5_wordsOf a1 σ1) (fun x5 => some (x5, σ1)) else if a2 = 3 then bi (f_X5_picturesOf a1 σ1) (fun x6 => some (x6, σ1)) else if a2 = 4 then bi (f_X5_joinedOf a1 σ1) (fun x7 => some (x7, σ1)) else if a2 = 5 then ld σ1 28 24 a1 (fun x8 => some (x8, σ1)) else if a2 = 6 then ld σ1 29 24 a1 (fun x9 => some (x9, σ1)) else if a2 = 7 then ld σ1 30 24 a1 (fun x10 => some (x10, σ1)) else if a2 = 8 then bi (f_X0_isBroken a1 σ1) (fun x11 => if x11 = 0 then some (0, σ1) else some (1, σ1)) else some ((-2), σ1)))
-- X6_text
def f_X6_text (a1 a2 : Int32) (σ : St) : Option (Int32 × St) := bs (f_X6_refresh σ) (fun σ1 => bi (f_X5_has a1 σ1) (fun x2 => if x2 = 0 then some ((-1), σ1) else bi (f_X6_isBelow a2 24) (fun x3 => if x3 = 0 then some ((-2), σ1) else bi (f_X5_textAt a1 a2 σ1) (fun x4 => some (x4, σ1)))))
-- X6_mark
def f_X6_mark_B91 (a1 a2 a3 a4 t0 : Int32) (σ : St) : Option (Int32 × St) := bs (f_X3_put a1 a2 a3 a4 σ) (fun σ1 => gb 1 (sf σ1 0 6 1 (fun σ2 => some (t0, σ2))))
def f_X6_mark_B74 (a1 a2 a3 a4 : Int32) (σ : St) : Option (Int32 × St) := bi (f_X3_has a1 a2 σ) (fun x1 => if x1 = 0 then f_X6_mark_B91 a1 a2 a3 a4 0 σ else f_X6_mark_B91 a1 a2 a3 a4 1 σ)
def f_X6_mark (a1 a2 a3 a4 : Int32) (σ : St) : Option (Int32 × St) := bi (f_X1_has a1 σ) (fun x1 => if x1 = 0 then some ((-1), σ) else bi (f_X6_isBelow a2 2) (fun x2 => if x2 = 0 then some ((-2), σ) else bi (f_X6_isBelow a3 4) (fun x3 => if x3 = 0 then some ((-2), σ) else bi (f_X6_isBelow a4 100) (fun x4 => if x4 = 0 then some ((-2), σ) else ld σ 8 24 a1 (fun x5 => if x5 = 2 then some ((-3), σ) else ld σ 8 24 a1 (fun x6 => if x6 = 0 then if a2 = 0 then some ((-3), σ) else f_X6_mark_B74 a1 a2 a3 a4 σ else f_X6_mark_B74 a1 a2 a3 a4 σ))))))
-- X6_unmark
def f_X6_unmark_B41 (a1 a2 t0 : Int32) (σ : St) : Option (Int32 × St) := bs (f_X3_forget a1 a2 σ) (fun σ1 => gb 1 (sf σ1 0 6 1 (fun σ2 => some (t0, σ2))))
def f_X6_unmark (a1 a2 : Int32) (σ : St) : Option (Int32 × St) := bi (f_X1_has a1 σ) (fun x1 => if x1 = 0 then some ((-1), σ) else bi (f_X6_isBelow a2 2) (fun x2 => if x2 = 0 then some ((-2), σ) else bi (f_X3_has a1 a2 σ) (fun x3 => if x3 = 0 then f_X6_unmark_B41 a1 a2 0 σ else f_X6_unmark_B41 a1 a2 1 σ)))
-- X6_ofMark
def f_X6_ofMark (a1 a2 a3 : Int32) (σ : St) : Option Int32 := bi (f_X1_has a1 σ) (fun x1 => if x1 = 0 then some (-1) else bi (f_X6_isBelow a2 2) (fun x2 => if x2 = 0 then some (-2) else bi (f_X6_isBelow a3 2) (fun x3 => if x3 = 0 then some (-2) else if a3 = 0 then bi (f_X3_pageOf a1 a2 σ) (fun x5 => some x5) else bi (f_X3_wordOf a1 a2 σ) (fun x4 => some x4))))
-- X6_ofArticle
def f_X6_ofArticle (a1 a2 : Int32) (σ : St) : Option (Int32 × St) := bs (f_X6_refresh σ) (fun σ1 => bi (f_X0_has a1 σ1) (fun x2 => if x2 = 0 then some ((-1), σ1) else if a2 = 0 then ld σ1 31 24 a1 (fun x3 => some (x3, σ1)) else if a2 = 1 then ld σ1 33 24 a1 (fun x4 => some (x4, σ1)) else if a2 = 2 then bi (f_X0_textsOf a1 σ1) (fun x5 => some (x5, σ1)) else if a2 = 3 then bi (f_X0_wordsOf a1 σ1) (fun x6 => some (x6, σ1)) else if a2 = 4 then bi (f_X0_pagesOf a1 σ1) (fun x7 => some (x7, σ1)) else if a2 = 5 then bi (f_X0_isRing a1 σ1) (fun x8 => if x8 = 0 then some (0, σ1) else some (1, σ1)) else if a2 = 6 then ld σ1 32 24 a1 (fun x9 => bi (f_X0_isBroken x9 σ1) (fun x10 => if x10 = 0 then some (0, σ1) else some (1, σ1))) else some ((-2), σ1)))
-- X6_read
def f_X6_read (a1 a2 : Int32) (σ : St) : Option (Int32 × St) := bs (f_X6_refresh σ) (fun σ1 => bi (f_X0_has a1 σ1) (fun x2 => if x2 = 0 then some ((-1), σ1) else bi (f_X6_isBelow a2 24) (fun x3 => if x3 = 0 then some ((-2), σ1) else bi (f_X0_blockAt a1 a2 σ1) (fun x4 => some (x4, σ1)))))
-- X6_many
def f_X6_many (a1 : Int32) (σ : St) : Option (Int32 × St) := bs (f_X6_refresh σ) (fun σ1 => if a1 = 0 then lf σ1 1 0 (fun x2 => some (x2, σ1)) else if a1 = 1 then lf σ1 3 0 (fun x3 => some (x3, σ1)) else if a1 = 2 then bi (f_X1_manyOf 0 σ1) (fun x4 => some (x4, σ1)) else if a1 = 3 then bi (f_X1_manyOf 1 σ1) (fun x5 => some (x5, σ1)) else if a1 = 4 then lf σ1 5 3 (fun x6 => some (x6, σ1)) else if a1 = 5 then bi (f_X5_manyJoined σ1) (fun x7 => some (x7, σ1)) else if a1 = 6 then bi (f_X5_manyLeftOver σ1) (fun x8 => some (x8, σ1)) else if a1 = 7 then lf σ1 6 3 (fun x9 => some (x9, σ1)) else if a1 = 8 then bi (f_X0_manyRings σ1) (fun x10 => some (x10, σ1)) else if a1 = 9 then bi (f_X0_manyBroken σ1) (fun x11 => some (x11, σ1)) else if a1 = 10 then bi (f_X0_manyIdleFrom σ1) (fun x12 => some (x12, σ1)) else if a1 = 11 then bi (f_X5_manyLoosePictures σ1) (fun x13 => some (x13, σ1)) else some ((-2), σ1))
-- X7_within
def f_X7_within (a0 a1 a2 : Int32) : Option Int32 := if a0 < a1 then gb 0 (some 0) else if a2 < a0 then gb 0 (some 0) else gb 1 (some 1)
-- X7_isBlock
def f_X7_isBlock (a1 : Int32) (σ : St) : Option Int32 := lf σ 0 0 (fun x1 => bi (f_X7_within a1 0 (x1 - 1)) (fun x2 => gb x2 (some x2)))
-- X7_isMeeting
def f_X7_isMeeting (a1 a2 a3 a4 a5 : Int32) (σ : St) : Option Int32 := ld σ 3 24 a1 (fun x1 => if a3 < x1 then gb 0 (some 0) else ld σ 4 24 a1 (fun x2 => if x2 < a2 then gb 0 (some 0) else ld σ 5 24 a1 (fun x3 => if a5 < x3 then gb 0 (some 0) else ld σ 6 24 a1 (fun x4 => if x4 < a4 then gb 0 (some 0) else gb 1 (some 1)))))
-- X7_block
def f_X7_block_B219 (t0 t1 : Int32) (σ : St) : Option (Int32 × St) := sd σ 7 24 t1 t0 (fun σ1 => lf σ1 0 0 (fun x2 => sd σ1 8 48 (2 * x2) (-9) (fun σ3 => lf σ3 0 0 (fun x4 => sd σ3 8 48 ((2 * x4) + 1) (-9) (fun σ5 => lf σ5 0 0 (fun x6 => sf σ5 0 0 (x6 + 1) (fun σ7 => lf σ7 0 0 (fun x8 => some ((x8 - 1), σ7)))))))))
def f_X7_block_L80 : Nat → Int32 → Int32 → Int32 → Int32 → Int32 → Int32 → Int32 → St → Option (Int32 × St)
  | 0, _, _, _, _, _, _, _, _ => none
  | n + 1, a1, a2, a3, a4, a5, a6, a8, σ => lf σ 0 0 (fun x1 => if x1 ≤ a8 then lf σ 0 0 (fun x2 => if x2 = 24 then some ((-4), σ) else lf σ 0 0 (fun x3 => sd σ 1 24 x3 a1 (fun σ4 => lf σ4 0 0 (fun x5 => sd σ4 2 24 x5 a2 (fun σ6 => lf σ6 0 0 (fun x7 => sd σ6 3 24 x7 a3 (fun σ8 => lf σ8 0 0 (fun x9 => sd σ8 4 24 x9 a4 (fun σ10 => lf σ10 0 0 (fun x11 => sd σ10 5 24 x11 a5 (fun σ12 => lf σ12 0 0 (fun x13 => sd σ12 6 24 x13 a6 (fun σ14 => lf σ14 0 0 (fun x15 => if a2 = 1 then f_X7_block_B219 1 x15 σ14 else f_X7_block_B219 (-9) x15 σ14)))))))))))))) else ld σ 1 24 a8 (fun x16 => if x16 = a1 then bi (f_X7_isMeeting a8 a3 a4 a5 a6 σ) (fun x17 => if x17 = 0 then f_X7_block_L80 n a1 a2 a3 a4 a5 a6 (a8 + 1) σ else some ((-3), σ)) else f_X7_block_L80 n a1 a2 a3 a4 a5 a6 (a8 + 1) σ))
def f_X7_block_B49 (a1 a2 a3 a4 a5 a6 t0 : Int32) (σ : St) : Option (Int32 × St) := bi (f_X7_within a1 0 3) (fun x1 => if x1 = 0 then some ((-2), σ) else bi (f_X7_within a2 0 2) (fun x2 => if x2 = 0 then some ((-2), σ) else if t0 = 0 then some ((-2), σ) else f_X7_block_L80 64 a1 a2 a3 a4 a5 a6 0 σ))
def f_X7_block_B48 (a1 a2 a3 a4 a5 a6 : Int32) (σ : St) : Option (Int32 × St) := f_X7_block_B49 a1 a2 a3 a4 a5 a6 0 σ
def f_X7_block (a1 a2 a3 a4 a5 a6 : Int32) (σ : St) : Option (Int32 × St) := bi (f_X7_within a3 0 a4) (fun x1 => if x1 = 0 then f_X7_block_B48 a1 a2 a3 a4 a5 a6 σ else bi (f_X7_within a4 a3 7) (fun x2 => if x2 = 0 then f_X7_block_B48 a1 a2 a3 a4 a5 a6 σ else bi (f_X7_within a5 0 a6) (fun x3 => if x3 = 0 then f_X7_block_B48 a1 a2 a3 a4 a5 a6 σ else bi (f_X7_within a6 a5 29) (fun x4 => if x4 = 0 then f_X7_block_B48 a1 a2 a3 a4 a5 a6 σ else f_X7_block_B49 a1 a2 a3 a4 a5 a6 1 σ))))
-- X7_words
def f_X7_words (a1 a2 : Int32) (σ : St) : Option (Int32 × St) := bi (f_X7_isBlock a1 σ) (fun x1 => if x1 = 0 then some ((-1), σ) else bi (f_X7_within a2 1 99) (fun x2 => if x2 = 0 then some ((-2), σ) else ld σ 2 24 a1 (fun x3 => if x3 = 1 then ld σ 7 24 a1 (fun x4 => sd σ 7 24 a1 a2 (fun σ5 => some (x4, σ5))) else some ((-3), σ))))
-- X7_line
def f_X7_line_B45 (a1 a2 a3 a4 a5 a6 t0 : Int32) (σ : St) : Option (Int32 × St) := bi (f_X7_within a3 1 a6) (fun x1 => if x1 = 0 then some ((-2), σ) else bi (f_X7_within a4 0 a5) (fun x2 => if x2 = 0 then some ((-2), σ) else if a5 ≤ t0 then lf σ 0 10 (fun x3 => if x3 = 12 then some ((-4), σ) else lf σ 0 10 (fun x4 => sd σ 10 12 x4 a1 (fun σ5 => lf σ5 0 10 (fun x6 => sd σ5 11 12 x6 a2 (fun σ7 => lf σ7 0 10 (fun x8 => sd σ7 12 12 x8 a3 (fun σ9 => lf σ9 0 10 (fun x10 => sd σ9 13 12 x10 a4 (fun σ11 => lf σ11 0 10 (fun x12 => sd σ11 14 12 x12 a5 (fun σ13 => lf σ13 0 10 (fun x14 => sf σ13 0 10 (x14 + 1) (fun σ15 => lf σ15 0 10 (fun x16 => some ((x16 - 1), σ15))))))))))))))) else some ((-2), σ)))
def f_X7_line_B32 (a1 a2 a3 a4 a5 t0 : Int32) (σ : St) : Option (Int32 × St) := if a2 = 0 then f_X7_line_B45 a1 a2 a3 a4 a5 t0 29 σ else f_X7_line_B45 a1 a2 a3 a4 a5 t0 7 σ
def f_X7_line (a1 a2 a3 a4 a5 : Int32) (σ : St) : Option (Int32 × St) := bi (f_X7_within a1 0 3) (fun x1 => if x1 = 0 then some ((-2), σ) else bi (f_X7_within a2 0 1) (fun x2 => if x2 = 0 then some ((-2), σ) else if a2 = 0 then f_X7_line_B32 a1 a2 a3 a4 a5 7 σ else f_X7_line_B32 a1 a2 a3 a4 a5 29 σ))
-- X7_back
def f_X7_back (σ : St) : Option (Int32 × St) := lf σ 0 0 (fun x1 => if x1 = 0 then some ((-3), σ) else lf σ 0 0 (fun x2 => sf σ 0 0 (x2 - 1) (fun σ3 => lf σ3 0 0 (fun x4 => some (x4, σ3)))))
-- X7_erase
def f_X7_erase (σ : St) : Option (Int32 × St) := lf σ 0 10 (fun x1 => if x1 = 0 then some ((-3), σ) else lf σ 0 10 (fun x2 => sf σ 0 10 (x2 - 1) (fun σ3 => lf σ3 0 10 (fun x4 => some (x4, σ3)))))
-- X7_clear
def f_X7_clear (σ : St) : Option (Int32 × St) := lf σ 0 0 (fun x1 => sf σ 0 0 0 (fun σ2 => sf σ2 0 10 0 (fun σ3 => some (x1, σ3))))
-- X7_turn
def f_X7_turn_L70 : Nat → Int32 → Int32 → St → Option (Int32 × St)
  | 0, _, _, _ => none
  | n + 1, a1, a2, σ => lf σ 0 10 (fun x1 => if x1 ≤ a2 then some (a1, σ) else ld σ 11 12 a2 (fun x2 => if x2 = 0 then ld σ 12 12 a2 (fun x7 => sd σ 12 12 a2 (8 - x7) (fun σ8 => f_X7_turn_L70 n a1 (a2 + 1) σ8)) else ld σ 13 12 a2 (fun x3 => ld σ 14 12 a2 (fun x4 => sd σ 13 12 a2 (7 - x4) (fun σ5 => sd σ5 14 12 a2 (7 - x3) (fun σ6 => f_X7_turn_L70 n a1 (a2 + 1) σ6))))))
def f_X7_turn_L4 : Nat → Int32 → Int32 → St → Option (Int32 × St)
  | 0, _, _, _ => none
  | n + 1, a1, a2, σ => lf σ 0 0 (fun x1 => if x1 ≤ a2 then f_X7_turn_L70 64 a1 0 σ else ld σ 3 24 a2 (fun x2 => ld σ 4 24 a2 (fun x3 => sd σ 3 24 a2 (7 - x3) (fun σ4 => sd σ4 4 24 a2 (7 - x2) (fun σ5 => ld σ5 3 24 a2 (fun x6 => if x6 = x2 then f_X7_turn_L4 n (a1 + 0) (a2 + 1) σ5 else f_X7_turn_L4 n (a1 + 1) (a2 + 1) σ5))))))
def f_X7_turn (σ : St) : Option (Int32 × St) := f_X7_turn_L4 64 0 0 σ
-- X7_ofBlock
def f_X7_ofBlock (a1 a2 : Int32) (σ : St) : Option Int32 := bi (f_X7_isBlock a1 σ) (fun x1 => if x1 = 0 then some (-1) else if a2 = 0 then ld σ 1 24 a1 (fun x2 => some x2) else if a2 = 1 then ld σ 2 24 a1 (fun x3 => some x3) else if a2 = 2 then ld σ 3 24 a1 (fun x4 => some x4) else if a2 = 3 then ld σ 4 24 a1 (fun x5 => some x5) else if a2 = 4 then ld σ 5 24 a1 (fun x6 => some x6) else if a2 = 5 then ld σ 6 24 a1 (fun x7 => some x7) else if a2 = 6 then ld σ 7 24 a1 (fun x8 => some x8) else some (-2))
-- X7_ofLine
def f_X7_ofLine (a1 a2 : Int32) (σ : St) : Option Int32 := lf σ 0 10 (fun x1 => bi (f_X7_within a1 0 (x1 - 1)) (fun x2 => if x2 = 0 then some (-1) else if a2 = 0 then ld σ 10 12 a1 (fun x3 => some x3) else if a2 = 1 then ld σ 11 12 a1 (fun x4 => some x4) else if a2 = 2 then ld σ 12 12 a1 (fun x5 => some x5) else if a2 = 3 then ld σ 13 12 a1 (fun x6 => some x6) else if a2 = 4 then ld σ 14 12 a1 (fun x7 => some x7) else some (-2)))
-- X7_at
def f_X7_at_L35 (σ : St) : Nat → Int32 → Int32 → Int32 → Int32 → Option Int32
  | 0, _, _, _, _ => none
  | n + 1, a1, a2, a3, a4 => lf σ 0 0 (fun x1 => if x1 ≤ a4 then some (-9) else ld σ 1 24 a4 (fun x2 => if x2 = a1 then bi (f_X7_isMeeting a4 a2 a2 a3 a3 σ) (fun x3 => if x3 = 0 then f_X7_at_L35 σ n a1 a2 a3 (a4 + 1) else some a4) else f_X7_at_L35 σ n a1 a2 a3 (a4 + 1)))
def f_X7_at (a1 a2 a3 : Int32) (σ : St) : Option Int32 := bi (f_X7_within a1 0 3) (fun x1 => if x1 = 0 then some (-2) else bi (f_X7_within a2 0 7) (fun x2 => if x2 = 0 then some (-2) else bi (f_X7_within a3 0 29) (fun x3 => if x3 = 0 then some (-2) else f_X7_at_L35 σ 64 a1 a2 a3 0)))
-- X7_isHead
def f_X7_isHead (a1 : Int32) (σ : St) : Option Int32 := bi (f_X7_isBlock a1 σ) (fun x1 => if x1 = 0 then gb 0 (some 0) else ld σ 2 24 a1 (fun x2 => if x2 = 0 then gb 1 (some 1) else gb 0 (some 0)))
-- X7_isUpright
def f_X7_isUpright_L3 (σ : St) : Nat → Int32 → Int32 → Int32 → Int32 → Int32 → Option Int32
  | 0, _, _, _, _, _ => none
  | n + 1, a1, a2, a3, a4, a5 => lf σ 0 10 (fun x1 => if x1 ≤ a5 then gb 0 (some 0) else ld σ 10 12 a5 (fun x2 => if x2 = a1 then ld σ 11 12 a5 (fun x3 => if x3 = 0 then ld σ 12 12 a5 (fun x4 => if x4 = a2 then ld σ 13 12 a5 (fun x5 => if a4 < x5 then f_X7_isUpright_L3 σ n a1 a2 a3 a4 (a5 + 1) else ld σ 14 12 a5 (fun x6 => if x6 < a3 then f_X7_isUpright_L3 σ n a1 a2 a3 a4 (a5 + 1) else gb 1 (some 1))) else f_X7_isUpright_L3 σ n a1 a2 a3 a4 (a5 + 1)) else f_X7_isUpright_L3 σ n a1 a2 a3 a4 (a5 + 1)) else f_X7_isUpright_L3 σ n a1 a2 a3 a4 (a5 + 1)))
def f_X7_isUpright (a1 a2 a3 a4 : Int32) (σ : St) : Option Int32 := f_X7_isUpright_L3 σ 64 a1 a2 a3 a4 0
-- X7_reachesAcross
def f_X7_reachesAcross_L41 (σ : St) : Nat → Int32 → Int32 → Int32 → Option Int32
  | 0, _, _, _ => none
  | n + 1, a1, a2, a3 => if a2 < a3 then gb 1 (some 1) else ld σ 1 24 a1 (fun x1 => ld σ 6 24 a1 (fun x2 => ld σ 6 24 a1 (fun x3 => bi (f_X7_isUpright x1 a3 (x2 + 1) (x3 + 1) σ) (fun x4 => if x4 = 0 then f_X7_reachesAcross_L41 σ n a1 a2 (a3 + 1) else gb 0 (some 0)))))
def f_X7_reachesAcross (a1 a2 : Int32) (σ : St) : Option Int32 := ld σ 6 24 a1 (fun x1 => if x1 = 29 then gb 0 (some 0) else ld σ 3 24 a1 (fun x2 => ld σ 4 24 a1 (fun x3 => bi (f_X7_within a2 x2 x3) (fun x4 => if x4 = 0 then gb 0 (some 0) else ld σ 3 24 a1 (fun x5 => f_X7_reachesAcross_L41 σ 64 a1 a2 (x5 + 1))))))
-- X7_lastRow
def f_X7_lastRow_B217 (σ : St) (K : Int32 → Int32 → Int32 → Int32 → Int32 → Option Int32) (a1 a2 a3 a4 a5 t0 : Int32) : Option Int32 := if t0 = 0 then K a1 a2 a3 a4 (a5 + 1) else ld σ 12 12 a5 (fun x1 => if a4 ≤ (x1 - 1) then K a1 a2 a3 a4 (a5 + 1) else ld σ 12 12 a5 (fun x2 => K a1 a2 a3 (x2 - 1) (a5 + 1)))
def f_X7_lastRow_B216 (σ : St) (K : Int32 → Int32 → Int32 → Int32 → Int32 → Option Int32) (a1 a2 a3 a4 a5 : Int32) : Option Int32 := f_X7_lastRow_B217 σ K a1 a2 a3 a4 a5 0
def f_X7_lastRow_L144 (σ : St) : Nat → Int32 → Int32 → Int32 → Int32 → Int32 → Option Int32
  | 0, _, _, _, _, _ => none
  | n + 1, a1, a2, a3, a4, a5 => lf σ 0 10 (fun x1 => if x1 ≤ a5 then if a4 ≤ a3 then some (-9) else some a4 else ld σ 10 12 a5 (fun x2 => ld σ 1 24 a1 (fun x3 => if x2 = x3 then ld σ 11 12 a5 (fun x4 => if x4 = 1 then ld σ 13 12 a5 (fun x5 => ld σ 14 12 a5 (fun x6 => bi (f_X7_within a2 x5 x6) (fun x7 => if x7 = 0 then f_X7_lastRow_B216 σ (f_X7_lastRow_L144 σ n) a1 a2 a3 a4 a5 else ld σ 12 12 a5 (fun x8 => if x8 ≤ a3 then f_X7_lastRow_B216 σ (f_X7_lastRow_L144 σ n) a1 a2 a3 a4 a5 else f_X7_lastRow_B217 σ (f_X7_lastRow_L144 σ n) a1 a2 a3 a4 a5 1)))) else f_X7_lastRow_B216 σ (f_X7_lastRow_L144 σ n) a1 a2 a3 a4 a5) else f_X7_lastRow_B216 σ (f_X7_lastRow_L144 σ n) a1 a2 a3 a4 a5)))
def f_X7_lastRow_B98 (σ : St) (K : Int32 → Int32 → Int32 → Int32 → Int32 → Option Int32) (a1 a2 a3 a4 a5 t0 : Int32) : Option Int32 := if t0 = 0 then K a1 a2 a3 a4 (a5 + 1) else ld σ 5 24 a5 (fun x1 => if a4 ≤ (x1 - 1) then K a1 a2 a3 a4 (a5 + 1) else ld σ 5 24 a5 (fun x2 => K a1 a2 a3 (x2 - 1) (a5 + 1)))
def f_X7_lastRow_B97 (σ : St) (K : Int32 → Int32 → Int32 → Int32 → Int32 → Option Int32) (a1 a2 a3 a4 a5 : Int32) : Option Int32 := f_X7_lastRow_B98 σ K a1 a2 a3 a4 a5 0
def f_X7_lastRow_L26 (σ : St) : Nat → Int32 → Int32 → Int32 → Int32 → Int32 → Option Int32
  | 0, _, _, _, _, _ => none
  | n + 1, a1, a2, a3, a4, a5 => lf σ 0 0 (fun x1 => if x1 ≤ a5 then f_X7_lastRow_L144 σ 64 a1 a2 a3 a4 0 else ld σ 1 24 a5 (fun x2 => ld σ 1 24 a1 (fun x3 => if x2 = x3 then ld σ 2 24 a5 (fun x4 => if x4 = 0 then ld σ 3 24 a5 (fun x5 => ld σ 4 24 a5 (fun x6 => bi (f_X7_within a2 x5 x6) (fun x7 => if x7 = 0 then f_X7_lastRow_B97 σ (f_X7_lastRow_L26 σ n) a1 a2 a3 a4 a5 else ld σ 5 24 a5 (fun x8 => if x8 ≤ a3 then f_X7_lastRow_B97 σ (f_X7_lastRow_L26 σ n) a1 a2 a3 a4 a5 else f_X7_lastRow_B98 σ (f_X7_lastRow_L26 σ n) a1 a2 a3 a4 a5 1)))) else f_X7_lastRow_B97 σ (f_X7_lastRow_L26 σ n) a1 a2 a3 a4 a5) else f_X7_lastRow_B97 σ (f_X7_lastRow_L26 σ n) a1 a2 a3 a4 a5)))
def f_X7_lastRow (a1 a2 : Int32) (σ : St) : Option Int32 := bi (f_X7_reachesAcross a1 a2 σ) (fun x1 => if x1 = 0 then some (-9) else ld σ 6 24 a1 (fun x2 => f_X7_lastRow_L26 σ 64 a1 a2 x2 29 0))
-- X7_headOver
def f_X7_headOver_B63 (σ : St) (K : Int32 → Int32 → Option Int32) (a1 a2 t0 : Int32) : Option Int32 := if t0 = 0 then K a1 (a2 + 1) else ld σ 3 24 a1 (fun x1 => bi (f_X7_lastRow a2 x1 σ) (fun x2 => ld σ 5 24 a1 (fun x3 => if x2 < x3 then K a1 (a2 + 1) else some a2)))
def f_X7_headOver_B62 (σ : St) (K : Int32 → Int32 → Option Int32) (a1 a2 : Int32) : Option Int32 := f_X7_headOver_B63 σ K a1 a2 0
def f_X7_headOver_L2 (σ : St) : Nat → Int32 → Int32 → Option Int32
  | 0, _, _ => none
  | n + 1, a1, a2 => lf σ 0 0 (fun x1 => if x1 ≤ a2 then some (-9) else ld σ 2 24 a2 (fun x2 => if x2 = 0 then ld σ 1 24 a2 (fun x3 => ld σ 1 24 a1 (fun x4 => if x3 = x4 then ld σ 5 24 a1 (fun x5 => ld σ 6 24 a2 (fun x6 => if x5 ≤ x6 then f_X7_headOver_B62 σ (f_X7_headOver_L2 σ n) a1 a2 else ld σ 2 24 a1 (fun x7 => if x7 = 0 then f_X7_headOver_B62 σ (f_X7_headOver_L2 σ n) a1 a2 else f_X7_headOver_B63 σ (f_X7_headOver_L2 σ n) a1 a2 1))) else f_X7_headOver_B62 σ (f_X7_headOver_L2 σ n) a1 a2)) else f_X7_headOver_B62 σ (f_X7_headOver_L2 σ n) a1 a2))
def f_X7_headOver (a1 : Int32) (σ : St) : Option Int32 := f_X7_headOver_L2 σ 64 a1 0
-- X7_comesBehind
def f_X7_comesBehind (a1 a2 : Int32) (σ : St) : Option St := ld σ 18 24 a1 (fun x1 => sd σ 19 576 ((24 * a1) + x1) a2 (fun σ2 => ld σ2 18 24 a1 (fun x3 => sd σ2 18 24 a1 (x3 + 1) (fun σ4 => some σ4))))
-- X7_isAhead
def f_X7_isAhead (a1 a2 : Int32) (σ : St) : Option Int32 := ld σ 3 24 a1 (fun x1 => ld σ 3 24 a2 (fun x2 => if x1 = x2 then ld σ 5 24 a1 (fun x3 => ld σ 5 24 a2 (fun x4 => if x4 ≤ x3 then gb 0 (some 0) else gb 1 (some 1))) else ld σ 3 24 a1 (fun x5 => ld σ 3 24 a2 (fun x6 => if x6 ≤ x5 then gb 0 (some 0) else gb 1 (some 1)))))
-- X7_comesUnder
def f_X7_comesUnder_L15 : Nat → Int32 → Int32 → Int32 → St → Option St
  | 0, _, _, _, _ => none
  | n + 1, a1, a2, a3, σ => if a3 ≤ 0 then some σ else ld σ 19 576 (((24 * a1) + a3) - 1) (fun x1 => bi (f_X7_isAhead a2 x1 σ) (fun x2 => if x2 = 0 then some σ else ld σ 19 576 (((24 * a1) + a3) - 1) (fun x3 => sd σ 19 576 ((24 * a1) + a3) x3 (fun σ4 => sd σ4 19 576 (((24 * a1) + a3) - 1) a2 (fun σ5 => f_X7_comesUnder_L15 n a1 a2 (a3 + (-1)) σ5)))))
def f_X7_comesUnder (a1 a2 : Int32) (σ : St) : Option St := bs (f_X7_comesBehind a1 a2 σ) (fun σ1 => ld σ1 18 24 a1 (fun x2 => f_X7_comesUnder_L15 64 a1 a2 (x2 - 1) σ1))
-- X7_takes
def f_X7_takes_B116 (σ : St) (a2 a3 t0 : Int32) : Option Int32 := if t0 < a3 then gb 0 (some 0) else ld σ 1 24 a2 (fun x1 => ld σ 3 24 a2 (fun x2 => bi (f_X7_isUpright x1 x2 a3 t0 σ) (fun x3 => if x3 = 0 then gb 1 (some 1) else gb 0 (some 0))))
def f_X7_takes_B85 (σ : St) (a1 a2 t0 : Int32) : Option Int32 := ld σ 6 24 a2 (fun x1 => ld σ 6 24 a1 (fun x2 => if x2 ≤ x1 then ld σ 6 24 a1 (fun x3 => f_X7_takes_B116 σ a2 t0 x3) else ld σ 6 24 a2 (fun x4 => f_X7_takes_B116 σ a2 t0 x4)))
def f_X7_takes (a1 a2 : Int32) (σ : St) : Option Int32 := ld σ 2 24 a1 (fun x1 => if x1 = 1 then ld σ 16 24 a1 (fun x2 => if x2 = (-9) then gb 0 (some 0) else ld σ 1 24 a1 (fun x3 => ld σ 1 24 a2 (fun x4 => if x3 = x4 then ld σ 4 24 a1 (fun x5 => ld σ 3 24 a2 (fun x6 => if x5 = (x6 - 1) then ld σ 5 24 a2 (fun x7 => ld σ 5 24 a1 (fun x8 => if x7 ≤ x8 then ld σ 5 24 a1 (fun x9 => f_X7_takes_B85 σ a1 a2 x9) else ld σ 5 24 a2 (fun x10 => f_X7_takes_B85 σ a1 a2 x10))) else gb 0 (some 0))) else gb 0 (some 0)))) else gb 0 (some 0))
-- X7_takerNow
def f_X7_takerNow_B43 (σ : St) (K : Int32 → Int32 → Int32 → Option Int32) (a1 a3 : Int32) : Option Int32 := K a1 a3 (a3 + 1)
def f_X7_takerNow_L5 (σ : St) : Nat → Int32 → Int32 → Int32 → Option Int32
  | 0, _, _, _ => none
  | n + 1, a1, a2, a3 => lf σ 0 0 (fun x1 => if x1 ≤ a3 then some a2 else bi (f_X7_takes a3 a1 σ) (fun x2 => if x2 = 0 then f_X7_takerNow_L5 σ n a1 a2 (a3 + 1) else if a2 = (-9) then f_X7_takerNow_B43 σ (f_X7_takerNow_L5 σ n) a1 a3 else ld σ 5 24 a3 (fun x3 => ld σ 5 24 a2 (fun x4 => if x4 ≤ x3 then f_X7_takerNow_L5 σ n a1 a2 (a3 + 1) else f_X7_takerNow_B43 σ (f_X7_takerNow_L5 σ n) a1 a3))))
def f_X7_takerNow (a1 : Int32) (σ : St) : Option Int32 := f_X7_takerNow_L5 σ 64 a1 (-9) 0
-- X7_joins
def f_X7_joins_L2 : Nat → Int32 → St → Option (Int32 × St)
  | 0, _, _ => none
  | n + 1, a1, σ => lf σ 0 0 (fun x1 => if x1 ≤ a1 then gb 0 (some (0, σ)) else ld σ 2 24 a1 (fun x2 => if x2 = 1 then ld σ 16 24 a1 (fun x3 => if x3 = (-9) then bi (f_X7_takerNow a1 σ) (fun x4 => if x4 = (-9) then f_X7_joins_L2 n (a1 + 1) σ else sd σ 17 24 a1 x4 (fun σ5 => ld σ5 16 24 x4 (fun x6 => sd σ5 16 24 a1 x6 (fun σ7 => ld σ7 16 24 x4 (fun x8 => bs (f_X7_comesBehind x8 a1 σ7) (fun σ9 => gb 1 (some (1, σ9)))))))) else f_X7_joins_L2 n (a1 + 1) σ) else f_X7_joins_L2 n (a1 + 1) σ))
def f_X7_joins (σ : St) : Option (Int32 × St) := f_X7_joins_L2 64 0 σ
-- X7_findStories
def f_X7_findStories_B314 (K : Int32 → St → Option St) (a2 t0 t1 : Int32) (σ : St) : Option St := sd σ 21 24 t1 t0 (fun σ1 => K (a2 + 1) σ1)
def f_X7_findStories_B272 (K : Int32 → St → Option St) (a2 t0 : Int32) (σ : St) : Option St := if t0 = (-9) then ld σ 2 24 a2 (fun x1 => if x1 = 2 then f_X7_findStories_B314 K a2 (-9) a2 σ else ld σ 21 24 a2 (fun x2 => f_X7_findStories_B314 K a2 x2 a2 σ)) else ld σ 21 24 t0 (fun x3 => f_X7_findStories_B314 K a2 x3 a2 σ)
def f_X7_findStories_L224 : Nat → Int32 → St → Option St
  | 0, _, _ => none
  | n + 1, a2, σ => lf σ 0 0 (fun x1 => if x1 ≤ a2 then some σ else ld σ 2 24 a2 (fun x2 => if x2 = 1 then ld σ 16 24 a2 (fun x5 => f_X7_findStories_B272 (f_X7_findStories_L224 n) a2 x5 σ) else ld σ 2 24 a2 (fun x3 => if x3 = 2 then ld σ 15 24 a2 (fun x4 => f_X7_findStories_B272 (f_X7_findStories_L224 n) a2 x4 σ) else f_X7_findStories_B272 (f_X7_findStories_L224 n) a2 (-9) σ)))
def f_X7_findStories_B186 (K : Int32 → St → Option St) (a2 : Int32) (σ : St) : Option St := lf σ 0 21 (fun x1 => sd σ 20 24 x1 a2 (fun σ2 => lf σ2 0 21 (fun x3 => sd σ2 21 24 a2 x3 (fun σ4 => lf σ4 0 21 (fun x5 => sf σ4 0 21 (x5 + 1) (fun σ6 => K (a2 + 1) σ6))))))
def f_X7_findStories_B173 (K : Int32 → St → Option St) (a2 a3 : Int32) (σ : St) : Option St := if a3 = 0 then ld σ 2 24 a2 (fun x1 => if x1 = 0 then f_X7_findStories_B186 K a2 σ else K (a2 + 1) σ) else f_X7_findStories_B186 K a2 σ
def f_X7_findStories_B162 (K : Int32 → St → Option St) (a2 t0 : Int32) (σ : St) : Option St := if t0 = 0 then f_X7_findStories_B173 K a2 t0 σ else bs (f_X7_comesBehind a2 a2 σ) (fun σ1 => f_X7_findStories_B173 K a2 t0 σ1)
def f_X7_findStories_B161 (K : Int32 → St → Option St) (a2 : Int32) (σ : St) : Option St := f_X7_findStories_B162 K a2 0 σ
def f_X7_findStories_L128 : Nat → Int32 → St → Option St
  | 0, _, _ => none
  | n + 1, a2, σ => lf σ 0 0 (fun x1 => if x1 ≤ a2 then f_X7_findStories_L224 64 0 σ else ld σ 2 24 a2 (fun x2 => if x2 = 1 then ld σ 16 24 a2 (fun x3 => if x3 = (-9) then f_X7_findStories_B162 (f_X7_findStories_L128 n) a2 1 σ else f_X7_findStories_B161 (f_X7_findStories_L128 n) a2 σ) else f_X7_findStories_B161 (f_X7_findStories_L128 n) a2 σ))
def f_X7_findStories_L109 : Nat → Int32 → St → Option St
  | 0, _, _ => none
  | n + 1, a1, σ => if a1 = 0 then sf σ 0 21 0 (fun σ1 => f_X7_findStories_L128 64 0 σ1) else bp (f_X7_joins σ) (fun x2 σ3 => f_X7_findStories_L109 n x2 σ3)
def f_X7_findStories_L71 : Nat → Int32 → St → Option St
  | 0, _, _ => none
  | n + 1, a1, σ => lf σ 0 0 (fun x1 => if x1 ≤ a1 then f_X7_findStories_L109 64 1 σ else ld σ 16 24 a1 (fun x2 => if x2 = (-9) then f_X7_findStories_L71 n (a1 + 1) σ else ld σ 16 24 a1 (fun x3 => bs (f_X7_comesUnder x3 a1 σ) (fun σ4 => f_X7_findStories_L71 n (a1 + 1) σ4))))
def f_X7_findStories_B62 (K : Int32 → St → Option St) (a1 t0 t1 : Int32) (σ : St) : Option St := sd σ 16 24 t1 t0 (fun σ1 => K (a1 + 1) σ1)
def f_X7_findStories_L2 : Nat → Int32 → St → Option St
  | 0, _, _ => none
  | n + 1, a1, σ => lf σ 0 0 (fun x1 => if x1 ≤ a1 then f_X7_findStories_L71 64 0 σ else sd σ 18 24 a1 0 (fun σ2 => sd σ2 17 24 a1 (-9) (fun σ3 => bi (f_X7_headOver a1 σ3) (fun x4 => sd σ3 15 24 a1 x4 (fun σ5 => ld σ5 2 24 a1 (fun x6 => if x6 = 1 then ld σ5 15 24 a1 (fun x7 => f_X7_findStories_B62 (f_X7_findStories_L2 n) a1 x7 a1 σ5) else f_X7_findStories_B62 (f_X7_findStories_L2 n) a1 (-9) a1 σ5))))))
def f_X7_findStories (σ : St) : Option St := f_X7_findStories_L2 64 0 σ
-- X7_reach
def f_X7_reach (a1 a2 : Int32) (σ : St) : Option Int32 := bi (f_X7_isHead a1 σ) (fun x1 => if x1 = 0 then some (-1) else bi (f_X7_within a2 0 7) (fun x2 => if x2 = 0 then some (-2) else bi (f_X7_lastRow a1 a2 σ) (fun x3 => some x3)))
-- X7_under
def f_X7_under (a1 : Int32) (σ : St) : Option Int32 := bi (f_X7_isBlock a1 σ) (fun x1 => if x1 = 0 then some (-1) else ld σ 2 24 a1 (fun x2 => if x2 = 0 then some (-3) else bi (f_X7_headOver a1 σ) (fun x3 => some x3)))
-- X7_story
def f_X7_story (a1 : Int32) (σ : St) : Option (Int32 × St) := bi (f_X7_isBlock a1 σ) (fun x1 => if x1 = 0 then some ((-1), σ) else bs (f_X7_findStories σ) (fun σ2 => ld σ2 21 24 a1 (fun x3 => some (x3, σ2))))
-- X7_takenBy
def f_X7_takenBy (a1 : Int32) (σ : St) : Option (Int32 × St) := bi (f_X7_isBlock a1 σ) (fun x1 => if x1 = 0 then some ((-1), σ) else ld σ 2 24 a1 (fun x2 => if x2 = 1 then bs (f_X7_findStories σ) (fun σ3 => ld σ3 17 24 a1 (fun x4 => some (x4, σ3))) else some ((-3), σ)))
-- X7_mark
def f_X7_mark_B88 (a1 a2 a3 a4 t0 : Int32) (σ : St) : Option (Int32 × St) := sd σ 8 48 ((2 * a1) + a2) a3 (fun σ1 => sd σ1 9 48 ((2 * a1) + a2) a4 (fun σ2 => some (t0, σ2)))
def f_X7_mark_B68 (a1 a2 a3 a4 : Int32) (σ : St) : Option (Int32 × St) := ld σ 8 48 ((2 * a1) + a2) (fun x1 => if x1 = (-9) then f_X7_mark_B88 a1 a2 a3 a4 0 σ else f_X7_mark_B88 a1 a2 a3 a4 1 σ)
def f_X7_mark (a1 a2 a3 a4 : Int32) (σ : St) : Option (Int32 × St) := bi (f_X7_isBlock a1 σ) (fun x1 => if x1 = 0 then some ((-1), σ) else bi (f_X7_within a2 0 1) (fun x2 => if x2 = 0 then some ((-2), σ) else bi (f_X7_within a3 0 3) (fun x3 => if x3 = 0 then some ((-2), σ) else bi (f_X7_within a4 0 99) (fun x4 => if x4 = 0 then some ((-2), σ) else ld σ 2 24 a1 (fun x5 => if x5 = 2 then some ((-3), σ) else if a2 = 0 then ld σ 2 24 a1 (fun x6 => if x6 = 0 then some ((-3), σ) else f_X7_mark_B68 a1 a2 a3 a4 σ) else f_X7_mark_B68 a1 a2 a3 a4 σ)))))
-- X7_unmark
def f_X7_unmark_B42 (a1 a2 t0 : Int32) (σ : St) : Option (Int32 × St) := sd σ 8 48 ((2 * a1) + a2) (-9) (fun σ1 => some (t0, σ1))
def f_X7_unmark (a1 a2 : Int32) (σ : St) : Option (Int32 × St) := bi (f_X7_isBlock a1 σ) (fun x1 => if x1 = 0 then some ((-1), σ) else bi (f_X7_within a2 0 1) (fun x2 => if x2 = 0 then some ((-2), σ) else ld σ 8 48 ((2 * a1) + a2) (fun x3 => if x3 = (-9) then f_X7_unmark_B42 a1 a2 0 σ else f_X7_unmark_B42 a1 a2 1 σ)))
-- X7_ofMark
def f_X7_ofMark (a1 a2 a3 : Int32) (σ : St) : Option Int32 := bi (f_X7_isBlock a1 σ) (fun x1 => if x1 = 0 then some (-1) else bi (f_X7_within a2 0 1) (fun x2 => if x2 = 0 then some (-2) else bi (f_X7_within a3 0 1) (fun x3 => if x3 = 0 then some (-2) else ld σ 8 48 ((2 * a1) + a2) (fun x4 => if x4 = (-9) then some x4 else if a3 = 0 then some x4 else ld σ 9 48 ((2 * a1) + a2) (fun x5 => some x5)))))
-- X7_onwardOf
def f_X7_onwardOf_L13 (σ : St) : Nat → Int32 → Int32 → Int32 → Option Int32
  | 0, _, _, _ => none
  | n + 1, a2, a3, a4 => ld σ 18 24 a3 (fun x1 => if x1 ≤ a4 then some a2 else ld σ 19 576 ((24 * a3) + a4) (fun x2 => ld σ 8 48 (2 * x2) (fun x3 => if x3 = (-9) then f_X7_onwardOf_L13 σ n a2 a3 (a4 + 1) else f_X7_onwardOf_L13 σ n x2 a3 (a4 + 1))))
def f_X7_onwardOf (a1 : Int32) (σ : St) : Option Int32 := ld σ 20 24 a1 (fun x1 => f_X7_onwardOf_L13 σ 64 (-9) x1 0)
-- X7_aimBy
def f_X7_aimBy_B61 (σ : St) (K : Int32 → Int32 → Option Int32) (a1 a2 t0 : Int32) : Option Int32 := if t0 = 0 then K a1 (a2 + 1) else ld σ 9 48 ((2 * a2) + 1) (fun x1 => ld σ 9 48 (2 * a1) (fun x2 => if x1 = x2 then ld σ 21 24 a2 (fun x3 => some x3) else K a1 (a2 + 1)))
def f_X7_aimBy_B60 (σ : St) (K : Int32 → Int32 → Option Int32) (a1 a2 : Int32) : Option Int32 := f_X7_aimBy_B61 σ K a1 a2 0
def f_X7_aimBy_L2 (σ : St) : Nat → Int32 → Int32 → Option Int32
  | 0, _, _ => none
  | n + 1, a1, a2 => lf σ 0 0 (fun x1 => if x1 ≤ a2 then some (-9) else ld σ 2 24 a2 (fun x2 => if x2 = 2 then f_X7_aimBy_B60 σ (f_X7_aimBy_L2 σ n) a1 a2 else ld σ 1 24 a2 (fun x3 => ld σ 8 48 (2 * a1) (fun x4 => if x3 = x4 then ld σ 8 48 ((2 * a2) + 1) (fun x5 => ld σ 1 24 a1 (fun x6 => if x5 = x6 then f_X7_aimBy_B61 σ (f_X7_aimBy_L2 σ n) a1 a2 1 else f_X7_aimBy_B60 σ (f_X7_aimBy_L2 σ n) a1 a2)) else f_X7_aimBy_B60 σ (f_X7_aimBy_L2 σ n) a1 a2))))
def f_X7_aimBy (a1 : Int32) (σ : St) : Option Int32 := f_X7_aimBy_L2 σ 64 a1 0
-- X7_lays
def f_X7_lays_B82  (σ : St) : Option St := lf σ 0 28 (fun x1 => sf σ 0 28 (x1 + 1) (fun σ2 => lf σ2 0 28 (fun x3 => lf σ2 0 33 (fun x4 => sd σ2 26 25 x3 x4 (fun σ5 => some σ5)))))
def f_X7_lays_L25 : Nat → Int32 → St → Option St
  | 0, _, _ => none
  | n + 1, a3, σ => if a3 = (-9) then f_X7_lays_B82 σ else ld σ 29 24 a3 (fun x1 => if x1 = (-9) then lf σ 0 28 (fun x2 => sd σ 29 24 a3 x2 (fun σ3 => lf σ3 0 33 (fun x4 => sd σ3 28 24 x4 a3 (fun σ5 => lf σ5 0 33 (fun x6 => sf σ5 0 33 (x6 + 1) (fun σ7 => ld σ7 24 24 a3 (fun x8 => f_X7_lays_L25 n x8 σ7))))))) else f_X7_lays_B82 σ)
def f_X7_lays (a1 a2 : Int32) (σ : St) : Option St := lf σ 0 28 (fun x1 => lf σ 0 33 (fun x2 => sd σ 26 25 x1 x2 (fun σ3 => lf σ3 0 28 (fun x4 => gb a2 (sd σ3 27 24 x4 a2 (fun σ5 => f_X7_lays_L25 64 a1 σ5))))))
-- X7_findArticles
def f_X7_findArticles_L193 : Nat → Int32 → St → Option St
  | 0, _, _ => none
  | n + 1, a1, σ => lf σ 0 21 (fun x1 => if x1 ≤ a1 then some σ else ld σ 29 24 a1 (fun x2 => if x2 = (-9) then bs (f_X7_lays a1 1 σ) (fun σ3 => f_X7_findArticles_L193 n (a1 + 1) σ3) else f_X7_findArticles_L193 n (a1 + 1) σ))
def f_X7_findArticles_L160 : Nat → Int32 → St → Option St
  | 0, _, _ => none
  | n + 1, a1, σ => lf σ 0 21 (fun x1 => if x1 ≤ a1 then f_X7_findArticles_L193 64 0 σ else ld σ 25 24 a1 (fun x2 => if x2 = (-9) then bs (f_X7_lays a1 0 σ) (fun σ3 => f_X7_findArticles_L160 n (a1 + 1) σ3) else f_X7_findArticles_L160 n (a1 + 1) σ))
def f_X7_findArticles_L91 : Nat → Int32 → St → Option St
  | 0, _, _ => none
  | n + 1, a1, σ => lf σ 0 21 (fun x1 => if x1 ≤ a1 then sf σ 0 28 0 (fun σ2 => sf σ2 0 33 0 (fun σ3 => f_X7_findArticles_L160 64 0 σ3)) else ld σ 23 24 a1 (fun x4 => if x4 = (-9) then f_X7_findArticles_L91 n (a1 + 1) σ else if x4 = a1 then f_X7_findArticles_L91 n (a1 + 1) σ else ld σ 25 24 x4 (fun x5 => if x5 = (-9) then sd σ 25 24 x4 a1 (fun σ6 => sd σ6 24 24 a1 x4 (fun σ7 => f_X7_findArticles_L91 n (a1 + 1) σ7)) else f_X7_findArticles_L91 n (a1 + 1) σ)))
def f_X7_findArticles_B58 (K : Int32 → St → Option St) (a1 t0 t1 : Int32) (σ : St) : Option St := sd σ 23 24 t1 t0 (fun σ1 => sd σ1 24 24 a1 (-9) (fun σ2 => sd σ2 25 24 a1 (-9) (fun σ3 => sd σ3 29 24 a1 (-9) (fun σ4 => K (a1 + 1) σ4))))
def f_X7_findArticles_B36 (K : Int32 → St → Option St) (a1 a2 t0 t1 : Int32) (σ : St) : Option St := gb t0 (sd σ 22 24 t1 t0 (fun σ1 => if a2 = (-9) then f_X7_findArticles_B58 K a1 (-9) a1 σ1 else bi (f_X7_aimBy a2 σ1) (fun x2 => f_X7_findArticles_B58 K a1 x2 a1 σ1)))
def f_X7_findArticles_L6 : Nat → Int32 → St → Option St
  | 0, _, _ => none
  | n + 1, a1, σ => lf σ 0 21 (fun x1 => if x1 ≤ a1 then f_X7_findArticles_L91 64 0 σ else bi (f_X7_onwardOf a1 σ) (fun x2 => if x2 = (-9) then f_X7_findArticles_B36 (f_X7_findArticles_L6 n) a1 x2 0 a1 σ else f_X7_findArticles_B36 (f_X7_findArticles_L6 n) a1 x2 1 a1 σ))
def f_X7_findArticles (σ : St) : Option St := bs (f_X7_findStories σ) (fun σ1 => f_X7_findArticles_L6 64 0 σ1)
-- X7_isBroken
def f_X7_isBroken (a1 : Int32) (σ : St) : Option Int32 := ld σ 22 24 a1 (fun x1 => if x1 = 0 then gb 0 (some 0) else ld σ 24 24 a1 (fun x2 => if x2 = (-9) then gb 1 (some 1) else gb 0 (some 0)))
-- X7_wordsIn
def f_X7_wordsIn_L12 (σ : St) : Nat → Int32 → Int32 → Int32 → Option Int32
  | 0, _, _, _ => none
  | n + 1, a2, a3, a4 => ld σ 18 24 a2 (fun x1 => if x1 ≤ a4 then some a3 else ld σ 19 576 ((24 * a2) + a4) (fun x2 => ld σ 7 24 x2 (fun x3 => f_X7_wordsIn_L12 σ n a2 (a3 + x3) (a4 + 1))))
def f_X7_wordsIn (a1 : Int32) (σ : St) : Option Int32 := ld σ 20 24 a1 (fun x1 => f_X7_wordsIn_L12 σ 64 x1 0 0)
-- X7_manyIn
def f_X7_manyIn_B77 (σ : St) (K : Int32 → Int32 → Int32 → Int32 → Option Int32) (a1 a2 a4 t0 : Int32) : Option Int32 := K a1 a2 (t0 + 0) (a4 + 1)
def f_X7_manyIn_B54 (σ : St) (K : Int32 → Int32 → Int32 → Int32 → Option Int32) (a1 a2 a3 a4 t0 : Int32) : Option Int32 := if t0 = 0 then f_X7_manyIn_B77 σ K a1 a2 a4 a3 else ld σ 21 24 a4 (fun x1 => if x1 = a1 then K a1 a2 (a3 + 1) (a4 + 1) else f_X7_manyIn_B77 σ K a1 a2 a4 a3)
def f_X7_manyIn_L5 (σ : St) : Nat → Int32 → Int32 → Int32 → Int32 → Option Int32
  | 0, _, _, _, _ => none
  | n + 1, a1, a2, a3, a4 => lf σ 0 0 (fun x1 => if x1 ≤ a4 then some a3 else if a2 = 0 then ld σ 17 24 a4 (fun x2 => if x2 = (-9) then f_X7_manyIn_B54 σ (f_X7_manyIn_L5 σ n) a1 a2 a3 a4 0 else f_X7_manyIn_B54 σ (f_X7_manyIn_L5 σ n) a1 a2 a3 a4 1) else ld σ 2 24 a4 (fun x3 => if x3 = 2 then f_X7_manyIn_B54 σ (f_X7_manyIn_L5 σ n) a1 a2 a3 a4 1 else f_X7_manyIn_B54 σ (f_X7_manyIn_L5 σ n) a1 a2 a3 a4 0))
def f_X7_manyIn (a1 a2 : Int32) (σ : St) : Option Int32 := f_X7_manyIn_L5 σ 64 a1 a2 0 0
-- X7_isStory
def f_X7_isStory (a1 : Int32) (σ : St) : Option (Int32 × St) := bs (f_X7_findArticles σ) (fun σ1 => lf σ1 0 21 (fun x2 => bi (f_X7_within a1 0 (x2 - 1)) (fun x3 => gb x3 (some (x3, σ1)))))
-- X7_ofStory
def f_X7_ofStory (a1 a2 : Int32) (σ : St) : Option (Int32 × St) := bp (f_X7_isStory a1 σ) (fun x1 σ2 => if x1 = 0 then some ((-1), σ2) else ld σ2 20 24 a1 (fun x3 => if a2 = 0 then ld σ2 2 24 x3 (fun x4 => if x4 = 0 then some (x3, σ2) else some ((-9), σ2)) else if a2 = 1 then ld σ2 18 24 x3 (fun x5 => some (x5, σ2)) else if a2 = 2 then bi (f_X7_wordsIn a1 σ2) (fun x6 => some (x6, σ2)) else if a2 = 3 then bi (f_X7_manyIn a1 1 σ2) (fun x7 => some (x7, σ2)) else if a2 = 4 then bi (f_X7_manyIn a1 0 σ2) (fun x8 => some (x8, σ2)) else if a2 = 5 then ld σ2 24 24 a1 (fun x9 => some (x9, σ2)) else if a2 = 6 then ld σ2 25 24 a1 (fun x10 => some (x10, σ2)) else if a2 = 7 then ld σ2 29 24 a1 (fun x11 => some (x11, σ2)) else if a2 = 8 then bi (f_X7_isBroken a1 σ2) (fun x12 => if x12 = 0 then some (0, σ2) else some (1, σ2)) else some ((-2), σ2)))
-- X7_text
def f_X7_text (a1 a2 : Int32) (σ : St) : Option (Int32 × St) := bp (f_X7_isStory a1 σ) (fun x1 σ2 => if x1 = 0 then some ((-1), σ2) else bi (f_X7_within a2 0 23) (fun x3 => if x3 = 0 then some ((-2), σ2) else ld σ2 20 24 a1 (fun x4 => ld σ2 18 24 x4 (fun x5 => if x5 ≤ a2 then some ((-9), σ2) else ld σ2 19 576 ((24 * x4) + a2) (fun x6 => some (x6, σ2))))))
-- X7_isArticle
def f_X7_isArticle (a1 : Int32) (σ : St) : Option (Int32 × St) := bs (f_X7_findArticles σ) (fun σ1 => lf σ1 0 28 (fun x2 => bi (f_X7_within a1 0 (x2 - 1)) (fun x3 => gb x3 (some (x3, σ1)))))
-- X7_sumOf
def f_X7_sumOf_L10 (σ : St) : Nat → Int32 → Int32 → Int32 → Int32 → Option Int32
  | 0, _, _, _, _ => none
  | n + 1, a1, a2, a3, a4 => ld σ 26 25 (a1 + 1) (fun x1 => if x1 ≤ a4 then some a3 else if a2 = 0 then ld σ 28 24 a4 (fun x2 => ld σ 20 24 x2 (fun x3 => ld σ 18 24 x3 (fun x4 => f_X7_sumOf_L10 σ n a1 a2 (a3 + x4) (a4 + 1)))) else ld σ 28 24 a4 (fun x5 => bi (f_X7_wordsIn x5 σ) (fun x6 => f_X7_sumOf_L10 σ n a1 a2 (a3 + x6) (a4 + 1))))
def f_X7_sumOf (a1 a2 : Int32) (σ : St) : Option Int32 := ld σ 26 25 a1 (fun x1 => f_X7_sumOf_L10 σ 64 a1 a2 0 x1)
-- X7_pagesOf
def f_X7_pagesOf_B42 (σ : St) (K : Int32 → Int32 → Int32 → Option Int32) (a1 a2 a3 t0 : Int32) : Option Int32 := if t0 = 0 then K a1 (a2 ||| 0) (a3 + 1) else ld σ 1 24 a3 (fun x1 => K a1 (a2 ||| (1 <<< (x1 &&& 31))) (a3 + 1))
def f_X7_pagesOf_B41 (σ : St) (K : Int32 → Int32 → Int32 → Option Int32) (a1 a2 a3 : Int32) : Option Int32 := f_X7_pagesOf_B42 σ K a1 a2 a3 0
def f_X7_pagesOf_L4 (σ : St) : Nat → Int32 → Int32 → Int32 → Option Int32
  | 0, _, _, _ => none
  | n + 1, a1, a2, a3 => lf σ 0 0 (fun x1 => if x1 ≤ a3 then some a2 else ld σ 2 24 a3 (fun x2 => if x2 = 2 then f_X7_pagesOf_B41 σ (f_X7_pagesOf_L4 σ n) a1 a2 a3 else ld σ 21 24 a3 (fun x3 => ld σ 29 24 x3 (fun x4 => if x4 = a1 then f_X7_pagesOf_B42 σ (f_X7_pagesOf_L4 σ n) a1 a2 a3 1 else f_X7_pagesOf_B41 σ (f_X7_pagesOf_L4 σ n) a1 a2 a3))))
def f_X7_pagesOf (a1 : Int32) (σ : St) : Option Int32 := f_X7_pagesOf_L4 σ 64 a1 0 0
-- X7_ofArticle
def f_X7_ofArticle (a1 a2 : Int32) (σ : St) : Option (Int32 × St) := bp (f_X7_isArticle a1 σ) (fun x1 σ2 => if x1 = 0 then some ((-1), σ2) else if a2 = 0 then ld σ2 26 25 a1 (fun x3 => ld σ2 28 24 x3 (fun x4 => some (x4, σ2))) else if a2 = 1 then ld σ2 26 25 (a1 + 1) (fun x5 => ld σ2 26 25 a1 (fun x6 => some ((x5 - x6), σ2))) else if a2 = 2 then bi (f_X7_sumOf a1 0 σ2) (fun x7 => some (x7, σ2)) else if a2 = 3 then bi (f_X7_sumOf a1 1 σ2) (fun x8 => some (x8, σ2)) else if a2 = 4 then bi (f_X7_pagesOf a1 σ2) (fun x9 => some (x9, σ2)) else if a2 = 5 then ld σ2 27 24 a1 (fun x10 => if x10 = 0 then some (0, σ2) else some (1, σ2)) else if a2 = 6 then ld σ2 26 25 (a1 + 1) (fun x11 => ld σ2 28 24 (x11 - 1) (fun x12 => bi (f_X7_isBroken x12 σ2) (fun x13 => if x13 = 0 then some (0, σ2) else some (1, σ2)))) else some ((-2), σ2))
-- X7_read
def f_X7_read_B75 (K : Int32 → Int32 → Int32 → St → Option (Int32 × St)) (a1 a3 a4 a5 t0 : Int32) (σ : St) : Option (Int32 × St) := if t0 ≤ a3 then ld σ 18 24 a5 (fun x1 => if x1 ≤ (a3 - t0) then ld σ 18 24 a5 (fun x2 => K a1 ((a3 - t0) - x2) (a4 + 1) σ) else ld σ 19 576 ((24 * a5) + (a3 - t0)) (fun x3 => some (x3, σ))) else some (a5, σ)
def f_X7_read_L33 : Nat → Int32 → Int32 → Int32 → St → Option (Int32 × St)
  | 0, _, _, _, _ => none
  | n + 1, a1, a3, a4, σ => ld σ 26 25 (a1 + 1) (fun x1 => if x1 ≤ a4 then some ((-9), σ) else ld σ 28 24 a4 (fun x2 => ld σ 20 24 x2 (fun x3 => ld σ 2 24 x3 (fun x4 => if x4 = 0 then f_X7_read_B75 (f_X7_read_L33 n) a1 a3 a4 x3 1 σ else f_X7_read_B75 (f_X7_read_L33 n) a1 a3 a4 x3 0 σ))))
def f_X7_read (a1 a2 : Int32) (σ : St) : Option (Int32 × St) := bp (f_X7_isArticle a1 σ) (fun x1 σ2 => if x1 = 0 then some ((-1), σ2) else bi (f_X7_within a2 0 23) (fun x3 => if x3 = 0 then some ((-2), σ2) else ld σ2 26 25 a1 (fun x4 => f_X7_read_L33 64 a1 a2 x4 σ2)))
-- X7_manyOfKind
def f_X7_manyOfKind_L4 (σ : St) : Nat → Int32 → Int32 → Int32 → Option Int32
  | 0, _, _, _ => none
  | n + 1, a1, a2, a3 => lf σ 0 0 (fun x1 => if x1 ≤ a3 then some a2 else ld σ 2 24 a3 (fun x2 => if x2 = a1 then f_X7_manyOfKind_L4 σ n a1 (a2 + 1) (a3 + 1) else f_X7_manyOfKind_L4 σ n a1 (a2 + 0) (a3 + 1)))
def f_X7_manyOfKind (a1 : Int32) (σ : St) : Option Int32 := f_X7_manyOfKind_L4 σ 64 a1 0 0
-- X7_manyTexts
def f_X7_manyTexts_B56 (σ : St) (K : Int32 → Int32 → Int32 → Option Int32) (a1 a2 a3 t0 : Int32) : Option Int32 := if t0 = 0 then K a1 (a2 + 0) (a3 + 1) else K a1 (a2 + 1) (a3 + 1)
def f_X7_manyTexts_B55 (σ : St) (K : Int32 → Int32 → Int32 → Option Int32) (a1 a2 a3 : Int32) : Option Int32 := f_X7_manyTexts_B56 σ K a1 a2 a3 0
def f_X7_manyTexts_B51 (σ : St) (K : Int32 → Int32 → Int32 → Option Int32) (a1 a2 a3 : Int32) : Option Int32 := f_X7_manyTexts_B56 σ K a1 a2 a3 1
def f_X7_manyTexts_L4 (σ : St) : Nat → Int32 → Int32 → Int32 → Option Int32
  | 0, _, _, _ => none
  | n + 1, a1, a2, a3 => lf σ 0 0 (fun x1 => if x1 ≤ a3 then some a2 else ld σ 2 24 a3 (fun x2 => if x2 = 1 then if a1 = 0 then ld σ 16 24 a3 (fun x3 => if x3 = (-9) then f_X7_manyTexts_B51 σ (f_X7_manyTexts_L4 σ n) a1 a2 a3 else f_X7_manyTexts_B55 σ (f_X7_manyTexts_L4 σ n) a1 a2 a3) else ld σ 17 24 a3 (fun x4 => if x4 = (-9) then f_X7_manyTexts_B55 σ (f_X7_manyTexts_L4 σ n) a1 a2 a3 else f_X7_manyTexts_B51 σ (f_X7_manyTexts_L4 σ n) a1 a2 a3) else f_X7_manyTexts_B55 σ (f_X7_manyTexts_L4 σ n) a1 a2 a3))
def f_X7_manyTexts (a1 : Int32) (σ : St) : Option Int32 := f_X7_manyTexts_L4 σ 64 a1 0 0
-- X7_manyRings
def f_X7_manyRings_L4 (σ : St) : Nat → Int32 → Int32 → Option Int32
  | 0, _, _ => none
  | n + 1, a1, a2 => lf σ 0 28 (fun x1 => if x1 ≤ a2 then some a1 else ld σ 27 24 a2 (fun x2 => if x2 = 0 then f_X7_manyRings_L4 σ n (a1 + 0) (a2 + 1) else f_X7_manyRings_L4 σ n (a1 + 1) (a2 + 1)))
def f_X7_manyRings (σ : St) : Option Int32 := f_X7_manyRings_L4 σ 64 0 0
-- X7_manyBroken
def f_X7_manyBroken_L4 (σ : St) : Nat → Int32 → Int32 → Option Int32
  | 0, _, _ => none
  | n + 1, a1, a2 => lf σ 0 21 (fun x1 => if x1 ≤ a2 then some a1 else bi (f_X7_isBroken a2 σ) (fun x2 => if x2 = 0 then f_X7_manyBroken_L4 σ n (a1 + 0) (a2 + 1) else f_X7_manyBroken_L4 σ n (a1 + 1) (a2 + 1)))
def f_X7_manyBroken (σ : St) : Option Int32 := f_X7_manyBroken_L4 σ 64 0 0
-- X7_manyIdle
def f_X7_manyIdle_B58 (σ : St) (K : Int32 → Int32 → Option Int32) (a1 a2 t0 : Int32) : Option Int32 := if t0 = 0 then K (a1 + 0) (a2 + 1) else K (a1 + 1) (a2 + 1)
def f_X7_manyIdle_B57 (σ : St) (K : Int32 → Int32 → Option Int32) (a1 a2 : Int32) : Option Int32 := f_X7_manyIdle_B58 σ K a1 a2 0
def f_X7_manyIdle_L4 (σ : St) : Nat → Int32 → Int32 → Option Int32
  | 0, _, _ => none
  | n + 1, a1, a2 => lf σ 0 0 (fun x1 => if x1 ≤ a2 then some a1 else ld σ 2 24 a2 (fun x2 => if x2 = 2 then f_X7_manyIdle_B57 σ (f_X7_manyIdle_L4 σ n) a1 a2 else ld σ 8 48 ((2 * a2) + 1) (fun x3 => if x3 = (-9) then f_X7_manyIdle_B57 σ (f_X7_manyIdle_L4 σ n) a1 a2 else ld σ 21 24 a2 (fun x4 => ld σ 25 24 x4 (fun x5 => if x5 = (-9) then f_X7_manyIdle_B58 σ (f_X7_manyIdle_L4 σ n) a1 a2 1 else f_X7_manyIdle_B57 σ (f_X7_manyIdle_L4 σ n) a1 a2)))))
def f_X7_manyIdle (σ : St) : Option Int32 := f_X7_manyIdle_L4 σ 64 0 0
-- X7_manyLost
def f_X7_manyLost_B38 (σ : St) (K : Int32 → Int32 → Option Int32) (a2 t0 : Int32) : Option Int32 := K (t0 + 0) (a2 + 1)
def f_X7_manyLost_L4 (σ : St) : Nat → Int32 → Int32 → Option Int32
  | 0, _, _ => none
  | n + 1, a1, a2 => lf σ 0 0 (fun x1 => if x1 ≤ a2 then some a1 else ld σ 2 24 a2 (fun x2 => if x2 = 2 then ld σ 15 24 a2 (fun x3 => if x3 = (-9) then f_X7_manyLost_L4 σ n (a1 + 1) (a2 + 1) else f_X7_manyLost_B38 σ (f_X7_manyLost_L4 σ n) a2 a1) else f_X7_manyLost_B38 σ (f_X7_manyLost_L4 σ n) a2 a1))
def f_X7_manyLost (σ : St) : Option Int32 := f_X7_manyLost_L4 σ 64 0 0
-- X7_many
def f_X7_many (a1 : Int32) (σ : St) : Option (Int32 × St) := bs (f_X7_findArticles σ) (fun σ1 => if a1 = 0 then lf σ1 0 0 (fun x2 => some (x2, σ1)) else if a1 = 1 then lf σ1 0 10 (fun x3 => some (x3, σ1)) else if a1 = 2 then bi (f_X7_manyOfKind 0 σ1) (fun x4 => some (x4, σ1)) else if a1 = 3 then bi (f_X7_manyOfKind 1 σ1) (fun x5 => some (x5, σ1)) else if a1 = 4 then lf σ1 0 21 (fun x6 => some (x6, σ1)) else if a1 = 5 then bi (f_X7_manyTexts 1 σ1) (fun x7 => some (x7, σ1)) else if a1 = 6 then bi (f_X7_manyTexts 0 σ1) (fun x8 => some (x8, σ1)) else if a1 = 7 then lf σ1 0 28 (fun x9 => some (x9, σ1)) else if a1 = 8 then bi (f_X7_manyRings σ1) (fun x10 => some (x10, σ1)) else if a1 = 9 then bi (f_X7_manyBroken σ1) (fun x11 => some (x11, σ1)) else if a1 = 10 then bi (f_X7_manyIdle σ1) (fun x12 => some (x12, σ1)) else if a1 = 11 then bi (f_X7_manyLost σ1) (fun x13 => some (x13, σ1)) else some ((-2), σ1))
