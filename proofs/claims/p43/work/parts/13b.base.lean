-- ===== BASE: the functions that the class and the reference come to, as in whole (printed by wip/whole/genbase.py) =====
def zSB : List (List Int32) := [[119, 101, 105, 103, 104, 116, 32, 119, 101, 97, 114, 32, 110, 111, 116, 105, 99, 101, 32, 119, 104, 101, 110, 32, 111, 114, 32, 97, 110, 100, 32, 110, 111, 116, 32, 112, 101, 114, 115, 111, 110, 32, 97, 103, 101, 32, 110, 101, 101, 100, 32, 104, 97, 100, 32, 115, 105, 110, 99, 101, 32, 119, 111, 114, 110, 32, 121, 101, 97, 114, 32, 116, 105, 101, 115, 32, 117, 115, 101, 100, 32, 110, 97, 109, 101, 115, 32, 119, 111, 114, 107, 32, 102, 111, 114, 32, 119, 111, 114, 116, 104, 32, 100, 117, 115, 116, 32, 119, 97, 120, 32, 97, 102, 116, 101, 114, 32, 109, 111, 115, 116, 32], [119, 104, 101, 110], [111, 114], [97, 110, 100], [110, 111, 116], [119, 101, 105, 103, 104, 116], [119, 101, 97, 114], [110, 111, 116, 105, 99, 101], [112, 101, 114, 115, 111, 110], [97, 103, 101], [110, 101, 101, 100], [104, 97, 100], [115, 105, 110, 99, 101], [119, 111, 114, 110], [121, 101, 97, 114], [116, 105, 101, 115], [117, 115, 101, 100], [110, 97, 109, 101, 115], [119, 111, 114, 107], [102, 111, 114], [119, 111, 114, 116, 104], [100, 117, 115, 116], [119, 97, 120], [97, 102, 116, 101, 114], [109, 111, 115, 116]]
abbrev ZI : Type := Nat → Nat → Int32
def zH0 : List (Nat × Nat) := [(3, 9), (4, 16), (5, 11), (0, 10), (0, 10), (0, 10), (0, 10), (6, 4), (0, 150), (0, 150), (0, 150), (0, 150), (7, 6), (8, 4), (0, 400), (0, 400), (0, 64), (0, 16), (0, 16), (0, 16), (0, 16), (9, 10), (0, 12), (0, 12), (0, 12), (0, 12), (0, 12), (0, 12), (0, 12), (10, 2), (8, 4), (0, 400), (0, 400), (0, 64), (11, 3), (0, 8), (0, 8), (0, 10), (0, 10), (0, 10), (0, 10), (0, 9), (4, 16), (5, 11), (0, 10), (0, 10), (0, 10), (0, 10), (6, 4), (0, 150), (0, 150), (0, 150), (0, 150), (7, 6), (8, 4), (0, 400), (0, 400), (0, 64), (0, 16), (0, 16), (0, 16), (0, 16), (9, 10), (0, 12), (0, 12), (0, 12), (0, 12), (0, 12), (0, 12), (0, 12), (10, 2), (8, 4), (0, 400), (0, 400), (0, 64), (11, 3), (0, 8), (0, 8), (0, 10), (0, 10), (0, 10), (0, 10), (0, 9), (2, 6), (5, 11), (0, 10), (0, 10), (0, 10), (0, 10), (5, 11), (0, 10), (0, 10), (0, 10), (0, 10), (5, 11), (0, 10), (0, 10), (0, 10), (0, 10), (5, 11), (0, 10), (0, 10), (0, 10), (0, 10), (5, 11), (0, 10), (0, 10), (0, 10), (0, 10), (5, 11), (0, 10), (0, 10), (0, 10), (0, 10), (5, 11), (0, 10), (0, 10), (0, 10), (0, 10), (12, 16), (0, 400), (0, 401), (0, 401), (0, 401), (7, 6), (8, 4), (0, 400), (0, 400), (0, 64), (0, 16), (0, 16), (0, 16), (0, 16), (0, 10), (9, 10), (0, 12), (0, 12), (0, 12), (0, 12), (0, 12), (0, 12), (0, 12), (10, 2), (8, 4), (0, 400), (0, 400), (0, 64), (1, 1024), (13, 32), (0, 2064), (0, 2064), (0, 288), (0, 48), (0, 64), (0, 820), (0, 10), (0, 72), (0, 400), (0, 400), (0, 420), (0, 10), (0, 11264)]
def zi (i : Int32) : Nat := i.toNatClampNeg
def zin (i : Int32) (n : Nat) : Bool := decide (¬ (i < 0 ∨ n ≤ i.toNatClampNeg))
def zs (M : ZI) (o k : Nat) (v : Int32) : ZI := zw M o (upd (M o) k v)
def zc (M : ZI) (a b s d n : Nat) : ZI := zw M a (va_cpy (M b) (M a) s d n)
def zmax (a b : Int32) : Int32 := if a < b then b else a
def zmin (a b : Int32) : Int32 := if b < a then b else a
def zshl (a b : Int32) : Int32 := a <<< (b &&& 31)
def zshr (a b : Int32) : Int32 := a >>> (b &&& 31)
def zushr (a b : Int32) : Int32 := (a.toUInt32 >>> (b.toUInt32 &&& Int32.toUInt32 31)).toInt32
def zrem (a b : Int32) : Int32 := a - a / b * b
def zbo (x : Int32) : Int32 := vp_nar .boolean x
def zbl (v : Int32) : Bool := decide (v = 0 ∨ v = 1)
def zlet {α β : Type} (a : α) (f : α → β) : β := f a
def zfu : Nat := 100000
def zal (o : Nat) : Nat := (zH0.getD o (0, 0)).2
def zpa (i : Int32) : Nat := 84 + 5 * zi i
def zsn (s : Nat) : Nat := (zSB.getD s []).length
def zsln (s : Nat) : Int32 := zshr (Int32.ofNat (zsn s)) 0
def zch (s : Nat) (i : Int32) : Int32 := (((zSB.getD s []).getD (zi i) 0 &&& 255).toUInt32 % 65536).toInt32
def zgf : Nat := 70
def f11_forgetPasts (M : ZI) : Option ZI :=
  zlet (zs M 0 5 (0 : Int32)) fun (M1 : ZI) => some M1

def f10_state (a1 : Int32) (M : ZI) : Option (Int32 × ZI) :=
  zlet (M 2 9) fun (x1 : Int32) => zlet (zs M 2 9 a1) fun (M2 : ZI) => (f11_forgetPasts M2).bind fun M3 => some (x1, M3)

def f13_within (a0 : Int32) (a1 : Int32) (a2 : Int32) : Option Int32 :=
  (if a0 < a1 then some (0 : Int32) else (if a2 < a0 then some (0 : Int32) else some (1 : Int32)))

def f14_welcome (t : Nat) (a1 : Int32) (a2 : Int32) (M : ZI) : Option (Int32 × ZI) :=
  zlet (M t 11) fun (x1 : Int32) => (if x1 < (10 : Int32) then if zin x1 10 = true then zlet (zs M (t + 36) (zi x1) a2) fun (M2 : ZI) => if zin x1 10 = true then zlet (zs M2 (t + 37) (zi x1) (999 : Int32)) fun (M3 : ZI) => if zin x1 10 = true then zlet (zs M3 (t + 38) (zi x1) (-1 : Int32)) fun (M4 : ZI) => if zin x1 10 = true then zlet (zs M4 (t + 2) (zi x1) a1) fun (M5 : ZI) => if zin x1 10 = true then zlet (zs M5 (t + 3) (zi x1) (0 : Int32)) fun (M6 : ZI) => if zin x1 10 = true then zlet (zs M6 (t + 4) (zi x1) (0 : Int32)) fun (M7 : ZI) => if zin x1 10 = true then zlet (zs M7 (t + 5) (zi x1) (0 : Int32)) fun (M8 : ZI) => zlet (zs M8 t 11 ((M8 t 11) + (1 : Int32))) fun (M9 : ZI) => some (x1, M9) else none else none else none else none else none else none else none else some ((-1 : Int32), M))

def f12_person (a1 : Int32) (a2 : Int32) (M : ZI) : Option (Int32 × ZI) :=
  (f13_within a1 (0 : Int32) (99 : Int32)).bind fun v1 => (if v1 = 0 then some ((-1 : Int32), M) else (f13_within a2 (0 : Int32) (24 : Int32)).bind fun v2 => (if v2 = 0 then some ((-1 : Int32), M) else (if (M 1 11) < (10 : Int32) then (f11_forgetPasts M).bind fun M3 => (f14_welcome 1 a1 a2 M3).bind fun (v4, M5) => some (v4, M5) else some ((-1 : Int32), M))))

def f17_has (t : Nat) (a1 : Int32) (M : ZI) : Option Int32 :=
  (if a1 < 0 then some (0 : Int32) else (if a1 < (M t 11) then some (1 : Int32) else some (0 : Int32)))

def f16_canBeSet (a1 : Int32) (a2 : Int32) (a3 : Int32) (M : ZI) : Option Int32 :=
  (if a1 = (0 : Int32) then (f13_within a3 (0 : Int32) (24 : Int32)).bind fun v1 => if zbl v1 = true then some v1 else none else if a1 = (1 : Int32) then (f13_within a3 (0 : Int32) (24 : Int32)).bind fun v2 => if zbl v2 = true then some v2 else none else if a1 = (2 : Int32) then (f13_within a3 (1 : Int32) (24 : Int32)).bind fun v3 => if zbl v3 = true then some v3 else none else if a1 = (3 : Int32) then (f17_has 1 a2 M).bind fun v4 => (if v4 = 0 then some (0 : Int32) else (f13_within a3 (0 : Int32) (24 : Int32)).bind fun v5 => (if v5 = 0 then some (0 : Int32) else some (1 : Int32))) else if a1 = (4 : Int32) then (f17_has 1 a2 M).bind fun v6 => (if v6 = 0 then some (0 : Int32) else (f13_within a3 (0 : Int32) (999 : Int32)).bind fun v7 => (if v7 = 0 then some (0 : Int32) else some (1 : Int32))) else if a1 = (5 : Int32) then (f17_has 1 a2 M).bind fun v8 => (if v8 = 0 then some (0 : Int32) else (f13_within a3 (0 : Int32) (99 : Int32)).bind fun v9 => (if v9 = 0 then some (0 : Int32) else some (1 : Int32))) else some (0 : Int32))

def f15_set (a1 : Int32) (a2 : Int32) (a3 : Int32) (M : ZI) : Option (Int32 × ZI) :=
  (f16_canBeSet a1 a2 a3 M).bind fun v1 => (if v1 = 0 then some ((0 : Int32), M) else (f11_forgetPasts M).bind fun M2 => (if a1 = (0 : Int32) then zlet (zs M2 2 4 a3) fun (M3 : ZI) => some ((1 : Int32), M3) else if a1 = (1 : Int32) then zlet (zs M2 1 12 a3) fun (M4 : ZI) => some ((1 : Int32), M4) else if a1 = (2 : Int32) then zlet (zs M2 1 13 a3) fun (M5 : ZI) => some ((1 : Int32), M5) else if a1 = (3 : Int32) then if zin a2 10 = true then zlet (zs M2 37 (zi a2) a3) fun (M6 : ZI) => some ((1 : Int32), M6) else none else if a1 = (4 : Int32) then if zin a2 10 = true then zlet (zs M2 38 (zi a2) a3) fun (M7 : ZI) => some ((1 : Int32), M7) else none else if zin a2 10 = true then zlet (zs M2 3 (zi a2) a3) fun (M8 : ZI) => some ((1 : Int32), M8) else none))

def f19_isIn (a0 : Int32) (a1 : Int32) : Option Int32 :=
  (if ((zshr a0 a1) &&& (1 : Int32)) = (1 : Int32) then some (1 : Int32) else some (0 : Int32))

def f21_copy (t : Nat) (a1 : Nat) (M : ZI) : Option ZI :=
  zlet (zc M (t + 1) (a1 + 1) 0 0 10) fun (M1 : ZI) => zlet (zc M1 (t + 2) (a1 + 2) 0 0 10) fun (M2 : ZI) => zlet (zc M2 (t + 3) (a1 + 3) 0 0 10) fun (M3 : ZI) => zlet (zc M3 (t + 4) (a1 + 4) 0 0 10) fun (M4 : ZI) => zlet (zs M4 t 4 (M4 a1 4)) fun (M5 : ZI) => zlet (zs M5 t 5 (M5 a1 5)) fun (M6 : ZI) => zlet (zs M6 t 6 (M6 a1 6)) fun (M7 : ZI) => zlet (zs M7 t 7 (M7 a1 7)) fun (M8 : ZI) => zlet (zs M8 t 8 (M8 a1 8)) fun (M9 : ZI) => zlet (zs M9 t 9 (M9 a1 9)) fun (M10 : ZI) => zlet (zs M10 t 10 (M10 a1 10)) fun (M11 : ZI) => some M11

def f20_keepPast (M : ZI) : Option ZI :=
  ((if (M 0 5) = (6 : Int32) then zlet (zs M 0 4 (zrem ((M 0 4) + (1 : Int32)) (6 : Int32))) fun (M1 : ZI) => zlet (zs M1 0 5 ((M1 0 5) - (1 : Int32))) fun (M2 : ZI) => some M2 else some M) : Option (ZI)).bind fun M3 =>
  if zin (zrem ((M3 0 4) + (M3 0 5)) (6 : Int32)) 6 = true then (f21_copy (zpa (zrem ((M3 0 4) + (M3 0 5)) (6 : Int32))) 2 M3).bind fun M5 => zlet (zs M5 0 5 ((M5 0 5) + (1 : Int32))) fun (M6 : ZI) => some M6 else none

def f18_tie (a1 : Int32) (a2 : Int32) (a3 : Int32) (M : ZI) : Option (Int32 × ZI) :=
  (f17_has 1 a1 M).bind fun v1 => (if v1 = 0 then some ((0 : Int32), M) else (f17_has 1 a2 M).bind fun v2 => (if v2 = 0 then some ((0 : Int32), M) else (if a1 = a2 then some ((0 : Int32), M) else if zin a1 10 = true then (f19_isIn (M 6 (zi a1)) a2).bind fun v3 => (if v3 = a3 then some ((0 : Int32), M) else (f20_keepPast M).bind fun M4 => if zin a1 10 = true then if zin a1 10 = true then zlet (zs M4 6 (zi a1) ((M4 6 (zi a1)) ^^^ (zshl (1 : Int32) a2))) fun (M5 : ZI) => if zin a2 10 = true then if zin a2 10 = true then zlet (zs M5 6 (zi a2) ((M5 6 (zi a2)) ^^^ (zshl (1 : Int32) a1))) fun (M6 : ZI) => some ((1 : Int32), M6) else none else none else none else none) else none)))

def f23_wearBy (t : Nat) (a1 : Int32) (M : ZI) : Option ZI :=
  zlet (zs M t 4 (zmin (24 : Int32) ((M t 4) + a1))) fun (M1 : ZI) => some M1

def f22_sit (a1 : Int32) (M : ZI) : Option (Int32 × ZI) :=
  (f13_within a1 (1 : Int32) (24 : Int32)).bind fun v1 => (if v1 = 0 then some ((-1 : Int32), M) else (f20_keepPast M).bind fun M2 => (f23_wearBy 2 a1 M2).bind fun M3 => some ((M3 2 4), M3))

def f28_bitCount (a0 : Int32) : Option Int32 :=
  zlet (a0 - ((zushr a0 (1 : Int32)) &&& (1431655765 : Int32))) fun (x1 : Int32) => zlet ((x1 &&& (858993459 : Int32)) + ((zushr x1 (2 : Int32)) &&& (858993459 : Int32))) fun (x2 : Int32) => zlet ((x2 + (zushr x2 (4 : Int32))) &&& (252645135 : Int32)) fun (x3 : Int32) => zlet (x3 + (zushr x3 (8 : Int32))) fun (x4 : Int32) => zlet (x4 + (zushr x4 (16 : Int32))) fun (x5 : Int32) => some (x5 &&& (63 : Int32))

def f31_isValue (a0 : Int32) : Option Int32 :=
  (if a0 = (-2 : Int32) then some (1 : Int32) else (if a0 = (300 : Int32) then some (1 : Int32) else (if a0 = (301 : Int32) then some (1 : Int32) else (if a0 = (279 : Int32) then some (1 : Int32) else some (0 : Int32)))))

def f32_value (a0 : Int32) (a1 : Int32) (a2 : Nat) (a3 : Int32) (M : ZI) : Option Int32 :=
  (if a0 = (-2 : Int32) then some a1 else if a0 = (300 : Int32) then (if a1 < 0 then some (0 : Int32) else (if a1 < (Int32.ofNat (zal a2)) then if zin a1 (zal a2) = true then some (M a2 (zi a1)) else none else some (0 : Int32))) else if a0 = (301 : Int32) then some ((zshr a3 a1) &&& (1 : Int32)) else (f28_bitCount a3).bind fun v1 => (if v1 < a1 then some (0 : Int32) else some (1 : Int32)))

def f32_valuen (a0 : Int32) (a1 : Int32) (a3 : Int32) (M : ZI) : Option Int32 :=
  (if a0 = (-2 : Int32) then some a1 else if a0 = (300 : Int32) then some (0 : Int32) else if a0 = (301 : Int32) then some ((zshr a3 a1) &&& (1 : Int32)) else (f28_bitCount a3).bind fun v1 => (if v1 < a1 then some (0 : Int32) else some (1 : Int32)))

def f33_changed (a0 : Int32) (a1 : Int32) (a2 : Int32) : Option Int32 :=
  (if a0 = (262 : Int32) then some ((1 : Int32) - a2) else (if a1 = 0 then some (0 : Int32) else if a1 = 0 then none else some (a2 / a1)))

def f34_joined (a0 : Int32) (a1 : Int32) (a2 : Int32) : Option Int32 :=
  (if a0 = (42 : Int32) then some (a1 * a2) else if a0 = (43 : Int32) then some (a1 + a2) else if a0 = (45 : Int32) then some (a1 - a2) else if a0 = (60 : Int32) then (if a1 < a2 then some (1 : Int32) else some (0 : Int32)) else if a0 = (61 : Int32) then (if a1 = a2 then some (1 : Int32) else some (0 : Int32)) else if a0 = (62 : Int32) then (if a2 < a1 then some (1 : Int32) else some (0 : Int32)) else if a0 = (261 : Int32) then some (a1 &&& a2) else some (a1 ||| a2))

def f30_l10 (t : Nat) (a2 : Int32) (a3 : Nat) (a4 : Int32) : Nat → Int32 → Int32 → ZI → Option (Int32 × ZI)
  | 0, _, _, _ => none
  | n + 1, x2, x3, M5 =>
  (if x3 < a2 then (if x3 < (M5 t 3) then if zin x3 400 = true then zlet (M5 (t + 1) (zi x3)) fun (x6 : Int32) => (f31_isValue x6).bind fun v7 => (if v7 = 0 then zlet (fun (x8 : Int32) (x9 : Int32) (M10 : ZI) => ((if 0 < x8 then if zin x9 400 = true then if zin (x8 - (1 : Int32)) 64 = true then (f33_changed x6 (M10 (t + 2) (zi x9)) (M10 (t + 3) (zi (x8 - (1 : Int32))))).bind fun v11 => if zin (x8 - (1 : Int32)) 64 = true then zlet (zs M10 (t + 3) (zi (x8 - (1 : Int32))) v11) fun (M12 : ZI) => f30_l10 t a2 a3 a4 n x8 (x9 + (1 : Int32)) M12 else none else none else none else f30_l10 t a2 a3 a4 n x8 (x9 + (1 : Int32)) M10) : Option (Int32 × ZI))) fun j13 =>
  (if x6 = (47 : Int32) then j13 x2 x3 M5 else (if x6 = (262 : Int32) then j13 x2 x3 M5 else (if (1 : Int32) < x2 then if zin ((x2 + (-1 : Int32)) - (1 : Int32)) 64 = true then if zin (x2 + (-1 : Int32)) 64 = true then (f34_joined x6 (M5 (t + 3) (zi ((x2 + (-1 : Int32)) - (1 : Int32)))) (M5 (t + 3) (zi (x2 + (-1 : Int32))))).bind fun v14 => if zin ((x2 + (-1 : Int32)) - (1 : Int32)) 64 = true then zlet (zs M5 (t + 3) (zi ((x2 + (-1 : Int32)) - (1 : Int32))) v14) fun (M15 : ZI) => f30_l10 t a2 a3 a4 n (x2 + (-1 : Int32)) (x3 + (1 : Int32)) M15 else none else none else none else f30_l10 t a2 a3 a4 n x2 (x3 + (1 : Int32)) M5))) else (if x2 < (64 : Int32) then if zin x3 400 = true then (f32_value x6 (M5 (t + 2) (zi x3)) a3 a4 M5).bind fun v16 => if zin x2 64 = true then zlet (zs M5 (t + 3) (zi x2) v16) fun (M17 : ZI) => f30_l10 t a2 a3 a4 n (x2 + (1 : Int32)) (x3 + (1 : Int32)) M17 else none else none else f30_l10 t a2 a3 a4 n x2 (x3 + (1 : Int32)) M5)) else none else some (x2, M5)) else some (x2, M5))

def f30_run (t : Nat) (a1 : Int32) (a2 : Int32) (a3 : Nat) (a4 : Int32) (M : ZI) : Option (Int32 × ZI) :=
  zlet (zmax a1 (0 : Int32)) fun (x1 : Int32) => (f30_l10 t a2 a3 a4 zfu (0 : Int32) x1 M).bind fun (x18, M19) =>
  (if 0 < x18 then if zin (x18 - (1 : Int32)) 64 = true then some ((M19 (t + 3) (zi (x18 - (1 : Int32)))), M19) else none else some ((0 : Int32), M19))

def f30_l10n (t : Nat) (a2 : Int32) (a4 : Int32) : Nat → Int32 → Int32 → ZI → Option (Int32 × ZI)
  | 0, _, _, _ => none
  | n + 1, x2, x3, M5 =>
  (if x3 < a2 then (if x3 < (M5 t 3) then if zin x3 400 = true then zlet (M5 (t + 1) (zi x3)) fun (x6 : Int32) => (f31_isValue x6).bind fun v7 => (if v7 = 0 then zlet (fun (x8 : Int32) (x9 : Int32) (M10 : ZI) => ((if 0 < x8 then if zin x9 400 = true then if zin (x8 - (1 : Int32)) 64 = true then (f33_changed x6 (M10 (t + 2) (zi x9)) (M10 (t + 3) (zi (x8 - (1 : Int32))))).bind fun v11 => if zin (x8 - (1 : Int32)) 64 = true then zlet (zs M10 (t + 3) (zi (x8 - (1 : Int32))) v11) fun (M12 : ZI) => f30_l10n t a2 a4 n x8 (x9 + (1 : Int32)) M12 else none else none else none else f30_l10n t a2 a4 n x8 (x9 + (1 : Int32)) M10) : Option (Int32 × ZI))) fun j13 =>
  (if x6 = (47 : Int32) then j13 x2 x3 M5 else (if x6 = (262 : Int32) then j13 x2 x3 M5 else (if (1 : Int32) < x2 then if zin ((x2 + (-1 : Int32)) - (1 : Int32)) 64 = true then if zin (x2 + (-1 : Int32)) 64 = true then (f34_joined x6 (M5 (t + 3) (zi ((x2 + (-1 : Int32)) - (1 : Int32)))) (M5 (t + 3) (zi (x2 + (-1 : Int32))))).bind fun v14 => if zin ((x2 + (-1 : Int32)) - (1 : Int32)) 64 = true then zlet (zs M5 (t + 3) (zi ((x2 + (-1 : Int32)) - (1 : Int32))) v14) fun (M15 : ZI) => f30_l10n t a2 a4 n (x2 + (-1 : Int32)) (x3 + (1 : Int32)) M15 else none else none else none else f30_l10n t a2 a4 n x2 (x3 + (1 : Int32)) M5))) else (if x2 < (64 : Int32) then if zin x3 400 = true then (f32_valuen x6 (M5 (t + 2) (zi x3)) a4 M5).bind fun v16 => if zin x2 64 = true then zlet (zs M5 (t + 3) (zi x2) v16) fun (M17 : ZI) => f30_l10n t a2 a4 n (x2 + (1 : Int32)) (x3 + (1 : Int32)) M17 else none else none else f30_l10n t a2 a4 n x2 (x3 + (1 : Int32)) M5)) else none else some (x2, M5)) else some (x2, M5))

def f30_runn (t : Nat) (a1 : Int32) (a2 : Int32) (a4 : Int32) (M : ZI) : Option (Int32 × ZI) :=
  zlet (zmax a1 (0 : Int32)) fun (x1 : Int32) => (f30_l10n t a2 a4 zfu (0 : Int32) x1 M).bind fun (x18, M19) =>
  (if 0 < x18 then if zin (x18 - (1 : Int32)) 64 = true then some ((M19 (t + 3) (zi (x18 - (1 : Int32)))), M19) else none else some ((0 : Int32), M19))

def f29_l2 (t : Nat) (a1 : Int32) (a2 : Nat) : Nat → Int32 → ZI → Option (Int32 × ZI)
  | 0, _, _ => none
  | n + 1, x1, M3 =>
  (if x1 < (M3 t 5) then if zin x1 16 = true then if zin x1 16 = true then ((if (M3 (t + 7) (zi x1)) = (M3 (t + 8) (zi x1)) then some (1 : Int32) else some (0 : Int32)) : Option (Int32)).bind fun v4 =>
  if zin x1 16 = true then (if (M3 (t + 5) (zi x1)) = a1 then zlet (fun (x5 : Int32) (M6 : ZI) => (if zin x5 16 = true then if zin x5 16 = true then (f30_run (t + 1) (M6 (t + 6) (zi x5)) (M6 (t + 7) (zi x5)) a2 (0 : Int32) M6).bind fun (v7, M8) => some (v7, M8) else none else none : Option (Int32 × ZI))) fun j9 =>
  (if v4 = 0 then if zin x1 16 = true then if zin x1 16 = true then (f30_run (t + 1) (M3 (t + 7) (zi x1)) (M3 (t + 8) (zi x1)) a2 (0 : Int32) M3).bind fun (v10, M11) => (if v10 = 0 then f29_l2 t a1 a2 n (x1 + (1 : Int32)) M11 else j9 x1 M11) else none else none else j9 x1 M3) else f29_l2 t a1 a2 n (x1 + (1 : Int32)) M3) else none else none else none else (if a1 = (256 : Int32) then some ((1 : Int32), M3) else if a1 = (257 : Int32) then if zin (8 : Int32) (zal a2) = true then some (((M3 a2 (zi (8 : Int32))) / (8 : Int32)), M3) else none else some ((100 : Int32), M3)))

def f29_tells (t : Nat) (a1 : Int32) (a2 : Nat) (M : ZI) : Option (Int32 × ZI) :=
  f29_l2 t a1 a2 zfu (0 : Int32) M

def f35_held (a0 : Int32) (a1 : Int32) (a2 : Int32) : Option Int32 :=
  some (zmax a1 (zmin a2 a0))

def f27_asks (t : Nat) (a1 : Nat) (a2 : Int32) (a3 : Int32) (a4 : Int32) (M : ZI) : Option (Int32 × ZI) :=
  zlet (zs M (t + 40) 0 a3) fun (M1 : ZI) => if zin a3 10 = true then zlet (zs M1 (t + 40) 1 (M1 (a1 + 1) (zi a3))) fun (M2 : ZI) => if zin a3 10 = true then zlet (zs M2 (t + 40) 2 (M2 (t + 36) (zi a3))) fun (M3 : ZI) => if zin a3 10 = true then zlet (zs M3 (t + 40) 3 (M3 (a1 + 2) (zi a3))) fun (M4 : ZI) => if zin a3 10 = true then zlet (zs M4 (t + 40) 4 (M4 (a1 + 3) (zi a3))) fun (M5 : ZI) => zlet (zs M5 (t + 40) 5 (M5 a1 4)) fun (M6 : ZI) => zlet (zs M6 (t + 40) 6 (M6 a1 5)) fun (M7 : ZI) => if zin a3 10 = true then (f28_bitCount (M7 (a1 + 4) (zi a3))).bind fun v8 => zlet (zs M7 (t + 40) 7 v8) fun (M9 : ZI) => zlet (zs M9 (t + 40) 8 a4) fun (M10 : ZI) => (f29_tells (t + 11) a2 (t + 40) M10).bind fun (v11, M12) => ((if a2 = (258 : Int32) then some (1000 : Int32) else some (24 : Int32)) : Option (Int32)).bind fun v13 =>
  (f35_held v11 (0 : Int32) v13).bind fun v14 => some (v14, M12) else none else none else none else none else none

def f26_l2 (t : Nat) (a1 : Nat) : Nat → Int32 → ZI → Option (ZI)
  | 0, _, _ => none
  | n + 1, x1, M2 =>
  (if x1 < (M2 t 11) then (f27_asks t a1 (256 : Int32) x1 (0 : Int32) M2).bind fun (v3, M4) => if zin x1 10 = true then zlet (zs M4 (t + 39) (zi x1) v3) fun (M5 : ZI) => f26_l2 t a1 n (x1 + (1 : Int32)) M5 else none else some M2)

def f26_weigh (t : Nat) (a1 : Nat) (M : ZI) : Option ZI :=
  (f26_l2 t a1 zfu (0 : Int32) M).bind fun M6 =>
  some M6

def f37_isMetBy (t : Nat) (a1 : Int32) (M : ZI) : Option (Int32 × ZI) :=
  (if (M t 1) = 0 then some ((1 : Int32), M) else (f30_runn (t + 1) (0 : Int32) (M (t + 1) 3) a1 M).bind fun (v1, M2) => (if v1 = 0 then some ((0 : Int32), M2) else some ((1 : Int32), M2)))

def f36_l26 (t : Nat) (a1 : Int32) (a2 : Int32) (x3 : Int32) (M7 : ZI) : Nat → Int32 → Int32 → Int32 → Option (Int32 × Int32)
  | 0, _, _, _ => none
  | n + 1, x8, x9, x10 =>
  (if x10 < (M7 t 11) then ((if x10 = a1 then some a2 else if zin x10 10 = true then some (M7 (t + 38) (zi x10)) else none) : Option (Int32)).bind fun v11 =>
  (if v11 = x3 then if zin x10 10 = true then zlet (x8 + (M7 (t + 39) (zi x10))) fun (x12 : Int32) => zlet (x9 ||| (zshl (1 : Int32) x10)) fun (x13 : Int32) => f36_l26 t a1 a2 x3 M7 n x12 x13 (x10 + (1 : Int32)) else none else f36_l26 t a1 a2 x3 M7 n x8 x9 (x10 + (1 : Int32))) else some (x8, x9))

def f36_l8 (t : Nat) (a1 : Int32) (a2 : Int32) : Nat → Int32 → Int32 → Int32 → ZI → Option (Int32 × ZI)
  | 0, _, _, _, _ => none
  | n + 1, x1, x2, x3, M7 =>
  (if x3 < (M7 t 11) then (f36_l26 t a1 a2 x3 M7 zfu (0 : Int32) (0 : Int32) (0 : Int32)).bind fun (x14, x15) =>
  ((if x2 < x14 then some (1 : Int32) else (if x1 = (-1 : Int32) then some (0 : Int32) else (if x14 = x2 then if zin x3 10 = true then if zin x1 10 = true then (if (M7 (t + 36) (zi x1)) < (M7 (t + 36) (zi x3)) then some (1 : Int32) else some (0 : Int32)) else none else none else some (0 : Int32)))) : Option (Int32)).bind fun v17 =>
  (if v17 = 0 then f36_l8 t a1 a2 n x1 x2 (x3 + (1 : Int32)) M7 else (f37_isMetBy (t + 28) x15 M7).bind fun (v18, M19) => (if v18 = 0 then f36_l8 t a1 a2 n x1 x2 (x3 + (1 : Int32)) M19 else f36_l8 t a1 a2 n x3 x14 (x3 + (1 : Int32)) M19)) else some (x1, M7))

def f36_elect (t : Nat) (a1 : Int32) (a2 : Int32) (M : ZI) : Option (Int32 × ZI) :=
  (f36_l8 t a1 a2 zfu (-1 : Int32) (0 : Int32) (0 : Int32) M).bind fun (x20, M21) =>
  some (x20, M21)

def f39_hoursLeft (t : Nat) (M : ZI) : Option Int32 :=
  some ((24 : Int32) - (M t 4))

def f41_l5 (t : Nat) (a1 : Int32) (a2 : Int32) (M : ZI) : Nat → Int32 → Int32 → Option (Int32)
  | 0, _, _ => none
  | n + 1, x1, x2 =>
  (if x2 < (M t 6) then if zin x2 12 = true then (if (M (t + 1) (zi x2)) = a1 then if zin x2 12 = true then (if a2 < (M (t + 2) (zi x2)) then f41_l5 t a1 a2 M n x1 (x2 + (1 : Int32)) else zlet (x1 ||| (zshl (1 : Int32) x2)) fun (x3 : Int32) => f41_l5 t a1 a2 M n x3 (x2 + (1 : Int32))) else none else f41_l5 t a1 a2 M n x1 (x2 + (1 : Int32))) else none else some x1)

def f41_ownedBy (t : Nat) (a1 : Int32) (a2 : Int32) (M : ZI) : Option Int32 :=
  (f41_l5 t a1 a2 M zfu (0 : Int32) (0 : Int32)).bind fun x4 =>
  some x4

def f42_l5 (t : Nat) (a1 : Int32) (a2 : Nat) (M : ZI) : Nat → Int32 → Int32 → Option (Int32)
  | 0, _, _ => none
  | n + 1, x1, x2 =>
  (if x2 < (M t 6) then (if x2 < (Int32.ofNat (zal a2)) then (f19_isIn a1 x2).bind fun v3 => (if v3 = 0 then f42_l5 t a1 a2 M n x1 (x2 + (1 : Int32)) else if zin x2 (zal a2) = true then zlet (x1 + (M a2 (zi x2))) fun (x4 : Int32) => f42_l5 t a1 a2 M n x4 (x2 + (1 : Int32)) else none) else some x1) else some x1)

def f42_sum (t : Nat) (a1 : Int32) (a2 : Nat) (M : ZI) : Option Int32 :=
  (f42_l5 t a1 a2 M zfu (0 : Int32) (0 : Int32)).bind fun x5 =>
  some x5

def f43_l2 (t : Nat) (a1 : Int32) (a2 : Int32) (M : ZI) : Nat → Int32 → Option Int32
  | 0, _ => none
  | n + 1, x1 =>
  (if x1 < (M t 6) then (f19_isIn a1 x1).bind fun v2 => (if v2 = 0 then f43_l2 t a1 a2 M n (x1 + (1 : Int32)) else if zin x1 12 = true then (if (M (t + 6) (zi x1)) = (-1 : Int32) then f43_l2 t a1 a2 M n (x1 + (1 : Int32)) else if zin x1 12 = true then (f19_isIn (a1 ||| a2) (M (t + 6) (zi x1))).bind fun v3 => (if v3 = 0 then some (0 : Int32) else f43_l2 t a1 a2 M n (x1 + (1 : Int32))) else none) else none) else some (1 : Int32))

def f43_isWhole (t : Nat) (a1 : Int32) (a2 : Int32) (M : ZI) : Option Int32 :=
  f43_l2 t a1 a2 M zfu (0 : Int32)

def f40_l27 (t : Nat) (a2 : Int32) (a3 : Int32) (M : ZI) (x2 : Int32) : Nat → Int32 → Int32 → Int32 → Int32 → Int32 → Option (Int32)
  | 0, _, _, _, _, _ => none
  | n + 1, x3, x4, x5, x6, x7 =>
  (if x7 < (4096 : Int32) then zlet ((x6 - x2) &&& x2) fun (x10 : Int32) => (if x10 = 0 then some x3 else (f42_sum t x10 (t + 2) M).bind fun v11 => ((if a2 < v11 then some (-1 : Int32) else (f42_sum t x10 (t + 3) M).bind fun v12 => some v12) : Option (Int32)).bind fun v13 =>
  zlet (fun (x14 : Int32) => ((f43_isWhole t x10 a3 M).bind fun v15 => (if v15 = 0 then f40_l27 t a2 a3 M x2 n x3 x4 x5 x10 (x14 + (1 : Int32)) else f40_l27 t a2 a3 M x2 n x10 v13 v11 x10 (x14 + (1 : Int32))) : Option (Int32))) fun j16 =>
  (if x4 < v13 then j16 x7 else (if v13 = x4 then (if v11 < x5 then j16 x7 else f40_l27 t a2 a3 M x2 n x3 x4 x5 x10 (x7 + (1 : Int32))) else f40_l27 t a2 a3 M x2 n x3 x4 x5 x10 (x7 + (1 : Int32))))) else some x3)

def f40_bestSet (t : Nat) (a1 : Int32) (a2 : Int32) (a3 : Int32) (M : ZI) : Option Int32 :=
  (f41_ownedBy t a1 a2 M).bind fun v1 => zlet (v1 &&& (a3 ^^^ (-1 : Int32))) fun (x2 : Int32) => (f40_l27 t a2 a3 M x2 zfu (0 : Int32) (0 : Int32) (0 : Int32) (0 : Int32) (1 : Int32)).bind fun x17 =>
  some x17

def f44_draw (t : Nat) (a1 : Int32) (M : ZI) : Option (Int32 × ZI) :=
  zlet (zs M t 9 (((1664525 : Int32) * (M t 9)) + (1013904223 : Int32))) fun (M1 : ZI) => (if 0 < a1 then if a1 = 0 then none else some ((zrem (zushr (M1 t 9) (8 : Int32)) a1), M1) else some ((0 : Int32), M1))

def f46_write (t : Nat) (a1 : Nat) (a2 : Int32) (a3 : Int32) (a4 : Int32) (M : ZI) : Option ZI :=
  zlet (M a1 10) fun (x1 : Int32) => (if x1 < 0 then some M else (if x1 < (150 : Int32) then if zin x1 150 = true then zlet (zs M (t + 1) (zi x1) (M a1 5)) fun (M2 : ZI) => if zin x1 150 = true then zlet (zs M2 (t + 2) (zi x1) a2) fun (M3 : ZI) => if zin x1 150 = true then zlet (zs M3 (t + 3) (zi x1) a3) fun (M4 : ZI) => if zin x1 150 = true then zlet (zs M4 (t + 4) (zi x1) a4) fun (M5 : ZI) => zlet (zs M5 a1 10 ((M5 a1 10) + (1 : Int32))) fun (M6 : ZI) => some M6 else none else none else none else none else some M))

def f45_l28 (t : Nat) (a1 : Nat) (a3 : Int32) : Nat → Int32 → ZI → Option (ZI)
  | 0, _, _ => none
  | n + 1, x3, M4 =>
  (if x3 < (M4 (t + 20) 6) then (f19_isIn a3 x3).bind fun v5 => (if v5 = 0 then f45_l28 t a1 a3 n (x3 + (1 : Int32)) M4 else if zin x3 12 = true then (f46_write (t + 6) a1 (3 : Int32) x3 (M4 (t + 22) (zi x3)) M4).bind fun M6 => f45_l28 t a1 a3 n (x3 + (1 : Int32)) M6 else none) else some M4)

def f45_enter (t : Nat) (a1 : Nat) (a2 : Int32) (a3 : Int32) (a4 : Int32) (M : ZI) : Option ZI :=
  (f42_sum (t + 20) a3 (t + 22) M).bind fun v1 => (f46_write (t + 6) a1 (0 : Int32) a2 v1 M).bind fun M2 => (f45_l28 t a1 a3 zfu (0 : Int32) M2).bind fun M7 =>
  (if a4 = 0 then some M7 else (f46_write (t + 6) a1 (4 : Int32) a2 (0 : Int32) M7).bind fun M9 => some M9)

def f38_giveTo (t : Nat) (a1 : Nat) (a2 : Int32) (a3 : Int32) (M : ZI) : Option ZI :=
  (f39_hoursLeft a1 M).bind fun v1 => (f40_bestSet (t + 20) a2 v1 (M a1 8) M).bind fun v2 => (f42_sum (t + 20) v2 (t + 22) M).bind fun v3 => zlet (zs M a1 8 ((M a1 8) ||| v2)) fun (M4 : ZI) => (f42_sum (t + 20) v2 (t + 23) M4).bind fun v5 => zlet (zs M4 a1 7 ((M4 a1 7) + v5)) fun (M6 : ZI) => (f27_asks t a1 (257 : Int32) a2 v3 M6).bind fun (v7, M8) => (f27_asks t a1 (258 : Int32) a2 v3 M8).bind fun (v9, M10) => (f23_wearBy a1 v7 M10).bind fun M11 => (if a3 = 0 then some M11 else (f44_draw a1 (1000 : Int32) M11).bind fun (v12, M13) => ((if v12 < v9 then some (1 : Int32) else some (0 : Int32)) : Option (Int32)).bind fun v14 =>
  ((if v14 = 0 then some (0 : Int32) else some (1 : Int32)) : Option (Int32)).bind fun v15 =>
  zlet (zs M13 a1 6 ((M13 a1 6) + v15)) fun (M16 : ZI) => (f45_enter t a1 a2 v2 v14 M16).bind fun M17 => some M17)

def f47_l2 (t : Nat) (a1 : Int32) (a2 : Int32) : Nat → Int32 → ZI → Option (ZI)
  | 0, _, _ => none
  | n + 1, x1, M2 =>
  (if x1 < a1 then (if x1 < (10 : Int32) then ((if x1 = a2 then if zin x1 10 = true then if zin x1 10 = true then zlet (zs M2 (t + 2) (zi x1) ((M2 (t + 2) (zi x1)) + (1 : Int32))) fun (M4 : ZI) => if zin x1 10 = true then zlet (zs M4 (t + 3) (zi x1) (0 : Int32)) fun (M5 : ZI) => some M5 else none else none else none else if zin x1 10 = true then if zin x1 10 = true then zlet (zs M2 (t + 3) (zi x1) ((M2 (t + 3) (zi x1)) + (1 : Int32))) fun (M3 : ZI) => some M3 else none else none) : Option (ZI)).bind fun M6 =>
  if zin x1 10 = true then if zin x1 10 = true then zlet (zs M6 (t + 1) (zi x1) (zmin (99 : Int32) ((M6 (t + 1) (zi x1)) + (1 : Int32)))) fun (M7 : ZI) => f47_l2 t a1 a2 n (x1 + (1 : Int32)) M7 else none else none else some M2) else some M2)

def f47_growOlder (t : Nat) (a1 : Int32) (a2 : Int32) (M : ZI) : Option ZI :=
  (f47_l2 t a1 a2 zfu (0 : Int32) M).bind fun M8 =>
  zlet (zs M8 t 5 ((M8 t 5) + (1 : Int32))) fun (M10 : ZI) => some M10

def f25_pass (t : Nat) (a1 : Nat) (a2 : Int32) (M : ZI) : Option (Int32 × ZI) :=
  ((if (M a1 4) < (M t 13) then (f26_weigh t a1 M).bind fun M1 => (f36_elect t (-1 : Int32) (-1 : Int32) M1).bind fun (v2, M3) => some (v2, M3) else zlet (zs M a1 4 (zmax (0 : Int32) ((M a1 4) - (M t 12)))) fun (M4 : ZI) => some ((-2 : Int32), M4)) : Option (Int32 × ZI)).bind fun (x5, M6) =>
  ((if x5 < 0 then (if a2 = 0 then some M6 else ((if x5 = (-2 : Int32) then some (1 : Int32) else some (2 : Int32)) : Option (Int32)).bind fun v7 =>
  (f46_write (t + 6) a1 v7 (-1 : Int32) (0 : Int32) M6).bind fun M8 => some M8) else (f38_giveTo t a1 x5 a2 M6).bind fun M9 => some M9) : Option (ZI)).bind fun M10 =>
  (f47_growOlder a1 (M10 t 11) x5 M10).bind fun M11 => some (x5, M11)

def f24_l34 (a1 : Int32) : Nat → Int32 → Int32 → ZI → Option (Int32 × ZI)
  | 0, _, _, _ => none
  | n + 1, x2, x3, M4 =>
  (if x3 < a1 then (f20_keepPast M4).bind fun M5 => (f25_pass 1 2 (1 : Int32) M5).bind fun (v6, M7) => (if v6 < 0 then f24_l34 a1 n x2 (x3 + (1 : Int32)) M7 else f24_l34 a1 n (x2 + (1 : Int32)) (x3 + (1 : Int32)) M7) else some (x2, M4))

def f24_years (a1 : Int32) (M : ZI) : Option (Int32 × ZI) :=
  (f13_within a1 (1 : Int32) (40 : Int32)).bind fun v1 => (if v1 = 0 then some ((-1 : Int32), M) else (if (999 : Int32) < ((M 2 5) + a1) then some ((-1 : Int32), M) else (f24_l34 a1 zfu (0 : Int32) (0 : Int32) M).bind fun (x8, M9) =>
  some (x8, M9)))

def f49_hasRoom (t : Nat) (a1 : Int32) (M : ZI) : Option Int32 :=
  (if (400 : Int32) < ((M t 1) + a1) then some (0 : Int32) else some (1 : Int32))

def f50_l3 (t : Nat) (a1 : Int32) : Nat → Int32 → ZI → Option (ZI)
  | 0, _, _ => none
  | n + 1, x1, M2 =>
  (if x1 < 0 then some M2 else (if (M2 t 1) < (400 : Int32) then if zin (M2 t 1) 400 = true then zlet (zs M2 (t + 1) (zi (M2 t 1)) ((zushr a1 x1) &&& (255 : Int32))) fun (M3 : ZI) => zlet (zs M3 t 1 ((M3 t 1) + (1 : Int32))) fun (M4 : ZI) => f50_l3 t a1 n (x1 + (-8 : Int32)) M4 else none else some M2))

def f50_append (t : Nat) (a1 : Int32) (M : ZI) : Option ZI :=
  (f50_l3 t a1 zfu (24 : Int32) M).bind fun M5 =>
  some M5

def f48_feed (a1 : Int32) (a2 : Int32) (a3 : Int32) (a4 : Int32) (a5 : Int32) (M : ZI) : Option (Int32 × ZI) :=
  (f49_hasRoom 119 (20 : Int32) M).bind fun v1 => (if v1 = 0 then some ((-1 : Int32), M) else (f50_append 119 a1 M).bind fun M2 => (f50_append 119 a2 M2).bind fun M3 => (f50_append 119 a3 M3).bind fun M4 => (f50_append 119 a4 M4).bind fun M5 => (f50_append 119 a5 M5).bind fun M6 => some ((M6 119 1), M6))

def f51_end (a1 : Int32) (M : ZI) : Option (Int32 × ZI) :=
  (f13_within a1 (0 : Int32) (M 119 1)).bind fun v1 => (if v1 = 0 then some ((0 : Int32), M) else zlet (zs M 119 1 a1) fun (M2 : ZI) => some ((1 : Int32), M2))

def f55_isLetter (a0 : Int32) : Option Int32 :=
  zlet (fun (_ : Unit) => ((if a0 < (65 : Int32) then some (0 : Int32) else (if (90 : Int32) < a0 then some (0 : Int32) else some (1 : Int32))) : Option Int32)) fun j1 =>
  (if a0 < (97 : Int32) then j1 () else (if (122 : Int32) < a0 then j1 () else some (1 : Int32)))

def f56_l13 (t : Nat) (a1 : Int32) (a2 : Int32) (M : ZI) : Nat → Int32 → Int32 → Int32 → Int32 → Option Int32
  | 0, _, _, _, _ => none
  | n + 1, x1, x2, x3, x4 =>
  (if x4 < (zsln 0) then if zin x4 (zsn 0) = true then zlet (zch 0 x4) fun (x6 : Int32) => (if x6 = (32 : Int32) then zlet (fun (_ : Unit) => (f56_l13 t a1 a2 M n (x1 + (1 : Int32)) a1 (1 : Int32) (x4 + (1 : Int32)) : Option Int32)) fun j7 =>
  (if x3 = 0 then j7 () else (if x2 = a2 then some x1 else j7 ())) else (if x3 = 0 then f56_l13 t a1 a2 M n x1 (x2 + (1 : Int32)) (0 : Int32) (x4 + (1 : Int32)) else (if x2 < a2 then if zin x2 400 = true then (if (M (t + 1) (zi x2)) = x6 then f56_l13 t a1 a2 M n x1 (x2 + (1 : Int32)) (1 : Int32) (x4 + (1 : Int32)) else f56_l13 t a1 a2 M n x1 (x2 + (1 : Int32)) (0 : Int32) (x4 + (1 : Int32))) else none else f56_l13 t a1 a2 M n x1 (x2 + (1 : Int32)) (0 : Int32) (x4 + (1 : Int32))))) else none else some (-3 : Int32))

def f56_wordKind (t : Nat) (a1 : Int32) (a2 : Int32) (M : ZI) : Option Int32 :=
  f56_l13 t a1 a2 M zfu (256 : Int32) a1 (1 : Int32) (0 : Int32)

def f64_addToken (t : Nat) (a1 : Int32) (a2 : Int32) (a3 : Int32) (M : ZI) : Option ZI :=
  (if (400 : Int32) < (M t 5) then some M else if zin (M t 5) 401 = true then zlet (zs M (t + 2) (zi (M t 5)) a1) fun (M1 : ZI) => if zin (M1 t 5) 401 = true then zlet (zs M1 (t + 3) (zi (M1 t 5)) a2) fun (M2 : ZI) => if zin (M2 t 5) 401 = true then zlet (zs M2 (t + 4) (zi (M2 t 5)) a3) fun (M3 : ZI) => zlet (zs M3 t 5 ((M3 t 5) + (1 : Int32))) fun (M4 : ZI) => some M4 else none else none else none)

def f65_isDigit (a0 : Int32) : Option Int32 :=
  (if a0 < (48 : Int32) then some (0 : Int32) else (if (57 : Int32) < a0 then some (0 : Int32) else some (1 : Int32)))

def f66_l5 (t : Nat) (a2 : Int32) (M : ZI) : Nat → Int32 → Int32 → Option (Int32)
  | 0, _, _ => none
  | n + 1, x1, x2 =>
  (if x2 < a2 then (if x2 < (400 : Int32) then if zin x2 400 = true then zlet (((x1 * (10 : Int32)) + (M (t + 1) (zi x2))) - (48 : Int32)) fun (x3 : Int32) => f66_l5 t a2 M n x3 (x2 + (1 : Int32)) else none else some x1) else some x1)

def f66_numberAt (t : Nat) (a1 : Int32) (a2 : Int32) (M : ZI) : Option Int32 :=
  (f66_l5 t a2 M zfu (0 : Int32) a1).bind fun x4 =>
  some x4

def f67_signKind (a0 : Int32) : Option Int32 :=
  (if a0 = (40 : Int32) then some a0 else if a0 = (41 : Int32) then some a0 else if a0 = (42 : Int32) then some a0 else if a0 = (43 : Int32) then some a0 else if a0 = (44 : Int32) then some (-3 : Int32) else if a0 = (45 : Int32) then some a0 else if a0 = (46 : Int32) then some (-3 : Int32) else if a0 = (47 : Int32) then some a0 else if a0 = (48 : Int32) then some (-3 : Int32) else if a0 = (49 : Int32) then some (-3 : Int32) else if a0 = (50 : Int32) then some (-3 : Int32) else if a0 = (51 : Int32) then some (-3 : Int32) else if a0 = (52 : Int32) then some (-3 : Int32) else if a0 = (53 : Int32) then some (-3 : Int32) else if a0 = (54 : Int32) then some (-3 : Int32) else if a0 = (55 : Int32) then some (-3 : Int32) else if a0 = (56 : Int32) then some (-3 : Int32) else if a0 = (57 : Int32) then some (-3 : Int32) else if a0 = (58 : Int32) then some (-3 : Int32) else if a0 = (59 : Int32) then some a0 else if a0 = (60 : Int32) then some a0 else if a0 = (61 : Int32) then some a0 else if a0 = (62 : Int32) then some a0 else some (-3 : Int32))

def f54_l81 (t : Nat) (M5 : ZI) : Nat → Int32 → Option (Int32)
  | 0, _ => none
  | n + 1, x12 =>
  (if x12 < (M5 t 1) then if zin x12 400 = true then (f65_isDigit (M5 (t + 1) (zi x12))).bind fun v13 => (if v13 = 0 then some x12 else f54_l81 t M5 n (x12 + (1 : Int32))) else none else some x12)

def f54_l33 (t : Nat) (M5 : ZI) : Nat → Int32 → Option (Int32)
  | 0, _ => none
  | n + 1, x18 =>
  (if x18 < (M5 t 1) then if zin x18 400 = true then (f55_isLetter (M5 (t + 1) (zi x18))).bind fun v19 => (if v19 = 0 then some x18 else f54_l33 t M5 n (x18 + (1 : Int32))) else none else some x18)

def f54_l7 (t : Nat) : Nat → Int32 → ZI → Option (ZI)
  | 0, _, _ => none
  | n + 1, x2, M5 =>
  (if x2 < (M5 t 1) then if zin x2 400 = true then zlet (M5 (t + 1) (zi x2)) fun (x6 : Int32) => zlet (x2 + (1 : Int32)) fun (x7 : Int32) => (f55_isLetter x6).bind fun v8 => (if v8 = 0 then (f65_isDigit x6).bind fun v9 => (if v9 = 0 then (if x6 = (32 : Int32) then f54_l7 t n x7 M5 else (if x6 = (10 : Int32) then f54_l7 t n x7 M5 else (f67_signKind x6).bind fun v10 => (f64_addToken t v10 (0 : Int32) x2 M5).bind fun M11 => f54_l7 t n x7 M11)) else (f54_l81 t M5 zfu x7).bind fun x14 =>
  ((if (4 : Int32) < (x14 - x2) then some (-3 : Int32) else some (-2 : Int32)) : Option (Int32)).bind fun v15 =>
  (f66_numberAt t x2 x14 M5).bind fun v16 => (f64_addToken t v15 v16 x2 M5).bind fun M17 => f54_l7 t n x14 M17) else (f54_l33 t M5 zfu x7).bind fun x20 =>
  (f56_wordKind t x2 x20 M5).bind fun v21 => (f64_addToken t v21 (0 : Int32) x2 M5).bind fun M22 => f54_l7 t n x20 M22) else none else some M5)

def f54_findTokens (t : Nat) (M : ZI) : Option ZI :=
  zlet (zs M t 5 (0 : Int32)) fun (M1 : ZI) => (f54_l7 t zfu (0 : Int32) M1).bind fun M23 =>
  (f64_addToken t (-1 : Int32) (0 : Int32) (M23 t 1) M23).bind fun M27 => some M27

def f68_forward (t : Nat) (M : ZI) : Option ZI :=
  (if ((M t 6) + (1 : Int32)) < (M t 5) then zlet (zs M t 6 ((M t 6) + (1 : Int32))) fun (M1 : ZI) => if zin (M1 t 6) 401 = true then zlet (zs M1 t 7 (M1 (t + 2) (zi (M1 t 6)))) fun (M2 : ZI) => if zin (M2 t 6) 401 = true then zlet (zs M2 t 8 (M2 (t + 3) (zi (M2 t 6)))) fun (M3 : ZI) => some M3 else none else none else some M)

def f53_begin (t : Nat) (a1 : Int32) (M : ZI) : Option ZI :=
  zlet (zs M t 9 a1) fun (M1 : ZI) => zlet (zs M1 t 10 (0 : Int32)) fun (M2 : ZI) => zlet (zs M2 t 11 (-1 : Int32)) fun (M3 : ZI) => (f54_findTokens t M3).bind fun M4 => zlet (zs M4 t 1 (0 : Int32)) fun (M5 : ZI) => zlet (zs M5 t 6 (-1 : Int32)) fun (M6 : ZI) => (f68_forward t M6).bind fun M7 => some M7

def f70_refuse (t : Nat) (a1 : Int32) (M : ZI) : Option (Int32 × ZI) :=
  zlet (zs M t 10 a1) fun (M1 : ZI) => if zin (M1 t 6) 401 = true then zlet (zs M1 t 11 (M1 (t + 4) (zi (M1 t 6)))) fun (M2 : ZI) => some ((0 : Int32), M2) else none

def f74_add (t : Nat) (a1 : Int32) (a2 : Int32) (M : ZI) : Option ZI :=
  (if (M t 3) < (400 : Int32) then if zin (M t 3) 400 = true then zlet (zs M (t + 1) (zi (M t 3)) a1) fun (M1 : ZI) => if zin (M1 t 3) 400 = true then zlet (zs M1 (t + 2) (zi (M1 t 3)) a2) fun (M2 : ZI) => zlet (zs M2 t 3 ((M2 t 3) + (1 : Int32))) fun (M3 : ZI) => some M3 else none else none else some M)

def f73_readUnit (t : Nat) (a1 : Nat) (M : ZI) : Option (Int32 × ZI) :=
  zlet (fun (M1 : ZI) => ((f68_forward t M1).bind fun M2 => some ((1 : Int32), M2) : Option (Int32 × ZI))) fun j3 =>
  zlet (fun (M4 : ZI) => ((if (M4 t 7) = (-2 : Int32) then (f74_add a1 (-2 : Int32) (M4 t 8) M4).bind fun M7 => j3 M7 else (f70_refuse t (1 : Int32) M4).bind fun (v5, M6) => if zbl v5 = true then some (v5, M6) else none) : Option (Int32 × ZI))) fun j8 =>
  (if (M t 7) < (263 : Int32) then j8 M else (if (271 : Int32) < (M t 7) then j8 M else (f74_add a1 (300 : Int32) ((M t 7) - (263 : Int32)) M).bind fun M9 => j3 M9))

def f75_isNumber (t : Nat) (a1 : Int32) (a2 : Int32) (M : ZI) : Option (Int32 × ZI) :=
  (if (M t 7) = (-2 : Int32) then (f13_within (M t 8) a1 a2).bind fun v1 => (if v1 = 0 then (f70_refuse t (2 : Int32) M).bind fun (v2, M3) => (if v2 = 0 then some ((0 : Int32), M3) else some ((1 : Int32), M3)) else some ((1 : Int32), M)) else (f70_refuse t (1 : Int32) M).bind fun (v4, M5) => if zbl v4 = true then some (v4, M5) else none)

def f72_l12 (t : Nat) (a1 : Nat) : Nat → Int32 → ZI → Option (Int32 × ZI)
  | 0, _, _ => none
  | n + 1, x3, M5 =>
  (if x3 < (400 : Int32) then zlet (fun (_ : Unit) => (zlet (M5 t 7) fun (x6 : Int32) => (f68_forward t M5).bind fun M7 => (if x6 = (42 : Int32) then (f73_readUnit t a1 M7).bind fun (v12, M13) => (if v12 = 0 then some ((0 : Int32), M13) else (f74_add a1 (42 : Int32) (0 : Int32) M13).bind fun M14 => f72_l12 t a1 n (x3 + (1 : Int32)) M14) else (f75_isNumber t (1 : Int32) (9999 : Int32) M7).bind fun (v8, M9) => (if v8 = 0 then some ((0 : Int32), M9) else (f74_add a1 (47 : Int32) (M9 t 8) M9).bind fun M10 => (f68_forward t M10).bind fun M11 => f72_l12 t a1 n (x3 + (1 : Int32)) M11)) : Option (Int32 × ZI))) fun j15 =>
  (if (M5 t 7) = (42 : Int32) then j15 () else (if (M5 t 7) = (47 : Int32) then j15 () else some ((1 : Int32), M5))) else some ((1 : Int32), M5))

def f72_readTerm (t : Nat) (a1 : Nat) (M : ZI) : Option (Int32 × ZI) :=
  (f73_readUnit t a1 M).bind fun (v1, M2) => (if v1 = 0 then some ((0 : Int32), M2) else f72_l12 t a1 zfu (0 : Int32) M2)

def f71_l4 (t : Nat) (a1 : Nat) : Nat → Int32 → Int32 → ZI → Option (Int32 × ZI)
  | 0, _, _, _ => none
  | n + 1, x1, x2, M3 =>
  (if x2 < (400 : Int32) then (f72_readTerm t a1 M3).bind fun (v6, M7) => (if v6 = 0 then some ((0 : Int32), M7) else ((if x1 = 0 then some M7 else (f74_add a1 x1 (0 : Int32) M7).bind fun M8 => some M8) : Option (ZI)).bind fun M9 =>
  zlet (fun (_ : Unit) => (zlet (M9 t 7) fun (x10 : Int32) => (f68_forward t M9).bind fun M11 => f71_l4 t a1 n x10 (x2 + (1 : Int32)) M11 : Option (Int32 × ZI))) fun j12 =>
  (if (M9 t 7) = (43 : Int32) then j12 () else (if (M9 t 7) = (45 : Int32) then j12 () else some ((1 : Int32), M9)))) else (f70_refuse t (1 : Int32) M3).bind fun (v4, M5) => if zbl v4 = true then some (v4, M5) else none)

def f71_readSum (t : Nat) (a1 : Nat) (M : ZI) : Option (Int32 × ZI) :=
  f71_l4 t a1 zfu (0 : Int32) (0 : Int32) M

def f78_skip (t : Nat) (a1 : Int32) (M : ZI) : Option (Int32 × ZI) :=
  (if (M t 7) = a1 then (f68_forward t M).bind fun M1 => some ((1 : Int32), M1) else (f70_refuse t (1 : Int32) M).bind fun (v2, M3) => if zbl v2 = true then some (v2, M3) else none)

def f79_readPart (t : Nat) (a1 : Nat) (M : ZI) : Option (Int32 × ZI) :=
  ((if (M t 7) = (279 : Int32) then some (1 : Int32) else some (0 : Int32)) : Option (Int32)).bind fun v1 =>
  ((if v1 = 0 then some M else (f68_forward t M).bind fun M2 => some M2) : Option (ZI)).bind fun M3 =>
  ((if v1 = 0 then some (0 : Int32) else some (1 : Int32)) : Option (Int32)).bind fun v4 =>
  ((if v1 = 0 then some ((M3 t 9) - (1 : Int32)) else some (10 : Int32)) : Option (Int32)).bind fun v5 =>
  (f75_isNumber t v4 v5 M3).bind fun (v6, M7) => (if v6 = 0 then some ((0 : Int32), M7) else ((if v1 = 0 then some (301 : Int32) else some (279 : Int32)) : Option (Int32)).bind fun v8 =>
  (f74_add a1 v8 (M7 t 8) M7).bind fun M9 => (f68_forward t M9).bind fun M10 => zlet (zs M10 (t + 23) 1 ((M10 (t + 23) 1) + (1 : Int32))) fun (M11 : ZI) => some ((1 : Int32), M11))

def f77_readOne_b (g76 : Nat → Nat → Int32 → Int32 → ZI → Option (Int32 × ZI)) (g77 : Nat → Nat → Int32 → Int32 → ZI → Option (Int32 × ZI)) (t : Nat) (a1 : Nat) (a2 : Int32) (a3 : Int32) (M : ZI) : Option (Int32 × ZI) :=
  zlet (fun (M1 : ZI) => ((if a3 < (8 : Int32) then ((if (M1 t 7) = (262 : Int32) then some (1 : Int32) else some (0 : Int32)) : Option (Int32)).bind fun v3 =>
  (f68_forward t M1).bind fun M4 => (if v3 = 0 then (g76 t a1 a2 (a3 + (1 : Int32)) M4).bind fun (v8, M9) => (if v8 = 0 then some ((0 : Int32), M9) else (f78_skip t (41 : Int32) M9).bind fun (v10, M11) => (if v10 = 0 then some ((0 : Int32), M11) else some ((1 : Int32), M11))) else (g77 t a1 a2 (a3 + (1 : Int32)) M4).bind fun (v5, M6) => (if v5 = 0 then some ((0 : Int32), M6) else (f74_add a1 (262 : Int32) (0 : Int32) M6).bind fun M7 => some ((1 : Int32), M7))) else (f70_refuse t (3 : Int32) M1).bind fun (v12, M13) => if zbl v12 = true then some (v12, M13) else none) : Option (Int32 × ZI))) fun j14 =>
  (if (M t 7) = (40 : Int32) then j14 M else zlet (fun (_ : Unit) => ((if a2 = 0 then (f71_readSum t a1 M).bind fun (v15, M16) => (if v15 = 0 then some ((0 : Int32), M16) else zlet (M16 t 7) fun (x17 : Int32) => zlet (fun (M18 : ZI) => ((f68_forward t M18).bind fun M19 => (f71_readSum t a1 M19).bind fun (v20, M21) => (if v20 = 0 then some ((0 : Int32), M21) else (f74_add a1 x17 (0 : Int32) M21).bind fun M22 => some ((1 : Int32), M22)) : Option (Int32 × ZI))) fun j23 =>
  (if x17 = (60 : Int32) then j23 M16 else (if x17 = (61 : Int32) then j23 M16 else (if x17 = (62 : Int32) then j23 M16 else (f70_refuse t (1 : Int32) M16).bind fun (v24, M25) => if zbl v24 = true then some (v24, M25) else none)))) else (f79_readPart t a1 M).bind fun (v26, M27) => if zbl v26 = true then some (v26, M27) else none) : Option (Int32 × ZI))) fun j28 =>
  (if (M t 7) = (262 : Int32) then (if a2 = 0 then j14 M else j28 ()) else j28 ()))

def f76_l9 (g77 : Nat → Nat → Int32 → Int32 → ZI → Option (Int32 × ZI)) (t : Nat) (a1 : Nat) (a2 : Int32) (a3 : Int32) : Nat → Int32 → Int32 → Int32 → ZI → Option (Int32 × ZI)
  | 0, _, _, _, _ => none
  | n + 1, x1, x2, x3, M4 =>
  (if x3 < (400 : Int32) then (g77 t a1 a2 a3 M4).bind fun (v7, M8) => (if v7 = 0 then some ((0 : Int32), M8) else ((if x2 = 0 then some M8 else (f74_add a1 (261 : Int32) (0 : Int32) M8).bind fun M9 => some M9) : Option (ZI)).bind fun M10 =>
  ((if (M10 t 7) = (261 : Int32) then some (1 : Int32) else some (0 : Int32)) : Option (Int32)).bind fun v11 =>
  zlet (fun (x12 : Int32) (M13 : ZI) => ((f68_forward t M13).bind fun M14 => f76_l9 g77 t a1 a2 a3 n x12 v11 (x3 + (1 : Int32)) M14 : Option (Int32 × ZI))) fun j15 =>
  (if v11 = 0 then ((if x1 = 0 then some M10 else (f74_add a1 (260 : Int32) (0 : Int32) M10).bind fun M16 => some M16) : Option (ZI)).bind fun M17 =>
  ((if (M17 t 7) = (260 : Int32) then some (1 : Int32) else some (0 : Int32)) : Option (Int32)).bind fun v18 =>
  (if v18 = 0 then some ((1 : Int32), M17) else j15 v18 M17) else j15 x1 M10)) else (f70_refuse t (1 : Int32) M4).bind fun (v5, M6) => if zbl v5 = true then some (v5, M6) else none)

def f76_readAny_b (g77 : Nat → Nat → Int32 → Int32 → ZI → Option (Int32 × ZI)) (t : Nat) (a1 : Nat) (a2 : Int32) (a3 : Int32) (M : ZI) : Option (Int32 × ZI) :=
  f76_l9 g77 t a1 a2 a3 zfu (0 : Int32) (0 : Int32) (0 : Int32) M

def fgA : Nat → (Nat → Nat → Int32 → Int32 → ZI → Option (Int32 × ZI)) × (Nat → Nat → Int32 → Int32 → ZI → Option (Int32 × ZI))
  | 0 => (fun _ _ _ _ _ => none, fun _ _ _ _ _ => none)
  | f + 1 => (f77_readOne_b (fgA f).2 (fgA f).1, f76_readAny_b (fgA f).1)
def f77_readOne (f : Nat) : Nat → Nat → Int32 → Int32 → ZI → Option (Int32 × ZI) := (fgA f).1
def f76_readAny (f : Nat) : Nat → Nat → Int32 → Int32 → ZI → Option (Int32 × ZI) := (fgA f).2
theorem fe77 (f : Nat) : f77_readOne (f + 1) = f77_readOne_b (f76_readAny f) (f77_readOne f) := by simp only [f77_readOne, f76_readAny, fgA]
theorem fe76 (f : Nat) : f76_readAny (f + 1) = f76_readAny_b (f77_readOne f) := by simp only [f77_readOne, f76_readAny, fgA]

def f80_add (t : Nat) (a1 : Int32) (a2 : Int32) (a3 : Int32) (M : ZI) : Option ZI :=
  (if (M t 5) < (16 : Int32) then if zin (M t 5) 16 = true then zlet (zs M (t + 5) (zi (M t 5)) a1) fun (M1 : ZI) => if zin (M1 t 5) 16 = true then zlet (zs M1 (t + 6) (zi (M1 t 5)) a2) fun (M2 : ZI) => if zin (M2 t 5) 16 = true then zlet (zs M2 (t + 7) (zi (M2 t 5)) a3) fun (M3 : ZI) => if zin (M3 t 5) 16 = true then zlet (zs M3 (t + 8) (zi (M3 t 5)) (M3 (t + 1) 3)) fun (M4 : ZI) => zlet (zs M4 t 5 ((M4 t 5) + (1 : Int32))) fun (M5 : ZI) => some M5 else none else none else none else none else some M)

def f69_l21 (t : Nat) : Nat → Int32 → ZI → Option (Int32 × ZI)
  | 0, _, _ => none
  | n + 1, x3, M7 =>
  (if x3 < (400 : Int32) then (if (M7 t 7) = (-1 : Int32) then some ((1 : Int32), M7) else zlet (M7 t 7) fun (x8 : Int32) => zlet (fun (M9 : ZI) => ((if (M9 (t + 5) 5) < (16 : Int32) then (f68_forward t M9).bind fun M10 => zlet (M10 (t + 6) 3) fun (x11 : Int32) => (f71_readSum t (t + 6) M10).bind fun (v12, M13) => (if v12 = 0 then some ((0 : Int32), M13) else zlet (M13 (t + 6) 3) fun (x14 : Int32) => zlet (fun (M15 : ZI) => ((f78_skip t (59 : Int32) M15).bind fun (v16, M17) => (if v16 = 0 then some ((0 : Int32), M17) else (f80_add (t + 5) x8 x11 x14 M17).bind fun M18 => f69_l21 t n (x3 + (1 : Int32)) M18) : Option (Int32 × ZI))) fun j19 =>
  (if (M13 t 7) = (259 : Int32) then (f68_forward t M13).bind fun M20 => (f76_readAny zgf t (t + 6) (0 : Int32) (0 : Int32) M20).bind fun (v21, M22) => (if v21 = 0 then some ((0 : Int32), M22) else j19 M22) else j19 M13)) else (f70_refuse t (3 : Int32) M9).bind fun (v23, M24) => if zbl v23 = true then some (v23, M24) else none) : Option (Int32 × ZI))) fun j25 =>
  (if x8 = (256 : Int32) then j25 M7 else (if x8 = (257 : Int32) then j25 M7 else (if x8 = (258 : Int32) then j25 M7 else (f70_refuse t (1 : Int32) M7).bind fun (v26, M27) => if zbl v26 = true then some (v26, M27) else none)))) else some ((1 : Int32), M7))

def f69_readLaw (t : Nat) (M : ZI) : Option (Int32 × ZI) :=
  zlet (zs M (t + 5) 5 (0 : Int32)) fun (M1 : ZI) => zlet (zs M1 (t + 6) 3 (0 : Int32)) fun (M2 : ZI) => f69_l21 t zfu (0 : Int32) M2

def f82_copy (t : Nat) (a1 : Nat) (M : ZI) : Option ZI :=
  zlet (zc M (t + 1) (a1 + 1) 0 0 400) fun (M1 : ZI) => zlet (zc M1 (t + 2) (a1 + 2) 0 0 400) fun (M2 : ZI) => zlet (zs M2 t 3 (M2 a1 3)) fun (M3 : ZI) => some M3

def f81_copy (t : Nat) (a1 : Nat) (M : ZI) : Option ZI :=
  (f82_copy (t + 1) (a1 + 1) M).bind fun M1 => zlet (zc M1 (t + 5) (a1 + 5) 0 0 16) fun (M2 : ZI) => zlet (zc M2 (t + 6) (a1 + 6) 0 0 16) fun (M3 : ZI) => zlet (zc M3 (t + 7) (a1 + 7) 0 0 16) fun (M4 : ZI) => zlet (zc M4 (t + 8) (a1 + 8) 0 0 16) fun (M5 : ZI) => zlet (zs M5 t 5 (M5 a1 5)) fun (M6 : ZI) => some M6

def f83_l2 (t : Nat) : Nat → Int32 → ZI → Option (ZI)
  | 0, _, _ => none
  | n + 1, x1, M2 =>
  (if x1 < (10 : Int32) then if zin x1 10 = true then zlet (zs M2 (t + 14) (zi x1) (-1 : Int32)) fun (M3 : ZI) => f83_l2 t n (x1 + (1 : Int32)) M3 else none else some M2)

def f83_l23 (t : Nat) : Nat → Int32 → ZI → Option (Int32 × ZI)
  | 0, _, _ => none
  | n + 1, x6, M8 =>
  (if x6 < (400 : Int32) then (if (M8 t 7) = (-1 : Int32) then some ((1 : Int32), M8) else (f75_isNumber t (0 : Int32) ((M8 t 9) - (1 : Int32)) M8).bind fun (v9, M10) => (if v9 = 0 then some ((0 : Int32), M10) else zlet (M10 t 8) fun (x11 : Int32) => zlet (fun (M12 : ZI) => ((f70_refuse t (2 : Int32) M12).bind fun (v14, M15) => if zbl v14 = true then some (v14, M15) else none : Option (Int32 × ZI))) fun j16 =>
  (if x11 < (10 : Int32) then if zin x11 10 = true then (if (M10 (t + 14) (zi x11)) = (-1 : Int32) then (f68_forward t M10).bind fun M17 => (f78_skip t (272 : Int32) M17).bind fun (v18, M19) => (if v18 = 0 then some ((0 : Int32), M19) else (f75_isNumber t (0 : Int32) ((M19 t 9) - (1 : Int32)) M19).bind fun (v20, M21) => (if v20 = 0 then some ((0 : Int32), M21) else (if (M21 t 8) = x11 then (f70_refuse t (2 : Int32) M21).bind fun (v26, M27) => if zbl v26 = true then some (v26, M27) else none else if zin x11 10 = true then zlet (zs M21 (t + 14) (zi x11) (M21 t 8)) fun (M22 : ZI) => (f68_forward t M22).bind fun M23 => (f78_skip t (59 : Int32) M23).bind fun (v24, M25) => (if v24 = 0 then some ((0 : Int32), M25) else f83_l23 t n (x6 + (1 : Int32)) M25) else none))) else j16 M10) else none else j16 M10))) else some ((1 : Int32), M8))

def f83_readVoices (t : Nat) (M : ZI) : Option (Int32 × ZI) :=
  (f83_l2 t zfu (0 : Int32) M).bind fun M4 =>
  f83_l23 t zfu (0 : Int32) M4

def f84_l4 (t : Nat) (M : ZI) : Nat → Int32 → Int32 → Option (Int32)
  | 0, _, _ => none
  | n + 1, x1, x2 =>
  (if x2 < (M t 11) then if zin x2 10 = true then (if (M (t + 38) (zi x2)) = (-1 : Int32) then zlet (x1 + (0 : Int32)) fun (x4 : Int32) => f84_l4 t M n x4 (x2 + (1 : Int32)) else zlet (x1 + (1 : Int32)) fun (x3 : Int32) => f84_l4 t M n x3 (x2 + (1 : Int32))) else none else some x1)

def f84_voices (t : Nat) (M : ZI) : Option Int32 :=
  (f84_l4 t M zfu (0 : Int32) (0 : Int32)).bind fun x5 =>
  some x5

def f86_readEntry (t : Nat) (a1 : Int32) (a2 : Nat) (a3 : Int32) (a4 : Int32) (M : ZI) : Option (Int32 × ZI) :=
  (f78_skip t a1 M).bind fun (v1, M2) => (if v1 = 0 then some ((0 : Int32), M2) else (f75_isNumber t a3 a4 M2).bind fun (v3, M4) => (if v3 = 0 then some ((0 : Int32), M4) else ((if (M4 (t + 15) 6) < (Int32.ofNat (zal a2)) then if zin (M4 (t + 15) 6) (zal a2) = true then zlet (zs M4 a2 (zi (M4 (t + 15) 6)) (M4 t 8)) fun (M5 : ZI) => some M5 else none else some M4) : Option (ZI)).bind fun M6 =>
  (f68_forward t M6).bind fun M7 => some ((1 : Int32), M7)))

def f87_readAfter (t : Nat) (M : ZI) : Option (Int32 × ZI) :=
  zlet (M (t + 15) 6) fun (x1 : Int32) => if zin x1 12 = true then zlet (zs M (t + 21) (zi x1) (-1 : Int32)) fun (M2 : ZI) => (if (M2 t 7) = (278 : Int32) then (f68_forward t M2).bind fun M3 => (f75_isNumber t (0 : Int32) (x1 - (1 : Int32)) M3).bind fun (v4, M5) => (if v4 = 0 then some ((0 : Int32), M5) else if zin (M5 t 8) 12 = true then if zin x1 12 = true then (if (M5 (t + 16) (zi (M5 t 8))) = (M5 (t + 16) (zi x1)) then if zin x1 12 = true then zlet (zs M5 (t + 21) (zi x1) (M5 t 8)) fun (M6 : ZI) => (f68_forward t M6).bind fun M7 => some ((1 : Int32), M7) else none else (f70_refuse t (2 : Int32) M5).bind fun (v8, M9) => if zbl v8 = true then some (v8, M9) else none) else none else none) else some ((1 : Int32), M2)) else none

def f85_l10 (t : Nat) : Nat → Int32 → ZI → Option (Int32 × ZI)
  | 0, _, _ => none
  | n + 1, x2, M4 =>
  (if x2 < (400 : Int32) then (if (M4 t 7) = (-1 : Int32) then some ((1 : Int32), M4) else (if (M4 t 7) = (273 : Int32) then (if (M4 (t + 15) 6) < (12 : Int32) then (f86_readEntry t (273 : Int32) (t + 16) (0 : Int32) ((M4 t 9) - (1 : Int32)) M4).bind fun (v5, M6) => ((if v5 = 0 then some ((0 : Int32), M6) else (f86_readEntry t (274 : Int32) (t + 17) (1 : Int32) (24 : Int32) M6).bind fun (v7, M8) => (if v7 = 0 then some ((0 : Int32), M8) else (f86_readEntry t (275 : Int32) (t + 18) (0 : Int32) (99 : Int32) M8).bind fun (v9, M10) => (if v9 = 0 then some ((0 : Int32), M10) else (f86_readEntry t (276 : Int32) (t + 19) (0 : Int32) (9 : Int32) M10).bind fun (v11, M12) => (if v11 = 0 then some ((0 : Int32), M12) else (f86_readEntry t (277 : Int32) (t + 20) (0 : Int32) (9 : Int32) M12).bind fun (v13, M14) => (if v13 = 0 then some ((0 : Int32), M14) else (f87_readAfter t M14).bind fun (v15, M16) => (if v15 = 0 then some ((0 : Int32), M16) else (f78_skip t (59 : Int32) M16).bind fun (v17, M18) => (if v17 = 0 then some ((0 : Int32), M18) else some ((1 : Int32), M18)))))))) : Option (Int32 × ZI)).bind fun (v19, M20) =>
  (if v19 = 0 then some ((0 : Int32), M20) else zlet (zs M20 (t + 15) 6 ((M20 (t + 15) 6) + (1 : Int32))) fun (M21 : ZI) => f85_l10 t n (x2 + (1 : Int32)) M21) else (f70_refuse t (3 : Int32) M4).bind fun (v22, M23) => if zbl v22 = true then some (v22, M23) else none) else (f70_refuse t (1 : Int32) M4).bind fun (v24, M25) => if zbl v24 = true then some (v24, M25) else none)) else some ((1 : Int32), M4))

def f85_readWorks (t : Nat) (M : ZI) : Option (Int32 × ZI) :=
  zlet (zs M (t + 15) 6 (0 : Int32)) fun (M1 : ZI) => f85_l10 t zfu (0 : Int32) M1

def f88_copy (t : Nat) (a1 : Nat) (M : ZI) : Option ZI :=
  zlet (zc M (t + 1) (a1 + 1) 0 0 12) fun (M1 : ZI) => zlet (zc M1 (t + 2) (a1 + 2) 0 0 12) fun (M2 : ZI) => zlet (zc M2 (t + 3) (a1 + 3) 0 0 12) fun (M3 : ZI) => zlet (zc M3 (t + 4) (a1 + 4) 0 0 12) fun (M4 : ZI) => zlet (zc M4 (t + 5) (a1 + 5) 0 0 12) fun (M5 : ZI) => zlet (zc M5 (t + 6) (a1 + 6) 0 0 12) fun (M6 : ZI) => zlet (zs M6 t 6 (M6 a1 6)) fun (M7 : ZI) => some M7

def f89_readCouncil (t : Nat) (M : ZI) : Option (Int32 × ZI) :=
  zlet (zs M (t + 23) 1 (0 : Int32)) fun (M1 : ZI) => zlet (zs M1 (t + 24) 3 (0 : Int32)) fun (M2 : ZI) => (if (M2 t 7) = (-1 : Int32) then some ((1 : Int32), M2) else (f76_readAny zgf t (t + 24) (1 : Int32) (0 : Int32) M2).bind fun (v3, M4) => (if v3 = 0 then some ((0 : Int32), M4) else (f78_skip t (-1 : Int32) M4).bind fun (v5, M6) => (if v5 = 0 then some ((0 : Int32), M6) else some ((1 : Int32), M6))))

def f90_copy (t : Nat) (a1 : Nat) (M : ZI) : Option ZI :=
  (f82_copy (t + 1) (a1 + 1) M).bind fun M1 => zlet (zs M1 t 1 (M1 a1 1)) fun (M2 : ZI) => some M2

def f52_text (a1 : Int32) (M : ZI) : Option (Int32 × ZI) :=
  (f53_begin 119 (M 1 11) M).bind fun M1 => (if a1 = (0 : Int32) then (f69_readLaw 119 M1).bind fun (v2, M3) => (if v2 = 0 then some ((-1 : Int32), M3) else (f81_copy 12 124 M3).bind fun M4 => some ((M4 12 5), M4)) else if a1 = (1 : Int32) then (f83_readVoices 119 M1).bind fun (v5, M6) => (if v5 = 0 then some ((-1 : Int32), M6) else (f11_forgetPasts M6).bind fun M7 => zlet (zc M7 39 133 0 0 10) fun (M8 : ZI) => (f84_voices 1 M8).bind fun v9 => some (v9, M8)) else if a1 = (2 : Int32) then (f85_readWorks 119 M1).bind fun (v10, M11) => (if v10 = 0 then some ((-1 : Int32), M11) else (f11_forgetPasts M11).bind fun M12 => (f88_copy 21 134 M12).bind fun M13 => zlet (zs M13 2 8 (0 : Int32)) fun (M14 : ZI) => some ((M14 21 6), M14)) else if a1 = (3 : Int32) then (f89_readCouncil 119 M1).bind fun (v15, M16) => (if v15 = 0 then some ((-1 : Int32), M16) else (f90_copy 29 142 M16).bind fun M17 => some ((M17 29 1), M17)) else some ((-1 : Int32), M1))

def f91_fault (a1 : Int32) (M : ZI) : Option Int32 :=
  (if a1 = 0 then some (M 119 10) else (if a1 = (1 : Int32) then some (M 119 11) else some (-1 : Int32)))

def f93_l4 (a1 : Int32) : Nat → Int32 → Int32 → ZI → Option (Int32 × ZI)
  | 0, _, _, _ => none
  | n + 1, x1, x2, M3 =>
  (if x2 < (M3 1 11) then if zin x2 10 = true then (if (M3 39 (zi x2)) = a1 then (f27_asks 1 2 (256 : Int32) x2 (0 : Int32) M3).bind fun (v4, M5) => zlet (x1 + v4) fun (x6 : Int32) => f93_l4 a1 n x6 (x2 + (1 : Int32)) M5 else f93_l4 a1 n x1 (x2 + (1 : Int32)) M3) else none else some (x1, M3))

def f93_weightsNaming (a1 : Int32) (M : ZI) : Option (Int32 × ZI) :=
  (f93_l4 a1 zfu (0 : Int32) (0 : Int32) M).bind fun (x7, M8) =>
  some (x7, M8)

def f92_of (a1 : Int32) (a2 : Int32) (M : ZI) : Option (Int32 × ZI) :=
  (f17_has 1 a1 M).bind fun v1 => (if v1 = 0 then some ((-2 : Int32), M) else (if a2 = (0 : Int32) then if zin a1 10 = true then some ((M 3 (zi a1)), M) else none else if a2 = (1 : Int32) then if zin a1 10 = true then some ((M 37 (zi a1)), M) else none else if a2 = (2 : Int32) then if zin a1 10 = true then some ((M 38 (zi a1)), M) else none else if a2 = (3 : Int32) then if zin a1 10 = true then some ((M 4 (zi a1)), M) else none else if a2 = (4 : Int32) then if zin a1 10 = true then some ((M 5 (zi a1)), M) else none else if a2 = (5 : Int32) then if zin a1 10 = true then some ((M 39 (zi a1)), M) else none else if a2 = (6 : Int32) then if zin a1 10 = true then some ((M 6 (zi a1)), M) else none else if a2 = (7 : Int32) then (f27_asks 1 2 (256 : Int32) a1 (0 : Int32) M).bind fun (v2, M3) => some (v2, M3) else if a2 = (8 : Int32) then (f93_weightsNaming a1 M).bind fun (v4, M5) => some (v4, M5) else some ((-2 : Int32), M)))

def f94_after (a1 : Int32) (a2 : Int32) (a3 : Int32) (M : ZI) : Option (Int32 × ZI) :=
  (f17_has 1 a1 M).bind fun v1 => (if v1 = 0 then some ((-1 : Int32), M) else (f13_within a2 (0 : Int32) (24 : Int32)).bind fun v2 => (if v2 = 0 then some ((-1 : Int32), M) else ((if a3 = 0 then some (257 : Int32) else some (258 : Int32)) : Option (Int32)).bind fun v3 =>
  (f27_asks 1 2 v3 a1 a2 M).bind fun (v4, M5) => some (v4, M5)))

def f95_work (a1 : Int32) (a2 : Int32) (M : ZI) : Option Int32 :=
  (f13_within a1 (0 : Int32) ((M 21 6) - (1 : Int32))).bind fun v1 => (if v1 = 0 then some (-2 : Int32) else (if a2 = (0 : Int32) then if zin a1 12 = true then some (M 22 (zi a1)) else none else if a2 = (1 : Int32) then if zin a1 12 = true then some (M 23 (zi a1)) else none else if a2 = (2 : Int32) then if zin a1 12 = true then some (M 24 (zi a1)) else none else if a2 = (3 : Int32) then if zin a1 12 = true then some (M 25 (zi a1)) else none else if a2 = (4 : Int32) then if zin a1 12 = true then some (M 26 (zi a1)) else none else if a2 = (5 : Int32) then if zin a1 12 = true then some (M 27 (zi a1)) else none else if a2 = (6 : Int32) then (f19_isIn (M 2 8) a1).bind fun v2 => (if v2 = 0 then some (0 : Int32) else some (1 : Int32)) else some (-2 : Int32)))

def f96_book (a1 : Int32) (a2 : Int32) (M : ZI) : Option Int32 :=
  (f13_within a1 (0 : Int32) ((M 2 10) - (1 : Int32))).bind fun v1 => (if v1 = 0 then some (-2 : Int32) else (if a2 = (0 : Int32) then if zin a1 150 = true then some (M 8 (zi a1)) else none else if a2 = (1 : Int32) then if zin a1 150 = true then some (M 9 (zi a1)) else none else if a2 = (2 : Int32) then if zin a1 150 = true then some (M 10 (zi a1)) else none else if a2 = (3 : Int32) then if zin a1 150 = true then some (M 11 (zi a1)) else none else some (-2 : Int32)))

def f98_everyone (t : Nat) (M : ZI) : Option Int32 :=
  some ((zshl (1 : Int32) (M t 11)) - (1 : Int32))

def f97_does (a1 : Int32) (M : ZI) : Option (Int32 × ZI) :=
  (f98_everyone 1 M).bind fun v1 => (f37_isMetBy 29 (a1 &&& v1) M).bind fun (v2, M3) => if zbl v2 = true then some (v2, M3) else none

def f99_plan (a1 : Int32) (a2 : Int32) (a3 : Int32) (M : ZI) : Option Int32 :=
  (f17_has 1 a1 M).bind fun v1 => (if v1 = 0 then some (-1 : Int32) else (f13_within a2 (0 : Int32) (24 : Int32)).bind fun v2 => (if v2 = 0 then some (-1 : Int32) else (f13_within a3 (0 : Int32) (2 : Int32)).bind fun v3 => (if v3 = 0 then some (-1 : Int32) else (f40_bestSet 21 a1 a2 (M 2 8) M).bind fun v4 => (if a3 = (2 : Int32) then some v4 else (if a3 = 0 then (f42_sum 21 v4 24 M).bind fun v6 => some v6 else (f42_sum 21 v4 23 M).bind fun v5 => some v5)))))

def f100_l44 (a1 : Int32) : Nat → Int32 → Int32 → Int32 → ZI → Option (Int32 × Int32 × ZI)
  | 0, _, _, _, _ => none
  | n + 1, x4, x5, x6, M7 =>
  (if x6 < a1 then (f25_pass 1 114 (0 : Int32) M7).bind fun (v8, M9) => (if v8 = (-2 : Int32) then f100_l44 a1 n v8 (x5 + (1 : Int32)) (x6 + (1 : Int32)) M9 else f100_l44 a1 n v8 x5 (x6 + (1 : Int32)) M9) else some (x4, x5, M7))

def f100_given (a1 : Int32) (a2 : Int32) (M : ZI) : Option (Int32 × ZI) :=
  (f13_within a1 (1 : Int32) (40 : Int32)).bind fun v1 => (if v1 = 0 then some ((-2 : Int32), M) else (f13_within a2 (0 : Int32) (2 : Int32)).bind fun v2 => (if v2 = 0 then some ((-2 : Int32), M) else (f21_copy 114 2 M).bind fun M3 => (f100_l44 a1 zfu (-1 : Int32) (0 : Int32) (0 : Int32) M3).bind fun (x10, x11, M12) =>
  (if a2 = 0 then some ((zmax x10 (-1 : Int32)), M12) else (if a2 = (1 : Int32) then some (x11, M12) else some (((M12 114 7) - (M12 2 7)), M12)))))

def f101_l31 (a1 : Int32) : Nat → Int32 → Int32 → ZI → Option (Int32 × ZI)
  | 0, _, _, _ => none
  | n + 1, x3, x4, M6 =>
  (if x4 < (M6 1 11) then ((if x4 = a1 then some ((-1 : Int32), M6) else (f36_elect 1 a1 x4 M6).bind fun (v7, M8) => some (v7, M8)) : Option (Int32 × ZI)).bind fun (v9, M10) =>
  (if v9 < 0 then f101_l31 a1 n x3 (x4 + (1 : Int32)) M10 else zlet (x3 ||| (zshl (1 : Int32) v9)) fun (x11 : Int32) => f101_l31 a1 n x11 (x4 + (1 : Int32)) M10) else some (x3, M6))

def f101_can (a1 : Int32) (M : ZI) : Option (Int32 × ZI) :=
  (f17_has 1 a1 M).bind fun v1 => (if v1 = 0 then some ((-1 : Int32), M) else (f26_weigh 1 2 M).bind fun M2 => (f101_l31 a1 zfu (0 : Int32) (-1 : Int32) M2).bind fun (x12, M13) =>
  some (x12, M13))

def f103_l10 (v1 : Int32) : Nat → Int32 → ZI → Option (ZI)
  | 0, _, _ => none
  | n + 1, x2, M3 =>
  (if v1 < x2 then some M3 else (if x2 < (1024 : Int32) then (f37_isMetBy 29 x2 M3).bind fun (v4, M5) => if zin x2 1024 = true then zlet (zs M5 147 (zi x2) (zbo v4)) fun (M6 : ZI) => f103_l10 v1 n (x2 + (1 : Int32)) M6 else none else some M3))

def f103_fillDoing (M : ZI) : Option ZI :=
  (f98_everyone 1 M).bind fun v1 => (f103_l10 v1 zfu (0 : Int32) M).bind fun M7 =>
  some M7

def f102_l40 (a1 : Int32) (M3 : ZI) (v4 : Int32) : Nat → Int32 → Int32 → Option (Int32)
  | 0, _, _ => none
  | n + 1, x5, x6 =>
  (if v4 < x6 then some x5 else (if x6 < (1024 : Int32) then if zin x6 1024 = true then (if (M3 147 (zi x6)) = 0 then f102_l40 a1 M3 v4 n x5 (x6 + (1 : Int32)) else (f19_isIn x6 a1).bind fun v7 => (if v7 = 0 then (if x5 = (-1 : Int32) then f102_l40 a1 M3 v4 n x6 (x6 + (1 : Int32)) else (f28_bitCount x6).bind fun v8 => (f28_bitCount x5).bind fun v9 => (if v8 < v9 then f102_l40 a1 M3 v4 n x6 (x6 + (1 : Int32)) else f102_l40 a1 M3 v4 n x5 (x6 + (1 : Int32)))) else f102_l40 a1 M3 v4 n x5 (x6 + (1 : Int32)))) else none else some x5))

def f102_fewest (a1 : Int32) (a2 : Int32) (M : ZI) : Option (Int32 × ZI) :=
  (f17_has 1 a1 M).bind fun v1 => (if v1 = 0 then some ((-1 : Int32), M) else (f13_within a2 (0 : Int32) (1 : Int32)).bind fun v2 => (if v2 = 0 then some ((-1 : Int32), M) else (f103_fillDoing M).bind fun M3 => (f98_everyone 1 M3).bind fun v4 => (f102_l40 a1 M3 v4 zfu (-1 : Int32) (0 : Int32)).bind fun x10 =>
  (if x10 = (-1 : Int32) then some ((-1 : Int32), M3) else (if a2 = 0 then (f28_bitCount x10).bind fun v12 => some (v12, M3) else some (x10, M3)))))

def f104_l30 (a1 : Int32) (M2 : ZI) (v3 : Int32) : Nat → Int32 → Int32 → Option (Int32)
  | 0, _, _ => none
  | n + 1, x4, x5 =>
  (if v3 < x5 then some x4 else (if x5 < (1024 : Int32) then (f19_isIn x5 a1).bind fun v6 => (if v6 = 0 then f104_l30 a1 M2 v3 n x4 (x5 + (1 : Int32)) else if zin x5 1024 = true then (if (M2 147 (zi x5)) = 0 then f104_l30 a1 M2 v3 n x4 (x5 + (1 : Int32)) else if zin (x5 ^^^ (zshl (1 : Int32) a1)) 1024 = true then (if (M2 147 (zi (x5 ^^^ (zshl (1 : Int32) a1)))) = 0 then f104_l30 a1 M2 v3 n (x4 + (1 : Int32)) (x5 + (1 : Int32)) else f104_l30 a1 M2 v3 n x4 (x5 + (1 : Int32))) else none) else none) else some x4))

def f104_hinge (a1 : Int32) (M : ZI) : Option (Int32 × ZI) :=
  (f17_has 1 a1 M).bind fun v1 => (if v1 = 0 then some ((-1 : Int32), M) else (f103_fillDoing M).bind fun M2 => (f98_everyone 1 M2).bind fun v3 => (f104_l30 a1 M2 v3 zfu (0 : Int32) (0 : Int32)).bind fun x7 =>
  some (x7, M2))

def f106_l18 (M : ZI) (x1 : Int32) (x2 : Int32) : Nat → Int32 → Int32 → Option (Int32)
  | 0, _, _ => none
  | n + 1, x5, x6 =>
  (if x6 < (M 1 11) then (f19_isIn x1 x6).bind fun v7 => (if v7 = 0 then if zin x6 10 = true then (if (M 38 (zi x6)) < ((M 2 5) + x2) then f106_l18 M x1 x2 n x5 (x6 + (1 : Int32)) else (if x5 = (-1 : Int32) then f106_l18 M x1 x2 n x6 (x6 + (1 : Int32)) else if zin x6 10 = true then if zin x5 10 = true then (if (M 38 (zi x6)) < (M 38 (zi x5)) then f106_l18 M x1 x2 n x6 (x6 + (1 : Int32)) else f106_l18 M x1 x2 n x5 (x6 + (1 : Int32))) else none else none)) else none else f106_l18 M x1 x2 n x5 (x6 + (1 : Int32))) else some x5)

def f106_l6 (a2 : Int32) (M : ZI) : Nat → Int32 → Int32 → Option (Int32)
  | 0, _, _ => none
  | n + 1, x1, x2 =>
  (if x2 < a2 then (f106_l18 M x1 x2 zfu (-1 : Int32) (0 : Int32)).bind fun x8 =>
  (if x8 < 0 then f106_l6 a2 M n x1 (x2 + (1 : Int32)) else zlet (x1 ||| (zshl (1 : Int32) x8)) fun (x10 : Int32) => f106_l6 a2 M n x10 (x2 + (1 : Int32))) else some x1)

def f106_mostTurns (a1 : Int32) (a2 : Int32) (a3 : Int32) (M : ZI) : Option Int32 :=
  (f106_l6 a2 M zfu a3 a1).bind fun x11 =>
  (f28_bitCount x11).bind fun v15 => (f28_bitCount a3).bind fun v16 => some (v15 - v16)

def f107_l12 (a1 : Int32) (a2 : Int32) (a3 : Int32) (M : ZI) (v1 : Int32) : Nat → Int32 → Option Int32
  | 0, _ => none
  | n + 1, x2 =>
  (if x2 < (M 1 11) then (f19_isIn a3 x2).bind fun v3 => (if v3 = 0 then if zin x2 10 = true then (if (M 38 (zi x2)) < ((M 2 5) + a1) then f107_l12 a1 a2 a3 M v1 n (x2 + (1 : Int32)) else (f106_mostTurns (a1 + (1 : Int32)) a2 (a3 ||| (zshl (1 : Int32) x2)) M).bind fun v4 => (if ((1 : Int32) + v4) = v1 then some x2 else f107_l12 a1 a2 a3 M v1 n (x2 + (1 : Int32)))) else none else f107_l12 a1 a2 a3 M v1 n (x2 + (1 : Int32))) else some (-1 : Int32))

def f107_firstInTurn (a1 : Int32) (a2 : Int32) (a3 : Int32) (M : ZI) : Option Int32 :=
  (f106_mostTurns a1 a2 a3 M).bind fun v1 => f107_l12 a1 a2 a3 M v1 zfu (0 : Int32)

def f105_l51 (a1 : Int32) (a2 : Int32) (M : ZI) : Nat → Int32 → Int32 → Int32 → Option (Int32)
  | 0, _, _, _ => none
  | n + 1, x3, x4, x5 =>
  (if (a2 - (10 : Int32)) < x5 then some x3 else (f107_firstInTurn x5 a1 x4 M).bind fun v6 => (if v6 < 0 then f105_l51 a1 a2 M n v6 x4 (x5 + (1 : Int32)) else zlet (x4 ||| (zshl (1 : Int32) v6)) fun (x7 : Int32) => f105_l51 a1 a2 M n v6 x7 (x5 + (1 : Int32))))

def f105_turnsOf (a1 : Int32) (a2 : Int32) (M : ZI) : Option Int32 :=
  (f13_within a1 (1 : Int32) (10 : Int32)).bind fun v1 => (if v1 = 0 then some (-2 : Int32) else (if a2 = 0 then (f106_mostTurns (0 : Int32) a1 (0 : Int32) M).bind fun v11 => some v11 else (f13_within a2 (10 : Int32) (((10 : Int32) + a1) - (1 : Int32))).bind fun v2 => (if v2 = 0 then some (-2 : Int32) else (f105_l51 a1 a2 M zfu (-1 : Int32) (0 : Int32) (0 : Int32)).bind fun x8 =>
  some x8)))

def f108_traces (a1 : Int32) (a2 : Int32) (M : ZI) : Option (Int32 × ZI) :=
  (f13_within a1 (0 : Int32) (200 : Int32)).bind fun v1 => (if v1 = 0 then some ((0 : Int32), M) else (f13_within a2 (0 : Int32) (200 : Int32)).bind fun v2 => (if v2 = 0 then some ((0 : Int32), M) else (f11_forgetPasts M).bind fun M3 => zlet (zs M3 1 14 a1) fun (M4 : ZI) => zlet (zs M4 1 15 a2) fun (M5 : ZI) => some ((1 : Int32), M5)))

def f112_l24 (t : Nat) (a1 : Int32) : Nat → Int32 → ZI → Option (ZI)
  | 0, _, _ => none
  | n + 1, x4, M5 =>
  (if x4 < (M5 t 6) then (f19_isIn a1 x4).bind fun v6 => (if v6 = 0 then f112_l24 t a1 n (x4 + (1 : Int32)) M5 else if zin x4 12 = true then if zin x4 12 = true then zlet (zs M5 (t + 7) (zi x4) ((M5 (t + 7) (zi x4)) + (1 : Int32))) fun (M7 : ZI) => f112_l24 t a1 n (x4 + (1 : Int32)) M7 else none else none) else some M5)

def f112_countFit (t : Nat) (a1 : Int32) (M : ZI) : Option ZI :=
  ((if (M t 8) = 0 then zlet (zs M t 9 a1) fun (M1 : ZI) => some M1 else some M) : Option (ZI)).bind fun M2 =>
  zlet (zs M2 t 8 ((M2 t 8) + (1 : Int32))) fun (M3 : ZI) => (f112_l24 t a1 zfu (0 : Int32) M3).bind fun M8 =>
  some M8

def f111_l22 (t : Nat) : Nat → Int32 → ZI → Option (ZI)
  | 0, _, _ => none
  | n + 1, x4, M5 =>
  (if x4 < (12 : Int32) then if zin x4 12 = true then zlet (zs M5 (t + 7) (zi x4) (0 : Int32)) fun (M6 : ZI) => f111_l22 t n (x4 + (1 : Int32)) M6 else none else some M5)

def f111_l49 (t : Nat) (a2 : Int32) (a3 : Int32) (a4 : Int32) (v1 : Int32) : Nat → Int32 → Int32 → ZI → Option (ZI)
  | 0, _, _, _ => none
  | n + 1, x9, x10, M11 =>
  (if x10 < (4096 : Int32) then (f42_sum t x9 (t + 4) M11).bind fun v12 => ((if v12 = a3 then (f42_sum t x9 (t + 5) M11).bind fun v13 => (if v13 = a4 then (f42_sum t x9 (t + 2) M11).bind fun v14 => (if (24 : Int32) < v14 then some M11 else (f43_isWhole t x9 a2 M11).bind fun v15 => (if v15 = 0 then some M11 else (f112_countFit t x9 M11).bind fun M16 => some M16)) else some M11) else some M11) : Option (ZI)).bind fun M17 =>
  zlet ((x9 - v1) &&& v1) fun (x18 : Int32) => (if x18 = 0 then some M17 else f111_l49 t a2 a3 a4 v1 n x18 (x10 + (1 : Int32)) M17) else some M11)

def f111_countFits (t : Nat) (a1 : Int32) (a2 : Int32) (a3 : Int32) (a4 : Int32) (M : ZI) : Option ZI :=
  (f41_ownedBy t a1 (24 : Int32) M).bind fun v1 => zlet (zs M t 8 (0 : Int32)) fun (M2 : ZI) => zlet (zs M2 t 9 (-1 : Int32)) fun (M3 : ZI) => (f111_l22 t zfu (0 : Int32) M3).bind fun M7 =>
  (f111_l49 t a2 a3 a4 v1 zfu (0 : Int32) (0 : Int32) M7).bind fun M19 =>
  some M19

def f110_countFits (t : Nat) (a1 : Int32) (M : ZI) : Option ZI :=
  (f111_countFits (t + 20) a1 (M (t + 1) 8) (M t 14) (M t 15) M).bind fun M1 => some M1

def f109_fits (a1 : Int32) (a2 : Int32) (M : ZI) : Option (Int32 × ZI) :=
  (f17_has 1 a1 M).bind fun v1 => (if v1 = 0 then some ((-1 : Int32), M) else (f13_within a2 (0 : Int32) (1 : Int32)).bind fun v2 => (if v2 = 0 then some ((-1 : Int32), M) else (f110_countFits 1 a1 M).bind fun M3 => (if a2 = 0 then some ((M3 21 8), M3) else some ((M3 21 9), M3))))

def f114_l17 (t : Nat) (a1 : Int32) (M : ZI) : Nat → Int32 → Int32 → Int32 → Option (Int32)
  | 0, _, _, _ => none
  | n + 1, x1, x2, x3 =>
  (if x3 < (M t 6) then if zin x3 12 = true then if zin x3 12 = true then zlet (zmax (M (t + 7) (zi x3)) ((M t 8) - (M (t + 7) (zi x3)))) fun (x5 : Int32) => if zin x3 12 = true then (if (M (t + 1) (zi x3)) = a1 then zlet (fun (x6 : Int32) => (f114_l17 t a1 M n x6 x5 (x6 + (1 : Int32)) : Option (Int32))) fun j7 =>
  (if x1 = (-1 : Int32) then j7 x3 else (if x5 < x2 then j7 x3 else f114_l17 t a1 M n x1 x2 (x3 + (1 : Int32)))) else f114_l17 t a1 M n x1 x2 (x3 + (1 : Int32))) else none else none else none else some x1)

def f114_mostTelling (t : Nat) (a1 : Int32) (M : ZI) : Option Int32 :=
  (if (M t 8) < (2 : Int32) then some (-1 : Int32) else (f114_l17 t a1 M zfu (-1 : Int32) (0 : Int32) (0 : Int32)).bind fun x8 =>
  some x8)

def f113_lookAt (a1 : Int32) (M : ZI) : Option (Int32 × ZI) :=
  (f17_has 1 a1 M).bind fun v1 => (if v1 = 0 then some ((-1 : Int32), M) else (f110_countFits 1 a1 M).bind fun M2 => (f114_mostTelling 21 a1 M2).bind fun v3 => some (v3, M2))

def f115_share (a1 : Int32) (a2 : Int32) (a3 : Int32) (M : ZI) : Option Int32 :=
  (f13_within a1 (0 : Int32) (48 : Int32)).bind fun v1 => (if v1 = 0 then some (-1 : Int32) else (f13_within a2 (0 : Int32) (48 : Int32)).bind fun v2 => (if v2 = 0 then some (-1 : Int32) else (f13_within a3 (0 : Int32) (1 : Int32)).bind fun v3 => (if v3 = 0 then some (-1 : Int32) else (f39_hoursLeft 2 M).bind fun v4 => ((if a3 = 0 then some a1 else some a2) : Option (Int32)).bind fun v5 =>
  (if v4 < (a1 + a2) then zlet (zmin a1 (zmax (0 : Int32) (v4 - a2))) fun (x6 : Int32) => zlet (zmin a2 (zmax (0 : Int32) (v4 - a1))) fun (x7 : Int32) => ((if a3 = 0 then some x6 else some x7) : Option (Int32)).bind fun v8 =>
  some (((((2 : Int32) * v8) + v4) - x6) - x7) else some ((2 : Int32) * v5)))))

def f117_add (t : Nat) (a1 : Int32) (a2 : Int32) (M : ZI) : Option ZI :=
  (if (M t 2) < (8 : Int32) then if zin (M t 2) 8 = true then zlet (zs M (t + 1) (zi (M t 2)) a1) fun (M1 : ZI) => if zin (M1 t 2) 8 = true then zlet (zs M1 (t + 2) (zi (M1 t 2)) a2) fun (M2 : ZI) => zlet (zs M2 t 2 ((M2 t 2) + (1 : Int32))) fun (M3 : ZI) => some M3 else none else none else some M)

def f116_bid (a1 : Int32) (a2 : Int32) (M : ZI) : Option (Int32 × ZI) :=
  (if a1 = (-1 : Int32) then zlet (zs M 34 2 (0 : Int32)) fun (M4 : ZI) => some ((0 : Int32), M4) else (f17_has 1 a1 M).bind fun v1 => (if v1 = 0 then some ((-1 : Int32), M) else (f13_within a2 (0 : Int32) (9999 : Int32)).bind fun v2 => (if v2 = 0 then some ((-1 : Int32), M) else (if (M 34 2) < (8 : Int32) then (f117_add 34 a1 a2 M).bind fun M3 => some ((M3 34 2), M3) else some ((-1 : Int32), M)))))

def f120_l4 (t : Nat) (M : ZI) : Nat → Int32 → Int32 → Option (Int32)
  | 0, _, _ => none
  | n + 1, x1, x2 =>
  (if x2 < (M t 2) then if zin x2 8 = true then if zin x1 8 = true then (if (M (t + 2) (zi x1)) < (M (t + 2) (zi x2)) then f120_l4 t M n x2 (x2 + (1 : Int32)) else f120_l4 t M n x1 (x2 + (1 : Int32))) else none else none else some x1)

def f120_greatest (t : Nat) (M : ZI) : Option Int32 :=
  (f120_l4 t M zfu (0 : Int32) (1 : Int32)).bind fun x3 =>
  some x3

def f119_winner (t : Nat) (M : ZI) : Option Int32 :=
  (f120_greatest t M).bind fun v1 => if zin v1 8 = true then some (M (t + 1) (zi v1)) else none

def f121_l9 (t : Nat) (M : ZI) (v1 : Int32) : Nat → Int32 → Int32 → Option (Int32)
  | 0, _, _ => none
  | n + 1, x2, x3 =>
  (if x3 < (M t 2) then (if x3 = v1 then f121_l9 t M v1 n x2 (x3 + (1 : Int32)) else if zin x3 8 = true then zlet (zmax x2 (M (t + 2) (zi x3))) fun (x4 : Int32) => f121_l9 t M v1 n x4 (x3 + (1 : Int32)) else none) else some x2)

def f121_price (t : Nat) (M : ZI) : Option Int32 :=
  (f120_greatest t M).bind fun v1 => (f121_l9 t M v1 zfu (0 : Int32) (0 : Int32)).bind fun x5 =>
  some x5

def f118_sold (a1 : Int32) (M : ZI) : Option Int32 :=
  (if (M 34 2) = 0 then some (-1 : Int32) else (if a1 = (0 : Int32) then (f119_winner 34 M).bind fun v1 => some v1 else if a1 = (1 : Int32) then (f121_price 34 M).bind fun v2 => some v2 else some (-1 : Int32)))

def f122_rests (a1 : Int32) (M : ZI) : Option Int32 :=
  (if a1 < (1 : Int32) then some (-1 : Int32) else (if (24 : Int32) < a1 then some (-1 : Int32) else zlet ((M 1 13) - (M 2 4)) fun (x1 : Int32) => (if 0 < x1 then if a1 = 0 then none else some (((x1 + a1) - (1 : Int32)) / a1) else some (0 : Int32))))

def f123_weekday (a1 : Int32) (a2 : Int32) (a3 : Int32) (a4 : Int32) : Option Int32 :=
  (f13_within a1 (0 : Int32) (364 : Int32)).bind fun v1 => (if v1 = 0 then some (-1 : Int32) else (f13_within a2 (0 : Int32) (999 : Int32)).bind fun v2 => (if v2 = 0 then some (-1 : Int32) else (f13_within a3 (0 : Int32) (1 : Int32)).bind fun v3 => (if v3 = 0 then some (-1 : Int32) else (f13_within a4 (0 : Int32) (364 : Int32)).bind fun v4 => (if v4 = 0 then some (-1 : Int32) else ((if a1 < a4 then some (0 : Int32) else some a3) : Option (Int32)).bind fun v5 =>
  zlet ((a3 * a2) + v5) fun (x6 : Int32) => some (zrem ((((365 : Int32) * a2) + a1) + x6) (7 : Int32))))))

def f125_comesBefore (a1 : Int32) (a2 : Int32) (M : ZI) : Option Int32 :=
  if zin a1 10 = true then if zin a2 10 = true then (if (M 37 (zi a1)) = (M 37 (zi a2)) then if zin a1 10 = true then if zin a2 10 = true then (if (M 3 (zi a2)) < (M 3 (zi a1)) then some (1 : Int32) else some (0 : Int32)) else none else none else if zin a1 10 = true then if zin a2 10 = true then (if (M 37 (zi a2)) < (M 37 (zi a1)) then some (1 : Int32) else some (0 : Int32)) else none else none) else none else none

def f124_l4 (M : ZI) : Nat → Int32 → Int32 → Option (Int32)
  | 0, _, _ => none
  | n + 1, x1, x2 =>
  (if x2 < (M 1 11) then if zin x2 10 = true then (if (M 4 (zi x2)) = 0 then (if x1 = (-1 : Int32) then f124_l4 M n x2 (x2 + (1 : Int32)) else (f125_comesBefore x2 x1 M).bind fun v3 => (if v3 = 0 then f124_l4 M n x1 (x2 + (1 : Int32)) else f124_l4 M n x2 (x2 + (1 : Int32)))) else f124_l4 M n x1 (x2 + (1 : Int32))) else none else some x1)

def f124_next (M : ZI) : Option Int32 :=
  (f124_l4 M zfu (-1 : Int32) (0 : Int32)).bind fun x4 =>
  some x4

def f126_l18 (M : ZI) : Nat → Int32 → Int32 → Int32 → Option (Int32 × Int32)
  | 0, _, _, _ => none
  | n + 1, x2, x3, x4 =>
  (if x4 < (M 1 11) then if zin x4 10 = true then (if (M 4 (zi x4)) = 0 then if zin x4 10 = true then zlet (x2 + (M 37 (zi x4))) fun (x6 : Int32) => if zin x4 10 = true then zlet ((M 38 (zi x4)) - (M 2 5)) fun (x7 : Int32) => (if x7 < 0 then f126_l18 M n x6 x3 (x4 + (1 : Int32)) else (if x3 = (-1 : Int32) then f126_l18 M n x6 x7 (x4 + (1 : Int32)) else (if x7 < x3 then f126_l18 M n x6 x7 (x4 + (1 : Int32)) else f126_l18 M n x6 x3 (x4 + (1 : Int32))))) else none else none else f126_l18 M n x2 x3 (x4 + (1 : Int32))) else none else some (x2, x3))

def f126_due (a1 : Int32) (M : ZI) : Option Int32 :=
  (f13_within a1 (0 : Int32) (1 : Int32)).bind fun v1 => (if v1 = 0 then some (-1 : Int32) else (f126_l18 M zfu (0 : Int32) (-1 : Int32) (0 : Int32)).bind fun (x8, x9) =>
  (if a1 = 0 then some x8 else some x9))

def f128_l2 (a1 : Int32) (M : ZI) : Nat → Int32 → Option Int32
  | 0, _ => none
  | n + 1, x1 =>
  (if x1 < (M 1 11) then (f19_isIn a1 x1).bind fun v2 => (if v2 = 0 then f128_l2 a1 M n (x1 + (1 : Int32)) else if zin (a1 ^^^ (zshl (1 : Int32) x1)) 1024 = true then (if (M 147 (zi (a1 ^^^ (zshl (1 : Int32) x1)))) = 0 then f128_l2 a1 M n (x1 + (1 : Int32)) else some (0 : Int32)) else none) else some (1 : Int32))

def f128_needsEachOne (a1 : Int32) (M : ZI) : Option Int32 :=
  f128_l2 a1 M zfu (0 : Int32)

def f127_l34 (M2 : ZI) (v3 : Int32) : Nat → Int32 → Int32 → Int32 → Int32 → Option (Int32 × Int32 × Int32)
  | 0, _, _, _, _ => none
  | n + 1, x4, x5, x6, x7 =>
  (if v3 < x7 then some (x4, x5, x6) else (if x7 < (1024 : Int32) then if zin x7 1024 = true then (if (M2 147 (zi x7)) = 0 then f127_l34 M2 v3 n x4 x5 x6 (x7 + (1 : Int32)) else (f128_needsEachOne x7 M2).bind fun v8 => ((if v8 = 0 then some (0 : Int32) else some (1 : Int32)) : Option (Int32)).bind fun v9 =>
  zlet (x5 + v9) fun (x10 : Int32) => zlet (x6 &&& x7) fun (x11 : Int32) => f127_l34 M2 v3 n (x4 + (1 : Int32)) x10 x11 (x7 + (1 : Int32))) else none else some (x4, x5, x6)))

def f127_doers (a1 : Int32) (M : ZI) : Option (Int32 × ZI) :=
  (f13_within a1 (0 : Int32) (2 : Int32)).bind fun v1 => (if v1 = 0 then some ((-1 : Int32), M) else (f103_fillDoing M).bind fun M2 => (f98_everyone 1 M2).bind fun v3 => (f127_l34 M2 v3 zfu (0 : Int32) (0 : Int32) v3 (0 : Int32)).bind fun (x12, x13, x14) =>
  (if a1 = (2 : Int32) then some (x14, M2) else (if a1 = 0 then some (x12, M2) else some (x13, M2))))

def f129_l4  : Nat → Int32 → Int32 → ZI → Option (Int32 × ZI)
  | 0, _, _, _ => none
  | n + 1, x1, x2, M3 =>
  (if x2 < (M3 1 11) then (f110_countFits 1 x2 M3).bind fun M4 => (if 0 < (M4 21 8) then zlet (x1 ||| (zshl (1 : Int32) x2)) fun (x5 : Int32) => f129_l4 n x5 (x2 + (1 : Int32)) M4 else f129_l4 n x1 (x2 + (1 : Int32)) M4) else some (x1, M3))

def f129_thieves (M : ZI) : Option (Int32 × ZI) :=
  (f129_l4 zfu (0 : Int32) (0 : Int32) M).bind fun (x6, M7) =>
  some (x6, M7)

def f130_l29 (a1 : Int32) : Nat → Int32 → ZI → Option (Int32 × ZI)
  | 0, _, _ => none
  | n + 1, x3, M4 =>
  (if x3 < (40 : Int32) then (f25_pass 1 114 (0 : Int32) M4).bind fun (v5, M6) => (if v5 = a1 then some (x3, M6) else f130_l29 a1 n (x3 + (1 : Int32)) M6) else some ((-1 : Int32), M4))

def f130_soonest (a1 : Int32) (M : ZI) : Option (Int32 × ZI) :=
  (f17_has 1 a1 M).bind fun v1 => (if v1 = 0 then some ((-1 : Int32), M) else (f21_copy 114 2 M).bind fun M2 => f130_l29 a1 zfu (0 : Int32) M2)

def f132_l22 (M : ZI) : Nat → Int32 → Int32 → Int32 → Option (Int32 × Int32)
  | 0, _, _, _ => none
  | n + 1, x3, x4, x5 =>
  (if x5 < (M 1 11) then if zin x5 10 = true then zlet (zmin x3 (M 4 (zi x5))) fun (x6 : Int32) => if zin x5 10 = true then zlet (zmax x4 (M 4 (zi x5))) fun (x7 : Int32) => f132_l22 M n x6 x7 (x5 + (1 : Int32)) else none else none else some (x3, x4))

def f132_spreadOfHad (M : ZI) : Option Int32 :=
  zlet (M 4 0) fun (x1 : Int32) => zlet (M 4 0) fun (x2 : Int32) => (f132_l22 M zfu x1 x2 (1 : Int32)).bind fun (x8, x9) =>
  some (x9 - x8)

def f133_l4 (M : ZI) : Nat → Int32 → Int32 → Option (Int32)
  | 0, _, _ => none
  | n + 1, x1, x2 =>
  (if x2 < (M 1 11) then if zin x2 10 = true then (if 0 < (M 4 (zi x2)) then (if x1 = (-1 : Int32) then f133_l4 M n x2 (x2 + (1 : Int32)) else if zin x2 10 = true then if zin x1 10 = true then (if (M 5 (zi x2)) < (M 5 (zi x1)) then f133_l4 M n x2 (x2 + (1 : Int32)) else f133_l4 M n x1 (x2 + (1 : Int32))) else none else none) else f133_l4 M n x1 (x2 + (1 : Int32))) else none else some x1)

def f133_latestGiven (M : ZI) : Option Int32 :=
  (f133_l4 M zfu (-1 : Int32) (0 : Int32)).bind fun x3 =>
  some x3

def f131_spread (a1 : Int32) (M : ZI) : Option Int32 :=
  (if a1 = 0 then (f132_spreadOfHad M).bind fun v2 => some v2 else (if a1 = (1 : Int32) then (f133_latestGiven M).bind fun v1 => some v1 else some (-1 : Int32)))

def f135_l4 (a1 : Int32) (M : ZI) : Nat → Int32 → Int32 → Option (Int32)
  | 0, _, _ => none
  | n + 1, x1, x2 =>
  (if x2 < (M 1 11) then (f19_isIn a1 x2).bind fun v3 => (if v3 = 0 then f135_l4 a1 M n x1 (x2 + (1 : Int32)) else if zin x2 10 = true then zlet (x1 ||| (M 6 (zi x2))) fun (x4 : Int32) => f135_l4 a1 M n x4 (x2 + (1 : Int32)) else none) else some x1)

def f135_tiedTo (a1 : Int32) (M : ZI) : Option Int32 :=
  (f135_l4 a1 M zfu (0 : Int32) (0 : Int32)).bind fun x5 =>
  some x5

def f134_l31 (a2 : Int32) (M : ZI) : Nat → Int32 → Int32 → Option Int32
  | 0, _, _ => none
  | n + 1, x4, x5 =>
  (if x5 < (10 : Int32) then (f19_isIn x4 a2).bind fun v6 => (if v6 = 0 then (f135_tiedTo x4 M).bind fun v7 => zlet (x4 ||| v7) fun (x8 : Int32) => f134_l31 a2 M n x8 (x5 + (1 : Int32)) else some x5) else some (-1 : Int32))

def f134_way (a1 : Int32) (a2 : Int32) (M : ZI) : Option Int32 :=
  (f17_has 1 a1 M).bind fun v1 => (if v1 = 0 then some (-1 : Int32) else (f17_has 1 a2 M).bind fun v2 => (if v2 = 0 then some (-1 : Int32) else zlet (zshl (1 : Int32) a1) fun (x3 : Int32) => f134_l31 a2 M zfu x3 (0 : Int32)))

def f137_l2 (a1 : Int32) (M : ZI) : Nat → Int32 → Option Int32
  | 0, _ => none
  | n + 1, x1 =>
  (if x1 < (M 1 11) then (f19_isIn a1 x1).bind fun v2 => (if v2 = 0 then f137_l2 a1 M n (x1 + (1 : Int32)) else if zin x1 10 = true then (if (a1 &&& ((M 6 (zi x1)) ^^^ (-1 : Int32))) = (zshl (1 : Int32) x1) then f137_l2 a1 M n (x1 + (1 : Int32)) else some (0 : Int32)) else none) else some (1 : Int32))

def f137_isClique (a1 : Int32) (M : ZI) : Option Int32 :=
  f137_l2 a1 M zfu (0 : Int32)

def f136_l24 (M : ZI) (v2 : Int32) : Nat → Int32 → Int32 → Option (Int32)
  | 0, _, _ => none
  | n + 1, x3, x4 =>
  (if v2 < x4 then some x3 else (if x4 < (1024 : Int32) then (f28_bitCount x4).bind fun v5 => (f28_bitCount x3).bind fun v6 => (if v6 < v5 then (f137_isClique x4 M).bind fun v7 => (if v7 = 0 then f136_l24 M v2 n x3 (x4 + (1 : Int32)) else f136_l24 M v2 n x4 (x4 + (1 : Int32))) else f136_l24 M v2 n x3 (x4 + (1 : Int32))) else some x3))

def f136_clique (a1 : Int32) (M : ZI) : Option Int32 :=
  (f13_within a1 (0 : Int32) (1 : Int32)).bind fun v1 => (if v1 = 0 then some (-1 : Int32) else (f98_everyone 1 M).bind fun v2 => (f136_l24 M v2 zfu (0 : Int32) (0 : Int32)).bind fun x8 =>
  (if a1 = 0 then (f28_bitCount x8).bind fun v10 => some v10 else some x8))

def f138_undo (M : ZI) : Option (Int32 × ZI) :=
  (if (M 0 5) = 0 then some ((0 : Int32), M) else zlet (zs M 0 5 ((M 0 5) - (1 : Int32))) fun (M1 : ZI) => if zin (zrem ((M1 0 4) + (M1 0 5)) (6 : Int32)) 6 = true then (f21_copy 2 (zpa (zrem ((M1 0 4) + (M1 0 5)) (6 : Int32))) M1).bind fun M3 => some ((1 : Int32), M3) else none)

def f141_copy (t : Nat) (a1 : Nat) (M : ZI) : Option ZI :=
  zlet (zc M (t + 1) (a1 + 1) 0 0 150) fun (M1 : ZI) => zlet (zc M1 (t + 2) (a1 + 2) 0 0 150) fun (M2 : ZI) => zlet (zc M2 (t + 3) (a1 + 3) 0 0 150) fun (M3 : ZI) => zlet (zc M3 (t + 4) (a1 + 4) 0 0 150) fun (M4 : ZI) => some M4

def f142_copy (t : Nat) (a1 : Nat) (M : ZI) : Option ZI :=
  zlet (zc M (t + 1) (a1 + 1) 0 0 8) fun (M1 : ZI) => zlet (zc M1 (t + 2) (a1 + 2) 0 0 8) fun (M2 : ZI) => zlet (zs M2 t 2 (M2 a1 2)) fun (M3 : ZI) => some M3

def f140_copy (t : Nat) (a1 : Nat) (M : ZI) : Option ZI :=
  (f21_copy (t + 1) (a1 + 1) M).bind fun M1 => (f141_copy (t + 6) (a1 + 6) M1).bind fun M2 => (f81_copy (t + 11) (a1 + 11) M2).bind fun M3 => (f88_copy (t + 20) (a1 + 20) M3).bind fun M4 => (f90_copy (t + 28) (a1 + 28) M4).bind fun M5 => (f142_copy (t + 33) (a1 + 33) M5).bind fun M6 => zlet (zc M6 (t + 36) (a1 + 36) 0 0 10) fun (M7 : ZI) => zlet (zc M7 (t + 37) (a1 + 37) 0 0 10) fun (M8 : ZI) => zlet (zc M8 (t + 38) (a1 + 38) 0 0 10) fun (M9 : ZI) => zlet (zs M9 t 11 (M9 a1 11)) fun (M10 : ZI) => zlet (zs M10 t 12 (M10 a1 12)) fun (M11 : ZI) => zlet (zs M11 t 13 (M11 a1 13)) fun (M12 : ZI) => zlet (zs M12 t 14 (M12 a1 14)) fun (M13 : ZI) => zlet (zs M13 t 15 (M13 a1 15)) fun (M14 : ZI) => some M14

def f139_image (a1 : Int32) (M : ZI) : Option (Int32 × ZI) :=
  (if a1 = 0 then (if (M 0 2) = 0 then some ((0 : Int32), M) else (f140_copy 1 42 M).bind fun M1 => (f11_forgetPasts M1).bind fun M2 => some ((1 : Int32), M2)) else (f140_copy 42 1 M).bind fun M3 => zlet (zs M3 0 2 (1 : Int32)) fun (M4 : ZI) => some ((1 : Int32), M4))

def f144_lookFurther (a1 : Int32) (M : ZI) : Option (Int32 × ZI) :=
  (if a1 = (9 : Int32) then some ((M 12 5), M) else if a1 = (10 : Int32) then (f84_voices 1 M).bind fun v1 => some (v1, M) else if a1 = (11 : Int32) then some ((M 21 6), M) else if a1 = (12 : Int32) then some ((M 29 1), M) else if a1 = (13 : Int32) then some ((M 34 2), M) else if a1 = (14 : Int32) then some ((M 0 5), M) else if a1 = (15 : Int32) then (f26_weigh 1 2 M).bind fun M2 => (f36_elect 1 (-1 : Int32) (-1 : Int32) M2).bind fun (v3, M4) => some (v3, M4) else if a1 = (16 : Int32) then some ((M 1 14), M) else if a1 = (17 : Int32) then some ((M 1 15), M) else some ((-1 : Int32), M))

def f143_look (a1 : Int32) (M : ZI) : Option (Int32 × ZI) :=
  (if a1 = (0 : Int32) then some ((M 1 11), M) else if a1 = (1 : Int32) then some ((M 2 5), M) else if a1 = (2 : Int32) then some ((M 2 4), M) else if a1 = (3 : Int32) then some ((M 1 12), M) else if a1 = (4 : Int32) then some ((M 1 13), M) else if a1 = (5 : Int32) then some ((M 2 6), M) else if a1 = (6 : Int32) then some ((M 2 7), M) else if a1 = (7 : Int32) then some ((M 2 10), M) else if a1 = (8 : Int32) then some ((M 2 9), M) else (f144_lookFurther a1 M).bind fun (v1, M2) => some (v1, M2))

def f147_forgets (M : ZI) : Option ZI :=
  zlet (zs M 148 4 (0 : Int32)) fun (M1 : ZI) => some M1

def f146_state (a1 : Int32) (M : ZI) : Option (Int32 × ZI) :=
  zlet (M 149 4) fun (x1 : Int32) => zlet (zs M 149 4 a1) fun (M2 : ZI) => (f147_forgets M2).bind fun M3 => some (x1, M3)

def f149_isIn (a0 : Int32) (a1 : Int32) (a2 : Int32) : Option Int32 :=
  (if a0 < a1 then some (0 : Int32) else (if a2 < a0 then some (0 : Int32) else some (1 : Int32)))

def f148_person (a1 : Int32) (a2 : Int32) (M : ZI) : Option (Int32 × ZI) :=
  (f149_isIn a1 (0 : Int32) (99 : Int32)).bind fun v1 => (if v1 = 0 then some ((-1 : Int32), M) else (f149_isIn a2 (0 : Int32) (24 : Int32)).bind fun v2 => (if v2 = 0 then some ((-1 : Int32), M) else (if (M 149 48) = (10 : Int32) then some ((-1 : Int32), M) else zlet (M 149 48) fun (x3 : Int32) => if zin ((17 : Int32) + x3) 2064 = true then zlet (zs M 149 (zi ((17 : Int32) + x3)) a1) fun (M4 : ZI) => if zin ((60 : Int32) + x3) 2064 = true then zlet (zs M4 149 (zi ((60 : Int32) + x3)) a2) fun (M5 : ZI) => if zin ((70 : Int32) + x3) 2064 = true then zlet (zs M5 149 (zi ((70 : Int32) + x3)) (999 : Int32)) fun (M6 : ZI) => if zin ((27 : Int32) + x3) 2064 = true then zlet (zs M6 149 (zi ((27 : Int32) + x3)) (0 : Int32)) fun (M7 : ZI) => if zin ((37 : Int32) + x3) 2064 = true then zlet (zs M7 149 (zi ((37 : Int32) + x3)) (0 : Int32)) fun (M8 : ZI) => if zin ((7 : Int32) + x3) 2064 = true then zlet (zs M8 149 (zi ((7 : Int32) + x3)) (0 : Int32)) fun (M9 : ZI) => if zin ((80 : Int32) + x3) 2064 = true then zlet (zs M9 149 (zi ((80 : Int32) + x3)) (-1 : Int32)) fun (M10 : ZI) => zlet (zs M10 149 48 ((M10 149 48) + (1 : Int32))) fun (M11 : ZI) => (f147_forgets M11).bind fun M12 => some (x3, M12) else none else none else none else none else none else none else none)))

def f152_isPerson (a1 : Int32) (M : ZI) : Option Int32 :=
  (f149_isIn a1 (0 : Int32) ((M 149 48) - (1 : Int32))).bind fun v1 => if zbl v1 = true then some v1 else none

def f151_canSet (a1 : Int32) (a2 : Int32) (a3 : Int32) (M : ZI) : Option Int32 :=
  (if a1 = (0 : Int32) then (f149_isIn a3 (0 : Int32) (24 : Int32)).bind fun v1 => if zbl v1 = true then some v1 else none else if a1 = (1 : Int32) then (f149_isIn a3 (0 : Int32) (24 : Int32)).bind fun v2 => if zbl v2 = true then some v2 else none else if a1 = (2 : Int32) then (f149_isIn a3 (1 : Int32) (24 : Int32)).bind fun v3 => if zbl v3 = true then some v3 else none else if a1 = (3 : Int32) then (f152_isPerson a2 M).bind fun v4 => (if v4 = 0 then some (0 : Int32) else (f149_isIn a3 (0 : Int32) (24 : Int32)).bind fun v5 => (if v5 = 0 then some (0 : Int32) else some (1 : Int32))) else if a1 = (4 : Int32) then (f152_isPerson a2 M).bind fun v6 => (if v6 = 0 then some (0 : Int32) else (f149_isIn a3 (0 : Int32) (999 : Int32)).bind fun v7 => (if v7 = 0 then some (0 : Int32) else some (1 : Int32))) else if a1 = (5 : Int32) then (f152_isPerson a2 M).bind fun v8 => (if v8 = 0 then some (0 : Int32) else (f149_isIn a3 (0 : Int32) (99 : Int32)).bind fun v9 => (if v9 = 0 then some (0 : Int32) else some (1 : Int32))) else some (0 : Int32))

def f153_placeOf (a0 : Int32) (a1 : Int32) : Option Int32 :=
  (if a0 = (0 : Int32) then some (1 : Int32) else if a0 = (1 : Int32) then some (49 : Int32) else if a0 = (2 : Int32) then some (50 : Int32) else if a0 = (3 : Int32) then some ((60 : Int32) + a1) else if a0 = (4 : Int32) then some ((70 : Int32) + a1) else some ((17 : Int32) + a1))

def f150_set (a1 : Int32) (a2 : Int32) (a3 : Int32) (M : ZI) : Option (Int32 × ZI) :=
  (f151_canSet a1 a2 a3 M).bind fun v1 => (if v1 = 0 then some ((0 : Int32), M) else (f153_placeOf a1 a2).bind fun v2 => if zin v2 2064 = true then zlet (zs M 149 (zi v2) a3) fun (M3 : ZI) => (f147_forgets M3).bind fun M4 => some ((1 : Int32), M4) else none)

def f154_l18 (a1 : Int32) (a2 : Int32) (a3 : Int32) (a4 : Int32) (a5 : Int32) : Nat → Int32 → ZI → Option (ZI)
  | 0, _, _ => none
  | n + 1, x1, M3 =>
  (if x1 < (20 : Int32) then ((if x1 < (4 : Int32) then some a1 else (if x1 < (8 : Int32) then some a2 else (if x1 < (12 : Int32) then some a3 else (if x1 < (16 : Int32) then some a4 else some a5)))) : Option (Int32)).bind fun v4 =>
  if zin (M3 148 19) 400 = true then zlet (zs M3 158 (zi (M3 148 19)) ((zshr v4 ((24 : Int32) - ((8 : Int32) * (zrem x1 (4 : Int32))))) &&& (255 : Int32))) fun (M5 : ZI) => zlet (zs M5 148 19 ((M5 148 19) + (1 : Int32))) fun (M6 : ZI) => f154_l18 a1 a2 a3 a4 a5 n (x1 + (1 : Int32)) M6 else none else some M3)

def f154_feed (a1 : Int32) (a2 : Int32) (a3 : Int32) (a4 : Int32) (a5 : Int32) (M : ZI) : Option (Int32 × ZI) :=
  (if (400 : Int32) < ((M 148 19) + (20 : Int32)) then some ((-1 : Int32), M) else (f154_l18 a1 a2 a3 a4 a5 zfu (0 : Int32) M).bind fun M7 =>
  some ((M7 148 19), M7))

def f155_end (a1 : Int32) (M : ZI) : Option (Int32 × ZI) :=
  (f149_isIn a1 (0 : Int32) (M 148 19)).bind fun v1 => (if v1 = 0 then some ((0 : Int32), M) else zlet (zs M 148 19 a1) fun (M2 : ZI) => some ((1 : Int32), M2))

def f158_see (a1 : Int32) (M : ZI) : Option Int32 :=
  (if a1 < (M 148 19) then if zin a1 400 = true then some (M 158 (zi a1)) else none else some (-1 : Int32))

def f159_isLetter (a0 : Int32) : Option Int32 :=
  (f149_isIn a0 (97 : Int32) (122 : Int32)).bind fun v1 => (if v1 = 0 then (f149_isIn a0 (65 : Int32) (90 : Int32)).bind fun v2 => (if v2 = 0 then some (0 : Int32) else some (1 : Int32)) else some (1 : Int32))

def f162_l24 (a1 : Nat) (M : ZI) : Nat → Int32 → Int32 → Option (Int32)
  | 0, _, _ => none
  | n + 1, x2, x3 =>
  (if x3 < (zsln a1) then (if x2 = 0 then some x2 else if zin ((M 148 22) + x3) 400 = true then if zin x3 (zsn a1) = true then (if (M 158 (zi ((M 148 22) + x3))) = (zch a1 x3) then f162_l24 a1 M n (1 : Int32) (x3 + (1 : Int32)) else f162_l24 a1 M n (0 : Int32) (x3 + (1 : Int32))) else none else none) else some x2)

def f162_is (a1 : Nat) (M : ZI) : Option Int32 :=
  ((if ((M 148 20) - (M 148 22)) = (zsln a1) then some (1 : Int32) else some (0 : Int32)) : Option (Int32)).bind fun v1 =>
  (f162_l24 a1 M zfu v1 (0 : Int32)).bind fun x4 =>
  if zbl x4 = true then some x4 else none

def f163_asked (M : ZI) : Option Int32 :=
  (f162_is 8 M).bind fun v1 => (if v1 = 0 then (f162_is 9 M).bind fun v2 => (if v2 = 0 then (f162_is 10 M).bind fun v3 => (if v3 = 0 then (f162_is 11 M).bind fun v4 => (if v4 = 0 then (f162_is 12 M).bind fun v5 => (if v5 = 0 then (f162_is 13 M).bind fun v6 => (if v6 = 0 then (f162_is 14 M).bind fun v7 => (if v7 = 0 then (f162_is 15 M).bind fun v8 => (if v8 = 0 then (f162_is 16 M).bind fun v9 => (if v9 = 0 then some (1 : Int32) else some (49 : Int32)) else some (48 : Int32)) else some (47 : Int32)) else some (46 : Int32)) else some (45 : Int32)) else some (44 : Int32)) else some (43 : Int32)) else some (42 : Int32)) else some (41 : Int32))

def f161_lawWord (M : ZI) : Option Int32 :=
  (f162_is 1 M).bind fun v1 => (if v1 = 0 then (f162_is 2 M).bind fun v2 => (if v2 = 0 then (f162_is 3 M).bind fun v3 => (if v3 = 0 then (f162_is 4 M).bind fun v4 => (if v4 = 0 then (f162_is 5 M).bind fun v5 => (if v5 = 0 then (f162_is 6 M).bind fun v6 => (if v6 = 0 then (f162_is 7 M).bind fun v7 => (if v7 = 0 then (f163_asked M).bind fun v8 => some v8 else some (22 : Int32)) else some (21 : Int32)) else some (20 : Int32)) else some (6 : Int32)) else some (5 : Int32)) else some (4 : Int32)) else some (3 : Int32))

def f164_workWord (M : ZI) : Option Int32 :=
  (f162_is 18 M).bind fun v1 => (if v1 = 0 then (f162_is 19 M).bind fun v2 => (if v2 = 0 then (f162_is 20 M).bind fun v3 => (if v3 = 0 then (f162_is 21 M).bind fun v4 => (if v4 = 0 then (f162_is 22 M).bind fun v5 => (if v5 = 0 then (f162_is 23 M).bind fun v6 => (if v6 = 0 then some (1 : Int32) else some (13 : Int32)) else some (12 : Int32)) else some (11 : Int32)) else some (10 : Int32)) else some (9 : Int32)) else some (8 : Int32))

def f165_councilWord (M : ZI) : Option Int32 :=
  (f162_is 2 M).bind fun v1 => (if v1 = 0 then (f162_is 3 M).bind fun v2 => (if v2 = 0 then (f162_is 24 M).bind fun v3 => (if v3 = 0 then some (1 : Int32) else some (14 : Int32)) else some (5 : Int32)) else some (4 : Int32))

def f160_word (M : ZI) : Option Int32 :=
  (if (M 148 14) = (0 : Int32) then (f161_lawWord M).bind fun v1 => some v1 else if (M 148 14) = (1 : Int32) then (f162_is 17 M).bind fun v2 => (if v2 = 0 then some (1 : Int32) else some (7 : Int32)) else if (M 148 14) = (2 : Int32) then (f164_workWord M).bind fun v3 => some v3 else (f165_councilWord M).bind fun v4 => some v4)

def f166_isDigit (a0 : Int32) : Option Int32 :=
  (f149_isIn a0 (48 : Int32) (57 : Int32)).bind fun v1 => if zbl v1 = true then some v1 else none

def f157_l0  : Nat → ZI → Option (ZI)
  | 0, _ => none
  | n + 1, M1 =>
  (f158_see (M1 148 20) M1).bind fun v2 => zlet (fun (_ : Unit) => (zlet (zs M1 148 20 ((M1 148 20) + (1 : Int32))) fun (M3 : ZI) => f157_l0 n M3 : Option (ZI))) fun j4 =>
  (if v2 = (32 : Int32) then j4 () else (f158_see (M1 148 20) M1).bind fun v5 => (if v5 = (10 : Int32) then j4 () else some M1))

def f157_l126  : Nat → ZI → Option (ZI)
  | 0, _ => none
  | n + 1, M16 =>
  (f158_see (M16 148 20) M16).bind fun v17 => (f166_isDigit v17).bind fun v18 => (if v18 = 0 then some M16 else ((if (M16 148 20) < ((M16 148 22) + (4 : Int32)) then (f158_see (M16 148 20) M16).bind fun v19 => zlet (zs M16 148 23 ((((10 : Int32) * (M16 148 23)) + v19) - (48 : Int32))) fun (M20 : ZI) => some M20 else some M16) : Option (ZI)).bind fun M21 =>
  zlet (zs M21 148 20 ((M21 148 20) + (1 : Int32))) fun (M22 : ZI) => f157_l126 n M22)

def f157_l76  : Nat → ZI → Option (ZI)
  | 0, _ => none
  | n + 1, M26 =>
  (f158_see (M26 148 20) M26).bind fun v27 => (f159_isLetter v27).bind fun v28 => (if v28 = 0 then some M26 else zlet (zs M26 148 20 ((M26 148 20) + (1 : Int32))) fun (M29 : ZI) => f157_l76 n M29)

def f157_next0 (M : ZI) : Option ZI :=
  (f157_l0 zfu M).bind fun M6 =>
  zlet (zs M6 148 22 (M6 148 20)) fun (M7 : ZI) => (f158_see (M7 148 20) M7).bind fun v8 => (if v8 = (-1 : Int32) then zlet (zs M7 148 21 (0 : Int32)) fun (M33 : ZI) => some M33 else (f159_isLetter v8).bind fun v9 => (if v9 = 0 then (f166_isDigit v8).bind fun v10 => (if v10 = 0 then zlet (zs M7 148 20 ((M7 148 20) + (1 : Int32))) fun (M11 : ZI) => ((if v8 = (59 : Int32) then some (1 : Int32) else (if v8 = (43 : Int32) then some (1 : Int32) else (if v8 = (45 : Int32) then some (1 : Int32) else (if v8 = (42 : Int32) then some (1 : Int32) else (if v8 = (47 : Int32) then some (1 : Int32) else (if v8 = (40 : Int32) then some (1 : Int32) else (if v8 = (41 : Int32) then some (1 : Int32) else (if v8 = (60 : Int32) then some (1 : Int32) else (if v8 = (61 : Int32) then some (1 : Int32) else (if v8 = (62 : Int32) then some (1 : Int32) else some (0 : Int32))))))))))) : Option (Int32)).bind fun v12 =>
  (if v12 = 0 then zlet (zs M11 148 21 (1 : Int32)) fun (M13 : ZI) => some M13 else zlet (zs M11 148 21 ((100 : Int32) + v8)) fun (M14 : ZI) => some M14) else zlet (zs M7 148 23 (0 : Int32)) fun (M15 : ZI) => (f157_l126 zfu M15).bind fun M23 =>
  (if ((M23 148 20) - (M23 148 22)) < (5 : Int32) then zlet (zs M23 148 21 (2 : Int32)) fun (M25 : ZI) => some M25 else zlet (zs M23 148 21 (1 : Int32)) fun (M24 : ZI) => some M24)) else (f157_l76 zfu M7).bind fun M30 =>
  (f160_word M30).bind fun v31 => zlet (zs M30 148 21 v31) fun (M32 : ZI) => some M32))

def f170_bad (a1 : Int32) (M : ZI) : Option (Int32 × ZI) :=
  zlet (zs M 148 24 a1) fun (M1 : ZI) => zlet (zs M1 148 25 (M1 148 22)) fun (M2 : ZI) => some ((0 : Int32), M2)

def f174_lay (a1 : Int32) (a2 : Int32) (M : ZI) : Option ZI :=
  if zin ((2 : Int32) * (M 148 16)) 820 = true then zlet (zs M 154 (zi ((2 : Int32) * (M 148 16))) a1) fun (M1 : ZI) => if zin (((2 : Int32) * (M1 148 16)) + (1 : Int32)) 820 = true then zlet (zs M1 154 (zi (((2 : Int32) * (M1 148 16)) + (1 : Int32))) a2) fun (M2 : ZI) => zlet (zs M2 148 16 ((M2 148 16) + (1 : Int32))) fun (M3 : ZI) => some M3 else none else none

def f173_unit (M : ZI) : Option (Int32 × ZI) :=
  (f149_isIn (M 148 21) (41 : Int32) (49 : Int32)).bind fun v1 => zlet (fun (M2 : ZI) => (((if v1 = 0 then some (0 : Int32) else some ((M2 148 21) - (40 : Int32))) : Option (Int32)).bind fun v3 =>
  (f174_lay v3 (M2 148 23) M2).bind fun M4 => (f157_next0 M4).bind fun M5 => some ((1 : Int32), M5) : Option (Int32 × ZI))) fun j6 =>
  (if (M 148 21) = (2 : Int32) then j6 M else (if v1 = 0 then (f170_bad (1 : Int32) M).bind fun (v7, M8) => if zbl v7 = true then some (v7, M8) else none else j6 M))

def f172_l9  : Nat → ZI → Option (Int32 × ZI)
  | 0, _ => none
  | n + 1, M5 =>
  zlet (fun (_ : Unit) => (((if (M5 148 21) = (147 : Int32) then some (1 : Int32) else some (0 : Int32)) : Option (Int32)).bind fun v6 =>
  (f157_next0 M5).bind fun M7 => (if v6 = 0 then (f173_unit M7).bind fun (v8, M9) => (if v8 = 0 then some ((0 : Int32), M9) else (f174_lay (25 : Int32) (0 : Int32) M9).bind fun M10 => f172_l9 n M10) else zlet (M7 148 23) fun (x11 : Int32) => (if (M7 148 21) = (2 : Int32) then (if x11 = 0 then (f170_bad (2 : Int32) M7).bind fun (v14, M15) => if zbl v14 = true then some (v14, M15) else none else (f157_next0 M7).bind fun M12 => (f174_lay (26 : Int32) x11 M12).bind fun M13 => f172_l9 n M13) else (f170_bad (1 : Int32) M7).bind fun (v16, M17) => if zbl v16 = true then some (v16, M17) else none)) : Option (Int32 × ZI))) fun j18 =>
  (if (M5 148 21) = (142 : Int32) then j18 () else (if (M5 148 21) = (147 : Int32) then j18 () else some ((1 : Int32), M5)))

def f172_product (M : ZI) : Option (Int32 × ZI) :=
  (f173_unit M).bind fun (v1, M2) => (if v1 = 0 then some ((0 : Int32), M2) else f172_l9 zfu M2)

def f171_l9  : Nat → ZI → Option (Int32 × ZI)
  | 0, _ => none
  | n + 1, M4 =>
  zlet (fun (_ : Unit) => (((if (M4 148 21) = (143 : Int32) then some (23 : Int32) else some (24 : Int32)) : Option (Int32)).bind fun v5 =>
  (f157_next0 M4).bind fun M6 => (f172_product M6).bind fun (v7, M8) => (if v7 = 0 then some ((0 : Int32), M8) else (f174_lay v5 (0 : Int32) M8).bind fun M9 => f171_l9 n M9) : Option (Int32 × ZI))) fun j10 =>
  (if (M4 148 21) = (143 : Int32) then j10 () else (if (M4 148 21) = (145 : Int32) then j10 () else some ((1 : Int32), M4)))

def f171_sumUp (M : ZI) : Option (Int32 × ZI) :=
  (f172_product M).bind fun (v1, M2) => (if v1 = 0 then some ((0 : Int32), M2) else f171_l9 zfu M2)

def f178_opens (M : ZI) : Option (Int32 × ZI) :=
  (if (M 148 27) = (8 : Int32) then (f170_bad (3 : Int32) M).bind fun (v3, M4) => if zbl v3 = true then some (v3, M4) else none else zlet (zs M 148 27 ((M 148 27) + (1 : Int32))) fun (M1 : ZI) => (f157_next0 M1).bind fun M2 => some ((1 : Int32), M2))

def f179_need (a1 : Int32) (M : ZI) : Option (Int32 × ZI) :=
  (if (M 148 21) = a1 then (f157_next0 M).bind fun M1 => some ((1 : Int32), M1) else (f170_bad (1 : Int32) M).bind fun (v2, M3) => if zbl v2 = true then some (v2, M3) else none)

def f177_oneTest_b (g175 : ZI → Option (Int32 × ZI)) (g177 : ZI → Option (Int32 × ZI)) (M : ZI) : Option (Int32 × ZI) :=
  (if (M 148 21) = (6 : Int32) then (f178_opens M).bind fun (v17, M18) => (if v17 = 0 then some ((0 : Int32), M18) else (g177 M18).bind fun (v19, M20) => (if v19 = 0 then some ((0 : Int32), M20) else zlet (zs M20 148 27 ((M20 148 27) - (1 : Int32))) fun (M21 : ZI) => (f174_lay (30 : Int32) (0 : Int32) M21).bind fun M22 => some ((1 : Int32), M22))) else (if (M 148 21) = (140 : Int32) then (f178_opens M).bind fun (v10, M11) => (if v10 = 0 then some ((0 : Int32), M11) else (g175 M11).bind fun (v12, M13) => (if v12 = 0 then some ((0 : Int32), M13) else (f179_need (141 : Int32) M13).bind fun (v14, M15) => (if v14 = 0 then some ((0 : Int32), M15) else zlet (zs M15 148 27 ((M15 148 27) - (1 : Int32))) fun (M16 : ZI) => some ((1 : Int32), M16)))) else (f171_sumUp M).bind fun (v1, M2) => (if v1 = 0 then some ((0 : Int32), M2) else ((if (M2 148 21) = (160 : Int32) then some (27 : Int32) else (if (M2 148 21) = (161 : Int32) then some (28 : Int32) else (if (M2 148 21) = (162 : Int32) then some (29 : Int32) else some (-1 : Int32)))) : Option (Int32)).bind fun v3 =>
  (if v3 = (-1 : Int32) then (f170_bad (1 : Int32) M2).bind fun (v8, M9) => if zbl v8 = true then some (v8, M9) else none else (f157_next0 M2).bind fun M4 => (f171_sumUp M4).bind fun (v5, M6) => (if v5 = 0 then some ((0 : Int32), M6) else (f174_lay v3 (0 : Int32) M6).bind fun M7 => some ((1 : Int32), M7))))))

def f176_l9 (g177 : ZI → Option (Int32 × ZI))  : Nat → ZI → Option (Int32 × ZI)
  | 0, _ => none
  | n + 1, M3 =>
  (if (M3 148 21) = (5 : Int32) then (f157_next0 M3).bind fun M4 => (g177 M4).bind fun (v5, M6) => (if v5 = 0 then some ((0 : Int32), M6) else (f174_lay (31 : Int32) (0 : Int32) M6).bind fun M7 => f176_l9 g177 n M7) else some ((1 : Int32), M3))

def f176_every_b (g177 : ZI → Option (Int32 × ZI)) (M : ZI) : Option (Int32 × ZI) :=
  (g177 M).bind fun (v1, M2) => (if v1 = 0 then some ((0 : Int32), M2) else f176_l9 g177 zfu M2)

def f175_l9 (g176 : ZI → Option (Int32 × ZI))  : Nat → ZI → Option (Int32 × ZI)
  | 0, _ => none
  | n + 1, M3 =>
  (if (M3 148 21) = (4 : Int32) then (f157_next0 M3).bind fun M4 => (g176 M4).bind fun (v5, M6) => (if v5 = 0 then some ((0 : Int32), M6) else (f174_lay (32 : Int32) (0 : Int32) M6).bind fun M7 => f175_l9 g176 n M7) else some ((1 : Int32), M3))

def f175_any_b (g176 : ZI → Option (Int32 × ZI)) (M : ZI) : Option (Int32 × ZI) :=
  (g176 M).bind fun (v1, M2) => (if v1 = 0 then some ((0 : Int32), M2) else f175_l9 g176 zfu M2)

def fgB : Nat → (ZI → Option (Int32 × ZI)) × (ZI → Option (Int32 × ZI)) × (ZI → Option (Int32 × ZI))
  | 0 => (fun _ => none, fun _ => none, fun _ => none)
  | f + 1 => (f177_oneTest_b (fgB f).2.2 (fgB f).1, f176_every_b (fgB f).1, f175_any_b (fgB f).2.1)
def f177_oneTest (f : Nat) : ZI → Option (Int32 × ZI) := (fgB f).1
def f176_every (f : Nat) : ZI → Option (Int32 × ZI) := (fgB f).2.1
def f175_any (f : Nat) : ZI → Option (Int32 × ZI) := (fgB f).2.2
theorem fe177 (f : Nat) : f177_oneTest (f + 1) = f177_oneTest_b (f175_any f) (f177_oneTest f) := by simp only [f177_oneTest, f176_every, f175_any, fgB]
theorem fe176 (f : Nat) : f176_every (f + 1) = f176_every_b (f177_oneTest f) := by simp only [f177_oneTest, f176_every, f175_any, fgB]
theorem fe175 (f : Nat) : f175_any (f + 1) = f175_any_b (f176_every f) := by simp only [f177_oneTest, f176_every, f175_any, fgB]

def f169_aLine (M : ZI) : Option (Int32 × ZI) :=
  (f149_isIn (M 148 21) (20 : Int32) (22 : Int32)).bind fun v1 => (if v1 = 0 then (f170_bad (1 : Int32) M).bind fun (v19, M20) => if zbl v19 = true then some (v19, M20) else none else (if (M 148 15) = (16 : Int32) then (f170_bad (3 : Int32) M).bind fun (v17, M18) => if zbl v17 = true then some (v17, M18) else none else zlet (zs M 148 27 (0 : Int32)) fun (M2 : ZI) => if zin (((4 : Int32) * (M2 148 15)) + (3 : Int32)) 64 = true then zlet (zs M2 153 (zi (((4 : Int32) * (M2 148 15)) + (3 : Int32))) (M2 148 21)) fun (M3 : ZI) => (f157_next0 M3).bind fun M4 => if zin ((4 : Int32) * (M4 148 15)) 64 = true then zlet (zs M4 153 (zi ((4 : Int32) * (M4 148 15))) (M4 148 16)) fun (M5 : ZI) => (f171_sumUp M5).bind fun (v6, M7) => (if v6 = 0 then some ((0 : Int32), M7) else if zin (((4 : Int32) * (M7 148 15)) + (1 : Int32)) 64 = true then zlet (zs M7 153 (zi (((4 : Int32) * (M7 148 15)) + (1 : Int32))) (M7 148 16)) fun (M8 : ZI) => zlet (fun (M9 : ZI) => (if zin (((4 : Int32) * (M9 148 15)) + (2 : Int32)) 64 = true then zlet (zs M9 153 (zi (((4 : Int32) * (M9 148 15)) + (2 : Int32))) (M9 148 16)) fun (M10 : ZI) => (f179_need (159 : Int32) M10).bind fun (v11, M12) => if zbl v11 = true then some (v11, M12) else none else none : Option (Int32 × ZI))) fun j13 =>
  (if (M8 148 21) = (3 : Int32) then (f157_next0 M8).bind fun M14 => (f175_any zgf M14).bind fun (v15, M16) => (if v15 = 0 then some ((0 : Int32), M16) else j13 M16) else j13 M8) else none) else none else none))

def f168_l12  : Nat → Int32 → ZI → Option (Int32 × ZI)
  | 0, _, _ => none
  | n + 1, x3, M4 =>
  (if x3 = 0 then some (x3, M4) else (if (M4 148 21) = 0 then some (x3, M4) else (f169_aLine M4).bind fun (v5, M6) => (if v5 = 0 then zlet (zs M6 148 15 ((M6 148 15) + (0 : Int32))) fun (M7 : ZI) => f168_l12 n v5 M7 else zlet (zs M6 148 15 ((M6 148 15) + (1 : Int32))) fun (M8 : ZI) => f168_l12 n v5 M8)))

def f168_readsLaw (M : ZI) : Option (Int32 × ZI) :=
  zlet (zs M 148 15 (0 : Int32)) fun (M1 : ZI) => zlet (zs M1 148 16 (0 : Int32)) fun (M2 : ZI) => (f168_l12 zfu (1 : Int32) M2).bind fun (x9, M10) =>
  if zbl x9 = true then some (x9, M10) else none

def f182_number (a1 : Int32) (a2 : Int32) (M : ZI) : Option (Int32 × ZI) :=
  (if (M 148 21) = (2 : Int32) then (f149_isIn (M 148 23) a1 a2).bind fun v1 => (if v1 = 0 then (f170_bad (2 : Int32) M).bind fun (v4, M5) => if zbl v4 = true then some (v4, M5) else none else zlet (zs M 148 29 (M 148 23)) fun (M2 : ZI) => (f157_next0 M2).bind fun M3 => some ((1 : Int32), M3)) else (f170_bad (1 : Int32) M).bind fun (v6, M7) => if zbl v6 = true then some (v6, M7) else none)

def f181_aVoice (M : ZI) : Option (Int32 × ZI) :=
  zlet (fun (M1 : ZI) => ((f182_number (0 : Int32) ((M1 149 48) - (1 : Int32)) M1).bind fun (v2, M3) => (if v2 = 0 then some ((0 : Int32), M3) else zlet (M3 148 29) fun (x4 : Int32) => (f179_need (7 : Int32) M3).bind fun (v5, M6) => (if v5 = 0 then some ((0 : Int32), M6) else zlet (fun (M7 : ZI) => ((f182_number (0 : Int32) ((M7 149 48) - (1 : Int32)) M7).bind fun (v8, M9) => (if v8 = 0 then some ((0 : Int32), M9) else if zin x4 10 = true then zlet (zs M9 155 (zi x4) (M9 148 29)) fun (M10 : ZI) => zlet (zs M10 148 17 ((M10 148 17) + (1 : Int32))) fun (M11 : ZI) => (f179_need (159 : Int32) M11).bind fun (v12, M13) => if zbl v12 = true then some (v12, M13) else none else none) : Option (Int32 × ZI))) fun j14 =>
  (if (M6 148 21) = (2 : Int32) then (if (M6 148 23) = x4 then (f170_bad (2 : Int32) M6).bind fun (v15, M16) => if zbl v15 = true then some (v15, M16) else none else j14 M6) else j14 M6))) : Option (Int32 × ZI))) fun j17 =>
  (if (M 148 21) = (2 : Int32) then (f152_isPerson (M 148 23) M).bind fun v18 => (if v18 = 0 then j17 M else if zin (M 148 23) 10 = true then (if (M 155 (zi (M 148 23))) = (-1 : Int32) then j17 M else (f170_bad (2 : Int32) M).bind fun (v19, M20) => if zbl v19 = true then some (v19, M20) else none) else none) else j17 M)

def f180_l7  : Nat → Int32 → ZI → Option (ZI)
  | 0, _, _ => none
  | n + 1, x2, M3 =>
  (if x2 < (10 : Int32) then if zin x2 10 = true then zlet (zs M3 155 (zi x2) (-1 : Int32)) fun (M4 : ZI) => f180_l7 n (x2 + (1 : Int32)) M4 else none else some M3)

def f180_l28  : Nat → Int32 → ZI → Option (Int32 × ZI)
  | 0, _, _ => none
  | n + 1, x7, M8 =>
  (if x7 = 0 then some (x7, M8) else (if (M8 148 21) = 0 then some (x7, M8) else (f181_aVoice M8).bind fun (v9, M10) => f180_l28 n v9 M10))

def f180_readsVoices (M : ZI) : Option (Int32 × ZI) :=
  zlet (zs M 148 17 (0 : Int32)) fun (M1 : ZI) => (f180_l7 zfu (0 : Int32) M1).bind fun M5 =>
  (f180_l28 zfu (1 : Int32) M5).bind fun (x11, M12) =>
  if zbl x11 = true then some (x11, M12) else none

def f185_told (a1 : Int32) (a2 : Int32) (a3 : Int32) (a4 : Int32) (M : ZI) : Option (Int32 × ZI) :=
  (f179_need a2 M).bind fun (v1, M2) => (if v1 = 0 then some ((0 : Int32), M2) else (f182_number a3 a4 M2).bind fun (v3, M4) => (if v3 = 0 then some ((0 : Int32), M4) else if zin (((6 : Int32) * (M4 148 17)) + a1) 72 = true then zlet (zs M4 156 (zi (((6 : Int32) * (M4 148 17)) + a1)) (M4 148 29)) fun (M5 : ZI) => some ((1 : Int32), M5) else none))

def f186_anAfter (M : ZI) : Option (Int32 × ZI) :=
  if zin (((6 : Int32) * (M 148 17)) + (5 : Int32)) 72 = true then zlet (zs M 156 (zi (((6 : Int32) * (M 148 17)) + (5 : Int32))) (-1 : Int32)) fun (M1 : ZI) => (if (M1 148 21) = (13 : Int32) then (f157_next0 M1).bind fun M2 => zlet (fun (M3 : ZI) => ((f182_number (0 : Int32) ((M3 148 17) - (1 : Int32)) M3).bind fun (v4, M5) => (if v4 = 0 then some ((0 : Int32), M5) else if zin (((6 : Int32) * (M5 148 17)) + (5 : Int32)) 72 = true then zlet (zs M5 156 (zi (((6 : Int32) * (M5 148 17)) + (5 : Int32))) (M5 148 29)) fun (M6 : ZI) => some ((1 : Int32), M6) else none) : Option (Int32 × ZI))) fun j7 =>
  (if (M2 148 21) = (2 : Int32) then (if (M2 148 23) < (M2 148 17) then if zin (((6 : Int32) * (M2 148 23)) + (0 : Int32)) 72 = true then if zin (((6 : Int32) * (M2 148 17)) + (0 : Int32)) 72 = true then (if (M2 156 (zi (((6 : Int32) * (M2 148 23)) + (0 : Int32)))) = (M2 156 (zi (((6 : Int32) * (M2 148 17)) + (0 : Int32)))) then j7 M2 else (f170_bad (2 : Int32) M2).bind fun (v8, M9) => if zbl v8 = true then some (v8, M9) else none) else none else none else j7 M2) else j7 M2) else some ((1 : Int32), M1)) else none

def f184_aWork (M : ZI) : Option (Int32 × ZI) :=
  (if (M 148 21) = (8 : Int32) then (if (M 148 17) = (12 : Int32) then (f170_bad (3 : Int32) M).bind fun (v16, M17) => if zbl v16 = true then some (v16, M17) else none else (f185_told (0 : Int32) (8 : Int32) (0 : Int32) ((M 149 48) - (1 : Int32)) M).bind fun (v1, M2) => (if v1 = 0 then some ((0 : Int32), M2) else (f185_told (1 : Int32) (9 : Int32) (1 : Int32) (24 : Int32) M2).bind fun (v3, M4) => (if v3 = 0 then some ((0 : Int32), M4) else (f185_told (2 : Int32) (10 : Int32) (0 : Int32) (99 : Int32) M4).bind fun (v5, M6) => (if v5 = 0 then some ((0 : Int32), M6) else (f185_told (3 : Int32) (11 : Int32) (0 : Int32) (9 : Int32) M6).bind fun (v7, M8) => (if v7 = 0 then some ((0 : Int32), M8) else (f185_told (4 : Int32) (12 : Int32) (0 : Int32) (9 : Int32) M8).bind fun (v9, M10) => (if v9 = 0 then some ((0 : Int32), M10) else (f186_anAfter M10).bind fun (v11, M12) => (if v11 = 0 then some ((0 : Int32), M12) else zlet (zs M12 148 17 ((M12 148 17) + (1 : Int32))) fun (M13 : ZI) => (f179_need (159 : Int32) M13).bind fun (v14, M15) => if zbl v14 = true then some (v14, M15) else none))))))) else (f170_bad (1 : Int32) M).bind fun (v18, M19) => if zbl v18 = true then some (v18, M19) else none)

def f183_l7  : Nat → Int32 → ZI → Option (Int32 × ZI)
  | 0, _, _ => none
  | n + 1, x2, M3 =>
  (if x2 = 0 then some (x2, M3) else (if (M3 148 21) = 0 then some (x2, M3) else (f184_aWork M3).bind fun (v4, M5) => f183_l7 n v4 M5))

def f183_readsWorks (M : ZI) : Option (Int32 × ZI) :=
  zlet (zs M 148 17 (0 : Int32)) fun (M1 : ZI) => (f183_l7 zfu (1 : Int32) M1).bind fun (x6, M7) =>
  if zbl x6 = true then some (x6, M7) else none

def f191_rules (a1 : Int32) (M : ZI) : Option ZI :=
  if zin (M 148 18) 400 = true then zlet (zs M 157 (zi (M 148 18)) a1) fun (M1 : ZI) => zlet (zs M1 148 18 ((M1 148 18) + (1 : Int32))) fun (M2 : ZI) => some M2 else none

def f190_oneOf_b (g188 : ZI → Option (Int32 × ZI)) (M : ZI) : Option (Int32 × ZI) :=
  (if (M 148 21) = (140 : Int32) then (if (M 148 27) = (8 : Int32) then (f170_bad (3 : Int32) M).bind fun (v18, M19) => if zbl v18 = true then some (v18, M19) else none else zlet (zs M 148 27 ((M 148 27) + (1 : Int32))) fun (M11 : ZI) => (f157_next0 M11).bind fun M12 => (g188 M12).bind fun (v13, M14) => (if v13 = 0 then some ((0 : Int32), M14) else (f179_need (141 : Int32) M14).bind fun (v15, M16) => (if v15 = 0 then some ((0 : Int32), M16) else zlet (zs M16 148 27 ((M16 148 27) - (1 : Int32))) fun (M17 : ZI) => some ((1 : Int32), M17)))) else ((if (M 148 21) = (14 : Int32) then some (1 : Int32) else some (0 : Int32)) : Option (Int32)).bind fun v1 =>
  ((if v1 = 0 then some M else (f157_next0 M).bind fun M2 => some M2) : Option (ZI)).bind fun M3 =>
  ((if v1 = 0 then some (0 : Int32) else some (1 : Int32)) : Option (Int32)).bind fun v4 =>
  ((if v1 = 0 then some ((M3 149 48) - (1 : Int32)) else some (10 : Int32)) : Option (Int32)).bind fun v5 =>
  (f182_number v4 v5 M3).bind fun (v6, M7) => (if v6 = 0 then some ((0 : Int32), M7) else ((if v1 = 0 then some (0 : Int32) else some (20 : Int32)) : Option (Int32)).bind fun v8 =>
  (f191_rules (v8 + (M7 148 29)) M7).bind fun M9 => zlet (zs M9 148 17 ((M9 148 17) + (1 : Int32))) fun (M10 : ZI) => some ((1 : Int32), M10)))

def f189_l9 (g190 : ZI → Option (Int32 × ZI))  : Nat → ZI → Option (Int32 × ZI)
  | 0, _ => none
  | n + 1, M3 =>
  (if (M3 148 21) = (5 : Int32) then (f157_next0 M3).bind fun M4 => (g190 M4).bind fun (v5, M6) => (if v5 = 0 then some ((0 : Int32), M6) else (f191_rules (40 : Int32) M6).bind fun M7 => f189_l9 g190 n M7) else some ((1 : Int32), M3))

def f189_anyOf_b (g190 : ZI → Option (Int32 × ZI)) (M : ZI) : Option (Int32 × ZI) :=
  (g190 M).bind fun (v1, M2) => (if v1 = 0 then some ((0 : Int32), M2) else f189_l9 g190 zfu M2)

def f188_l9 (g189 : ZI → Option (Int32 × ZI))  : Nat → ZI → Option (Int32 × ZI)
  | 0, _ => none
  | n + 1, M3 =>
  (if (M3 148 21) = (4 : Int32) then (f157_next0 M3).bind fun M4 => (g189 M4).bind fun (v5, M6) => (if v5 = 0 then some ((0 : Int32), M6) else (f191_rules (41 : Int32) M6).bind fun M7 => f188_l9 g189 n M7) else some ((1 : Int32), M3))

def f188_aRule_b (g189 : ZI → Option (Int32 × ZI)) (M : ZI) : Option (Int32 × ZI) :=
  (g189 M).bind fun (v1, M2) => (if v1 = 0 then some ((0 : Int32), M2) else f188_l9 g189 zfu M2)

def fgC : Nat → (ZI → Option (Int32 × ZI)) × (ZI → Option (Int32 × ZI)) × (ZI → Option (Int32 × ZI))
  | 0 => (fun _ => none, fun _ => none, fun _ => none)
  | f + 1 => (f190_oneOf_b (fgC f).2.2, f189_anyOf_b (fgC f).1, f188_aRule_b (fgC f).2.1)
def f190_oneOf (f : Nat) : ZI → Option (Int32 × ZI) := (fgC f).1
def f189_anyOf (f : Nat) : ZI → Option (Int32 × ZI) := (fgC f).2.1
def f188_aRule (f : Nat) : ZI → Option (Int32 × ZI) := (fgC f).2.2
theorem fe190 (f : Nat) : f190_oneOf (f + 1) = f190_oneOf_b (f188_aRule f) := by simp only [f190_oneOf, f189_anyOf, f188_aRule, fgC]
theorem fe189 (f : Nat) : f189_anyOf (f + 1) = f189_anyOf_b (f190_oneOf f) := by simp only [f190_oneOf, f189_anyOf, f188_aRule, fgC]
theorem fe188 (f : Nat) : f188_aRule (f + 1) = f188_aRule_b (f189_anyOf f) := by simp only [f190_oneOf, f189_anyOf, f188_aRule, fgC]

def f187_readsCouncil (M : ZI) : Option (Int32 × ZI) :=
  zlet (zs M 148 17 (0 : Int32)) fun (M1 : ZI) => zlet (zs M1 148 18 (0 : Int32)) fun (M2 : ZI) => zlet (zs M2 148 27 (0 : Int32)) fun (M3 : ZI) => (if (M3 148 21) = 0 then some ((1 : Int32), M3) else (f188_aRule zgf M3).bind fun (v4, M5) => (if v4 = 0 then some ((0 : Int32), M5) else (if (M5 148 21) = 0 then some ((1 : Int32), M5) else (f170_bad (1 : Int32) M5).bind fun (v6, M7) => (if v6 = 0 then some ((0 : Int32), M7) else some ((1 : Int32), M7)))))

def f167_reads (a1 : Int32) (M : ZI) : Option (Int32 × ZI) :=
  (if a1 = (0 : Int32) then (f168_readsLaw M).bind fun (v1, M2) => if zbl v1 = true then some (v1, M2) else none else if a1 = (1 : Int32) then (f180_readsVoices M).bind fun (v3, M4) => if zbl v3 = true then some (v3, M4) else none else if a1 = (2 : Int32) then (f183_readsWorks M).bind fun (v5, M6) => if zbl v5 = true then some (v5, M6) else none else (f187_readsCouncil M).bind fun (v7, M8) => if zbl v7 = true then some (v7, M8) else none)

def f193_l13  : Nat → Int32 → ZI → Option (ZI)
  | 0, _, _ => none
  | n + 1, x2, M3 =>
  (if x2 < (M3 148 15) then if zin ((4 : Int32) * x2) 64 = true then if zin ((1178 : Int32) + x2) 2064 = true then zlet (zs M3 149 (zi ((1178 : Int32) + x2)) (M3 153 (zi ((4 : Int32) * x2)))) fun (M4 : ZI) => if zin (((4 : Int32) * x2) + (1 : Int32)) 64 = true then if zin ((1194 : Int32) + x2) 2064 = true then zlet (zs M4 149 (zi ((1194 : Int32) + x2)) (M4 153 (zi (((4 : Int32) * x2) + (1 : Int32))))) fun (M5 : ZI) => if zin (((4 : Int32) * x2) + (2 : Int32)) 64 = true then if zin ((1210 : Int32) + x2) 2064 = true then zlet (zs M5 149 (zi ((1210 : Int32) + x2)) (M5 153 (zi (((4 : Int32) * x2) + (2 : Int32))))) fun (M6 : ZI) => if zin (((4 : Int32) * x2) + (3 : Int32)) 64 = true then if zin ((1226 : Int32) + x2) 2064 = true then zlet (zs M6 149 (zi ((1226 : Int32) + x2)) (M6 153 (zi (((4 : Int32) * x2) + (3 : Int32))))) fun (M7 : ZI) => f193_l13 n (x2 + (1 : Int32)) M7 else none else none else none else none else none else none else none else none else some M3)

def f193_l107  : Nat → Int32 → ZI → Option (ZI)
  | 0, _, _ => none
  | n + 1, x10, M11 =>
  (if x10 < ((2 : Int32) * (M11 148 16)) then if zin x10 820 = true then if zin ((1244 : Int32) + x10) 2064 = true then zlet (zs M11 149 (zi ((1244 : Int32) + x10)) (M11 154 (zi x10))) fun (M12 : ZI) => f193_l107 n (x10 + (1 : Int32)) M12 else none else none else some M11)

def f193_putsLaw (M : ZI) : Option (Int32 × ZI) :=
  zlet (zs M 149 58 (M 148 15)) fun (M1 : ZI) => (f193_l13 zfu (0 : Int32) M1).bind fun M8 =>
  (f193_l107 zfu (0 : Int32) M8).bind fun M13 =>
  some ((M13 148 15), M13)

def f194_l13  : Nat → Int32 → ZI → Option (ZI)
  | 0, _, _ => none
  | n + 1, x2, M3 =>
  (if x2 < (10 : Int32) then if zin x2 10 = true then if zin ((80 : Int32) + x2) 2064 = true then zlet (zs M3 149 (zi ((80 : Int32) + x2)) (M3 155 (zi x2))) fun (M4 : ZI) => f194_l13 n (x2 + (1 : Int32)) M4 else none else none else some M3)

def f194_putsVoices (M : ZI) : Option (Int32 × ZI) :=
  zlet (zs M 149 51 (M 148 17)) fun (M1 : ZI) => (f194_l13 zfu (0 : Int32) M1).bind fun M5 =>
  (f147_forgets M5).bind fun M7 => some ((M7 148 17), M7)

def f195_l21  : Nat → Int32 → ZI → Option (ZI)
  | 0, _, _ => none
  | n + 1, x3, M4 =>
  (if x3 < ((6 : Int32) * (M4 148 17)) then if zin x3 72 = true then if zin ((90 : Int32) + x3) 2064 = true then zlet (zs M4 149 (zi ((90 : Int32) + x3)) (M4 156 (zi x3))) fun (M5 : ZI) => f195_l21 n (x3 + (1 : Int32)) M5 else none else none else some M4)

def f195_putsWorks (M : ZI) : Option (Int32 × ZI) :=
  zlet (zs M 149 52 (M 148 17)) fun (M1 : ZI) => zlet (zs M1 149 6 (0 : Int32)) fun (M2 : ZI) => (f195_l21 zfu (0 : Int32) M2).bind fun M6 =>
  (f147_forgets M6).bind fun M8 => some ((M8 148 17), M8)

def f196_l24  : Nat → Int32 → ZI → Option (ZI)
  | 0, _, _ => none
  | n + 1, x3, M4 =>
  (if x3 < (M4 148 18) then if zin x3 400 = true then if zin ((162 : Int32) + x3) 2064 = true then zlet (zs M4 149 (zi ((162 : Int32) + x3)) (M4 157 (zi x3))) fun (M5 : ZI) => f196_l24 n (x3 + (1 : Int32)) M5 else none else none else some M4)

def f196_putsCouncil (M : ZI) : Option (Int32 × ZI) :=
  zlet (zs M 149 53 (M 148 17)) fun (M1 : ZI) => zlet (zs M1 149 54 (M1 148 18)) fun (M2 : ZI) => (f196_l24 zfu (0 : Int32) M2).bind fun M6 =>
  some ((M6 148 17), M6)

def f192_putsText (a1 : Int32) (M : ZI) : Option (Int32 × ZI) :=
  (if a1 = (0 : Int32) then (f193_putsLaw M).bind fun (v1, M2) => some (v1, M2) else if a1 = (1 : Int32) then (f194_putsVoices M).bind fun (v3, M4) => some (v3, M4) else if a1 = (2 : Int32) then (f195_putsWorks M).bind fun (v5, M6) => some (v5, M6) else (f196_putsCouncil M).bind fun (v7, M8) => some (v7, M8))

def f156_text (a1 : Int32) (M : ZI) : Option (Int32 × ZI) :=
  zlet (zs M 148 26 (0 : Int32)) fun (M1 : ZI) => zlet (zs M1 148 28 (-1 : Int32)) fun (M2 : ZI) => (f149_isIn a1 (0 : Int32) (3 : Int32)).bind fun v3 => (if v3 = 0 then zlet (zs M2 148 19 (0 : Int32)) fun (M15 : ZI) => some ((-1 : Int32), M15) else zlet (zs M2 148 24 (0 : Int32)) fun (M4 : ZI) => zlet (zs M4 148 20 (0 : Int32)) fun (M5 : ZI) => zlet (zs M5 148 14 a1) fun (M6 : ZI) => (f157_next0 M6).bind fun M7 => (f167_reads a1 M7).bind fun (v8, M9) => zlet (zs M9 148 19 (0 : Int32)) fun (M10 : ZI) => (if v8 = 0 then zlet (zs M10 148 26 (M10 148 24)) fun (M11 : ZI) => zlet (zs M11 148 28 (M11 148 25)) fun (M12 : ZI) => some ((-1 : Int32), M12) else (f192_putsText a1 M10).bind fun (v13, M14) => some (v13, M14)))

def f197_fault (a1 : Int32) (M : ZI) : Option Int32 :=
  (if a1 = 0 then some (M 148 26) else (if a1 = (1 : Int32) then some (M 148 28) else some (-1 : Int32)))

def f198_l21  : Nat → Int32 → ZI → Option (ZI)
  | 0, _, _ => none
  | n + 1, x2, M3 =>
  (if x2 < (48 : Int32) then if zin (((48 : Int32) * (M3 148 4)) + x2) 288 = true then if zin x2 2064 = true then zlet (zs M3 149 (zi x2) (M3 151 (zi (((48 : Int32) * (M3 148 4)) + x2)))) fun (M4 : ZI) => f198_l21 n (x2 + (1 : Int32)) M4 else none else none else some M3)

def f198_undo (M : ZI) : Option (Int32 × ZI) :=
  (if (M 148 4) = 0 then some ((0 : Int32), M) else zlet (zs M 148 4 ((M 148 4) - (1 : Int32))) fun (M1 : ZI) => (f198_l21 zfu (0 : Int32) M1).bind fun M5 =>
  some ((1 : Int32), M5))

def f200_l51  : Nat → Int32 → ZI → Option (ZI)
  | 0, _, _ => none
  | n + 1, x3, M4 =>
  (if x3 < (48 : Int32) then if zin x3 2064 = true then if zin (((48 : Int32) * (M4 148 4)) + x3) 288 = true then zlet (zs M4 151 (zi (((48 : Int32) * (M4 148 4)) + x3)) (M4 149 (zi x3))) fun (M5 : ZI) => f200_l51 n (x3 + (1 : Int32)) M5 else none else none else some M4)

def f200_l11  : Nat → Int32 → ZI → Option (ZI)
  | 0, _, _ => none
  | n + 1, x10, M11 =>
  (if x10 < (240 : Int32) then if zin (x10 + (48 : Int32)) 288 = true then if zin x10 288 = true then zlet (zs M11 151 (zi x10) (M11 151 (zi (x10 + (48 : Int32))))) fun (M12 : ZI) => f200_l11 n (x10 + (1 : Int32)) M12 else none else none else some M11)

def f200_keeps (M : ZI) : Option ZI :=
  zlet (fun (M1 : ZI) => ((f200_l51 zfu (0 : Int32) M1).bind fun M6 =>
  zlet (zs M6 148 4 ((M6 148 4) + (1 : Int32))) fun (M8 : ZI) => some M8 : Option ZI)) fun j9 =>
  (if (M 148 4) = (6 : Int32) then (f200_l11 zfu (0 : Int32) M).bind fun M13 =>
  zlet (zs M13 148 4 ((M13 148 4) - (1 : Int32))) fun (M15 : ZI) => j9 M15 else j9 M)

def f199_tie (a1 : Int32) (a2 : Int32) (a3 : Int32) (M : ZI) : Option (Int32 × ZI) :=
  (f152_isPerson a1 M).bind fun v1 => (if v1 = 0 then some ((0 : Int32), M) else (f152_isPerson a2 M).bind fun v2 => (if v2 = 0 then some ((0 : Int32), M) else (if a1 = a2 then some ((0 : Int32), M) else if zin ((7 : Int32) + a1) 2064 = true then ((if ((zshr (M 149 (zi ((7 : Int32) + a1))) a2) &&& (1 : Int32)) = (1 : Int32) then some (1 : Int32) else some (0 : Int32)) : Option (Int32)).bind fun v3 =>
  (if v3 = a3 then some ((0 : Int32), M) else (f200_keeps M).bind fun M4 => if zin ((7 : Int32) + a1) 2064 = true then if zin ((7 : Int32) + a1) 2064 = true then zlet (zs M4 149 (zi ((7 : Int32) + a1)) ((M4 149 (zi ((7 : Int32) + a1))) ^^^ (zshl (1 : Int32) a2))) fun (M5 : ZI) => if zin ((7 : Int32) + a2) 2064 = true then if zin ((7 : Int32) + a2) 2064 = true then zlet (zs M5 149 (zi ((7 : Int32) + a2)) ((M5 149 (zi ((7 : Int32) + a2))) ^^^ (zshl (1 : Int32) a1))) fun (M6 : ZI) => some ((1 : Int32), M6) else none else none else none else none) else none)))

def f202_lesser (a0 : Int32) (a1 : Int32) : Option Int32 :=
  (if a0 < a1 then some a0 else some a1)

def f201_sit (a1 : Int32) (M : ZI) : Option (Int32 × ZI) :=
  (f149_isIn a1 (1 : Int32) (24 : Int32)).bind fun v1 => (if v1 = 0 then some ((-1 : Int32), M) else (f200_keeps M).bind fun M2 => (f202_lesser (24 : Int32) ((M2 149 1) + a1)).bind fun v3 => zlet (zs M2 149 1 v3) fun (M4 : ZI) => some ((M4 149 1), M4))

def f209_l4 (a0 : Int32) : Nat → Int32 → Int32 → Option (Int32)
  | 0, _, _ => none
  | n + 1, x1, x2 =>
  (if x2 < (16 : Int32) then zlet (x1 + ((zshr a0 x2) &&& (1 : Int32))) fun (x3 : Int32) => f209_l4 a0 n x3 (x2 + (1 : Int32)) else some x1)

def f209_count (a0 : Int32) : Option Int32 :=
  (f209_l4 a0 zfu (0 : Int32) (0 : Int32)).bind fun x4 =>
  some x4

def f212_both (a0 : Int32) (a1 : Int32) (a2 : Int32) : Option Int32 :=
  (if a0 = (23 : Int32) then some (a1 + a2) else if a0 = (24 : Int32) then some (a1 - a2) else if a0 = (25 : Int32) then some (a1 * a2) else if a0 = (26 : Int32) then some (a1 ||| a2) else if a0 = (27 : Int32) then (if a1 < a2 then some (1 : Int32) else some (0 : Int32)) else if a0 = (28 : Int32) then (if a1 = a2 then some (1 : Int32) else some (0 : Int32)) else if a0 = (29 : Int32) then (if a2 < a1 then some (1 : Int32) else some (0 : Int32)) else if a0 = (30 : Int32) then some (a1 ||| a2) else if a0 = (31 : Int32) then some (a1 &&& a2) else some (a1 ||| a2))

def f211_l6 (a1 : Int32) (a3 : Int32) : Nat → Int32 → Int32 → ZI → Option (ZI)
  | 0, _, _, _ => none
  | n + 1, x1, x2, M5 =>
  (if x2 < a3 then if zin (((1244 : Int32) + ((820 : Int32) * a1)) + ((2 : Int32) * x2)) 2064 = true then zlet (M5 149 (zi (((1244 : Int32) + ((820 : Int32) * a1)) + ((2 : Int32) * x2)))) fun (x6 : Int32) => if zin ((((1244 : Int32) + ((820 : Int32) * a1)) + ((2 : Int32) * x2)) + (1 : Int32)) 2064 = true then zlet (M5 149 (zi ((((1244 : Int32) + ((820 : Int32) * a1)) + ((2 : Int32) * x2)) + (1 : Int32)))) fun (x7 : Int32) => (if x6 < (23 : Int32) then (if x6 = 0 then if zin x1 420 = true then zlet (zs M5 159 (zi x1) x7) fun (M13 : ZI) => f211_l6 a1 a3 n (x1 + (1 : Int32)) (x2 + (1 : Int32)) M13 else none else if zin x6 10 = true then if zin x1 420 = true then zlet (zs M5 159 (zi x1) (M5 160 (zi x6))) fun (M12 : ZI) => f211_l6 a1 a3 n (x1 + (1 : Int32)) (x2 + (1 : Int32)) M12 else none else none) else (if x6 = (26 : Int32) then if zin (x1 - (1 : Int32)) 420 = true then if x7 = 0 then none else if zin (x1 - (1 : Int32)) 420 = true then zlet (zs M5 159 (zi (x1 - (1 : Int32))) ((M5 159 (zi (x1 - (1 : Int32)))) / x7)) fun (M11 : ZI) => f211_l6 a1 a3 n x1 (x2 + (1 : Int32)) M11 else none else none else (if x6 = (30 : Int32) then if zin (x1 - (1 : Int32)) 420 = true then if zin (x1 - (1 : Int32)) 420 = true then zlet (zs M5 159 (zi (x1 - (1 : Int32))) ((1 : Int32) - (M5 159 (zi (x1 - (1 : Int32)))))) fun (M10 : ZI) => f211_l6 a1 a3 n x1 (x2 + (1 : Int32)) M10 else none else none else if zin ((x1 + (-1 : Int32)) - (1 : Int32)) 420 = true then if zin (x1 + (-1 : Int32)) 420 = true then (f212_both x6 (M5 159 (zi ((x1 + (-1 : Int32)) - (1 : Int32)))) (M5 159 (zi (x1 + (-1 : Int32))))).bind fun v8 => if zin ((x1 + (-1 : Int32)) - (1 : Int32)) 420 = true then zlet (zs M5 159 (zi ((x1 + (-1 : Int32)) - (1 : Int32))) v8) fun (M9 : ZI) => f211_l6 a1 a3 n (x1 + (-1 : Int32)) (x2 + (1 : Int32)) M9 else none else none else none))) else none else none else some M5)

def f211_comesTo (a1 : Int32) (a2 : Int32) (a3 : Int32) (M : ZI) : Option (Int32 × ZI) :=
  (f211_l6 a1 a3 zfu (0 : Int32) a2 M).bind fun M14 =>
  some ((M14 159 0), M14)

def f210_isSo (a1 : Int32) (M : ZI) : Option (Int32 × ZI) :=
  if zin ((1210 : Int32) + a1) 2064 = true then if zin ((1194 : Int32) + a1) 2064 = true then (if (M 149 (zi ((1210 : Int32) + a1))) = (M 149 (zi ((1194 : Int32) + a1))) then some ((1 : Int32), M) else if zin ((1194 : Int32) + a1) 2064 = true then if zin ((1210 : Int32) + a1) 2064 = true then (f211_comesTo (0 : Int32) (M 149 (zi ((1194 : Int32) + a1))) (M 149 (zi ((1210 : Int32) + a1))) M).bind fun (v1, M2) => (if v1 = (1 : Int32) then some ((1 : Int32), M2) else some ((0 : Int32), M2)) else none else none) else none else none

def f213_greater (a0 : Int32) (a1 : Int32) : Option Int32 :=
  (if a1 < a0 then some a0 else some a1)

def f208_l123 (a1 : Int32) (a4 : Int32) (a5 : Int32) : Nat → Int32 → ZI → Option (Int32 × ZI)
  | 0, _, _ => none
  | n + 1, x11, M12 =>
  (if x11 < (M12 149 58) then if zin ((1226 : Int32) + x11) 2064 = true then (if (M12 149 (zi ((1226 : Int32) + x11))) = a1 then (f210_isSo x11 M12).bind fun (v13, M14) => (if v13 = 0 then f208_l123 a1 a4 a5 n (x11 + (1 : Int32)) M14 else if zin ((1178 : Int32) + x11) 2064 = true then if zin ((1194 : Int32) + x11) 2064 = true then (f211_comesTo (0 : Int32) (M14 149 (zi ((1178 : Int32) + x11))) (M14 149 (zi ((1194 : Int32) + x11))) M14).bind fun (v15, M16) => (f202_lesser a5 v15).bind fun v17 => (f213_greater (0 : Int32) v17).bind fun v18 => some (v18, M16) else none else none) else f208_l123 a1 a4 a5 n (x11 + (1 : Int32)) M12) else none else some (a4, M12))

def f208_says (a1 : Int32) (a2 : Int32) (a3 : Int32) (a4 : Int32) (a5 : Int32) (M : ZI) : Option (Int32 × ZI) :=
  zlet (zs M 160 1 a2) fun (M1 : ZI) => if zin ((17 : Int32) + a2) 2064 = true then zlet (zs M1 160 2 (M1 149 (zi ((17 : Int32) + a2)))) fun (M2 : ZI) => if zin ((60 : Int32) + a2) 2064 = true then zlet (zs M2 160 3 (M2 149 (zi ((60 : Int32) + a2)))) fun (M3 : ZI) => if zin ((27 : Int32) + a2) 2064 = true then zlet (zs M3 160 4 (M3 149 (zi ((27 : Int32) + a2)))) fun (M4 : ZI) => if zin ((37 : Int32) + a2) 2064 = true then zlet (zs M4 160 5 (M4 149 (zi ((37 : Int32) + a2)))) fun (M5 : ZI) => zlet (zs M5 160 6 (M5 149 1)) fun (M6 : ZI) => zlet (zs M6 160 7 (M6 149 0)) fun (M7 : ZI) => if zin ((7 : Int32) + a2) 2064 = true then (f209_count (M7 149 (zi ((7 : Int32) + a2)))).bind fun v8 => zlet (zs M7 160 8 v8) fun (M9 : ZI) => zlet (zs M9 160 9 a3) fun (M10 : ZI) => f208_l123 a1 a4 a5 zfu (0 : Int32) M10 else none else none else none else none else none

def f207_weightOf (a1 : Int32) (M : ZI) : Option (Int32 × ZI) :=
  (f208_says (20 : Int32) a1 (0 : Int32) (1 : Int32) (24 : Int32) M).bind fun (v1, M2) => some (v1, M2)

def f206_l4 (a1 : Int32) : Nat → Int32 → Int32 → ZI → Option (Int32 × ZI)
  | 0, _, _, _ => none
  | n + 1, x1, x2, M3 =>
  (if x2 < (M3 149 48) then if zin ((80 : Int32) + x2) 2064 = true then (if (M3 149 (zi ((80 : Int32) + x2))) = a1 then (f207_weightOf x2 M3).bind fun (v5, M6) => zlet (x1 + v5) fun (x7 : Int32) => f206_l4 a1 n x7 (x2 + (1 : Int32)) M6 else zlet (x1 + (0 : Int32)) fun (x4 : Int32) => f206_l4 a1 n x4 (x2 + (1 : Int32)) M3) else none else some (x1, M3))

def f206_sumFor (a1 : Int32) (M : ZI) : Option (Int32 × ZI) :=
  (f206_l4 a1 zfu (0 : Int32) (0 : Int32) M).bind fun (x8, M9) =>
  some (x8, M9)

def f214_l4 (a1 : Int32) (M : ZI) : Nat → Int32 → Int32 → Option (Int32)
  | 0, _, _ => none
  | n + 1, x1, x2 =>
  (if x2 < (M 149 48) then if zin ((80 : Int32) + x2) 2064 = true then (if (M 149 (zi ((80 : Int32) + x2))) = a1 then zlet (x1 ||| (zshl (1 : Int32) x2)) fun (x4 : Int32) => f214_l4 a1 M n x4 (x2 + (1 : Int32)) else zlet (x1 ||| (0 : Int32)) fun (x3 : Int32) => f214_l4 a1 M n x3 (x2 + (1 : Int32))) else none else some x1)

def f214_voicesFor (a1 : Int32) (M : ZI) : Option Int32 :=
  (f214_l4 a1 M zfu (0 : Int32) (0 : Int32)).bind fun x5 =>
  some x5

def f215_l4 (a1 : Int32) : Nat → Int32 → Int32 → ZI → Option (Int32 × ZI)
  | 0, _, _, _ => none
  | n + 1, x1, x2, M4 =>
  (if x2 < (M4 149 54) then if zin ((162 : Int32) + x2) 2064 = true then zlet (M4 149 (zi ((162 : Int32) + x2))) fun (x5 : Int32) => (if x5 < (40 : Int32) then (if x5 < (20 : Int32) then if zin x1 420 = true then zlet (zs M4 159 (zi x1) ((zshr a1 x5) &&& (1 : Int32))) fun (M11 : ZI) => f215_l4 a1 n (x1 + (1 : Int32)) (x2 + (1 : Int32)) M11 else none else (f209_count a1).bind fun v8 => (if v8 < (x5 - (20 : Int32)) then if zin x1 420 = true then zlet (zs M4 159 (zi x1) (0 : Int32)) fun (M9 : ZI) => f215_l4 a1 n (x1 + (1 : Int32)) (x2 + (1 : Int32)) M9 else none else if zin x1 420 = true then zlet (zs M4 159 (zi x1) (1 : Int32)) fun (M10 : ZI) => f215_l4 a1 n (x1 + (1 : Int32)) (x2 + (1 : Int32)) M10 else none)) else (if x5 = (40 : Int32) then if zin ((x1 + (-1 : Int32)) - (1 : Int32)) 420 = true then if zin (x1 + (-1 : Int32)) 420 = true then if zin ((x1 + (-1 : Int32)) - (1 : Int32)) 420 = true then zlet (zs M4 159 (zi ((x1 + (-1 : Int32)) - (1 : Int32))) ((M4 159 (zi ((x1 + (-1 : Int32)) - (1 : Int32)))) &&& (M4 159 (zi (x1 + (-1 : Int32)))))) fun (M7 : ZI) => f215_l4 a1 n (x1 + (-1 : Int32)) (x2 + (1 : Int32)) M7 else none else none else none else if zin ((x1 + (-1 : Int32)) - (1 : Int32)) 420 = true then if zin (x1 + (-1 : Int32)) 420 = true then if zin ((x1 + (-1 : Int32)) - (1 : Int32)) 420 = true then zlet (zs M4 159 (zi ((x1 + (-1 : Int32)) - (1 : Int32))) ((M4 159 (zi ((x1 + (-1 : Int32)) - (1 : Int32)))) ||| (M4 159 (zi (x1 + (-1 : Int32)))))) fun (M6 : ZI) => f215_l4 a1 n (x1 + (-1 : Int32)) (x2 + (1 : Int32)) M6 else none else none else none)) else none else some (x1, M4))

def f215_satisfies (a1 : Int32) (M : ZI) : Option (Int32 × ZI) :=
  (f215_l4 a1 zfu (0 : Int32) (0 : Int32) M).bind fun (x12, M13) =>
  (if x12 = 0 then some ((1 : Int32), M13) else (if (M13 159 0) = (1 : Int32) then some ((1 : Int32), M13) else some ((0 : Int32), M13)))

def f216_isBefore (a1 : Int32) (a2 : Int32) (M : ZI) : Option (Int32 × ZI) :=
  (if a2 = (-1 : Int32) then some ((1 : Int32), M) else (f206_sumFor a1 M).bind fun (v1, M2) => (f206_sumFor a2 M2).bind fun (v3, M4) => zlet (v1 - v3) fun (x5 : Int32) => (if 0 < x5 then some ((1 : Int32), M4) else (if x5 = 0 then if zin ((60 : Int32) + a1) 2064 = true then if zin ((60 : Int32) + a2) 2064 = true then (if (M4 149 (zi ((60 : Int32) + a2))) < (M4 149 (zi ((60 : Int32) + a1))) then some ((1 : Int32), M4) else some ((0 : Int32), M4)) else none else none else some ((0 : Int32), M4))))

def f205_l4  : Nat → Int32 → Int32 → ZI → Option (Int32 × ZI)
  | 0, _, _, _ => none
  | n + 1, x1, x2, M3 =>
  (if x2 < (M3 149 48) then (f206_sumFor x2 M3).bind fun (v4, M5) => (if 0 < v4 then (f214_voicesFor x2 M5).bind fun v6 => (f215_satisfies v6 M5).bind fun (v7, M8) => (if v7 = 0 then f205_l4 n x1 (x2 + (1 : Int32)) M8 else (f216_isBefore x2 x1 M8).bind fun (v9, M10) => (if v9 = 0 then f205_l4 n x1 (x2 + (1 : Int32)) M10 else f205_l4 n x2 (x2 + (1 : Int32)) M10)) else f205_l4 n x1 (x2 + (1 : Int32)) M5) else some (x1, M3))

def f205_givenNow (M : ZI) : Option (Int32 × ZI) :=
  (f205_l4 zfu (-1 : Int32) (0 : Int32) M).bind fun (x11, M12) =>
  some (x11, M12)

def f217_notes (a1 : Int32) (a2 : Int32) (a3 : Int32) (M : ZI) : Option ZI :=
  (if (M 148 30) = 0 then some M else (if (M 149 5) = (150 : Int32) then some M else zlet ((578 : Int32) + ((4 : Int32) * (M 149 5))) fun (x1 : Int32) => if zin x1 2064 = true then zlet (zs M 149 (zi x1) (M 149 0)) fun (M2 : ZI) => if zin (x1 + (1 : Int32)) 2064 = true then zlet (zs M2 149 (zi (x1 + (1 : Int32))) a1) fun (M3 : ZI) => if zin (x1 + (2 : Int32)) 2064 = true then zlet (zs M3 149 (zi (x1 + (2 : Int32))) a2) fun (M4 : ZI) => if zin (x1 + (3 : Int32)) 2064 = true then zlet (zs M4 149 (zi (x1 + (3 : Int32))) a3) fun (M5 : ZI) => zlet (zs M5 149 5 ((M5 149 5) + (1 : Int32))) fun (M6 : ZI) => some M6 else none else none else none else none))

def f219_hoursNow (M : ZI) : Option Int32 :=
  some ((24 : Int32) - (M 149 1))

def f222_ofWork (a1 : Int32) (a2 : Int32) (M : ZI) : Option Int32 :=
  if zin (((90 : Int32) + ((6 : Int32) * a1)) + a2) 2064 = true then some (M 149 (zi (((90 : Int32) + ((6 : Int32) * a1)) + a2))) else none

def f221_l5 (a1 : Int32) (a2 : Int32) (M : ZI) : Nat → Int32 → Int32 → Option (Int32)
  | 0, _, _ => none
  | n + 1, x1, x2 =>
  (if x2 < (M 149 52) then (if ((zshr a1 x2) &&& (1 : Int32)) = (1 : Int32) then (f222_ofWork x2 a2 M).bind fun v4 => zlet (x1 + v4) fun (x5 : Int32) => f221_l5 a1 a2 M n x5 (x2 + (1 : Int32)) else zlet (x1 + (0 : Int32)) fun (x3 : Int32) => f221_l5 a1 a2 M n x3 (x2 + (1 : Int32))) else some x1)

def f221_sumOf (a1 : Int32) (a2 : Int32) (M : ZI) : Option Int32 :=
  (f221_l5 a1 a2 M zfu (0 : Int32) (0 : Int32)).bind fun x6 =>
  some x6

def f224_isDone (a1 : Int32) (M : ZI) : Option Int32 :=
  (if ((zshr (M 149 6) a1) &&& (1 : Int32)) = (1 : Int32) then some (1 : Int32) else some (0 : Int32))

def f223_l2 (a1 : Int32) (a2 : Int32) (M : ZI) : Nat → Int32 → Option Int32
  | 0, _ => none
  | n + 1, x1 =>
  (if x1 < (M 149 52) then (if ((zshr a1 x1) &&& (1 : Int32)) = 0 then f223_l2 a1 a2 M n (x1 + (1 : Int32)) else (f222_ofWork x1 (5 : Int32) M).bind fun v3 => (f222_ofWork x1 (0 : Int32) M).bind fun v4 => (if v4 = a2 then (if v3 = (-1 : Int32) then f223_l2 a1 a2 M n (x1 + (1 : Int32)) else (f224_isDone v3 M).bind fun v5 => (if v5 = 0 then (if ((zshr a1 v3) &&& (1 : Int32)) = 0 then some (0 : Int32) else f223_l2 a1 a2 M n (x1 + (1 : Int32))) else f223_l2 a1 a2 M n (x1 + (1 : Int32)))) else some (0 : Int32))) else some (1 : Int32))

def f223_goTogether (a1 : Int32) (a2 : Int32) (M : ZI) : Option Int32 :=
  f223_l2 a1 a2 M zfu (0 : Int32)

def f220_l5 (a1 : Int32) (a2 : Int32) (M : ZI) : Nat → Int32 → Int32 → Option (Int32)
  | 0, _, _ => none
  | n + 1, x1, x2 =>
  (if x2 < (zshl (1 : Int32) (M 149 52)) then (if (x2 &&& (M 149 6)) = 0 then (f221_sumOf x2 (1 : Int32) M).bind fun v4 => (if a2 < v4 then f220_l5 a1 a2 M n x1 (x2 + (1 : Int32)) else (f223_goTogether x2 a1 M).bind fun v5 => (if v5 = 0 then f220_l5 a1 a2 M n x1 (x2 + (1 : Int32)) else (f221_sumOf x2 (2 : Int32) M).bind fun v6 => (f221_sumOf x1 (2 : Int32) M).bind fun v7 => zlet (v6 - v7) fun (x8 : Int32) => (if 0 < x8 then f220_l5 a1 a2 M n x2 (x2 + (1 : Int32)) else (if x8 = 0 then (f221_sumOf x2 (1 : Int32) M).bind fun v9 => (f221_sumOf x1 (1 : Int32) M).bind fun v10 => (if v9 < v10 then f220_l5 a1 a2 M n x2 (x2 + (1 : Int32)) else f220_l5 a1 a2 M n x1 (x2 + (1 : Int32))) else f220_l5 a1 a2 M n x1 (x2 + (1 : Int32)))))) else f220_l5 a1 a2 M n x1 (x2 + (1 : Int32))) else some x1)

def f220_planOf (a1 : Int32) (a2 : Int32) (M : ZI) : Option Int32 :=
  (f220_l5 a1 a2 M zfu (0 : Int32) (1 : Int32)).bind fun x11 =>
  some x11

def f225_wearOf (a1 : Int32) (a2 : Int32) (M : ZI) : Option (Int32 × ZI) :=
  (f208_says (21 : Int32) a1 a2 (a2 / (8 : Int32)) (24 : Int32) M).bind fun (v1, M2) => some (v1, M2)

def f226_noticeOf (a1 : Int32) (a2 : Int32) (M : ZI) : Option (Int32 × ZI) :=
  (f208_says (22 : Int32) a1 a2 (100 : Int32) (1000 : Int32) M).bind fun (v1, M2) => some (v1, M2)

def f227_draw (a1 : Int32) (M : ZI) : Option (Int32 × ZI) :=
  zlet (zs M 149 4 (((1664525 : Int32) * (M 149 4)) + (1013904223 : Int32))) fun (M1 : ZI) => if a1 = 0 then none else some ((zrem (zushr (M1 149 4) (8 : Int32)) a1), M1)

def f218_l69 (v2 : Int32) : Nat → Int32 → ZI → Option (ZI)
  | 0, _, _ => none
  | n + 1, x12, M13 =>
  (if x12 < (M13 149 52) then (if ((zshr v2 x12) &&& (1 : Int32)) = (1 : Int32) then (f222_ofWork x12 (1 : Int32) M13).bind fun v14 => (f217_notes (3 : Int32) x12 v14 M13).bind fun M15 => f218_l69 v2 n (x12 + (1 : Int32)) M15 else f218_l69 v2 n (x12 + (1 : Int32)) M13) else some M13)

def f218_gets (a1 : Int32) (M : ZI) : Option ZI :=
  (f219_hoursNow M).bind fun v1 => (f220_planOf a1 v1 M).bind fun v2 => (f221_sumOf v2 (1 : Int32) M).bind fun v3 => zlet (zs M 149 6 ((M 149 6) ||| v2)) fun (M4 : ZI) => (f221_sumOf v2 (2 : Int32) M4).bind fun v5 => zlet (zs M4 149 3 ((M4 149 3) + v5)) fun (M6 : ZI) => (f225_wearOf a1 v3 M6).bind fun (v7, M8) => (f226_noticeOf a1 v3 M8).bind fun (v9, M10) => (f217_notes (0 : Int32) a1 v3 M10).bind fun M11 => (f218_l69 v2 zfu (0 : Int32) M11).bind fun M16 =>
  if zin ((27 : Int32) + a1) 2064 = true then if zin ((27 : Int32) + a1) 2064 = true then zlet (zs M16 149 (zi ((27 : Int32) + a1)) ((M16 149 (zi ((27 : Int32) + a1))) + (1 : Int32))) fun (M18 : ZI) => if zin ((37 : Int32) + a1) 2064 = true then zlet (zs M18 149 (zi ((37 : Int32) + a1)) (-1 : Int32)) fun (M19 : ZI) => (f202_lesser (24 : Int32) ((M19 149 1) + v7)).bind fun v20 => zlet (zs M19 149 1 v20) fun (M21 : ZI) => (if (M21 148 30) = 0 then some M21 else (f227_draw (1000 : Int32) M21).bind fun (v22, M23) => (if v22 < v9 then zlet (zs M23 149 2 ((M23 149 2) + (1 : Int32))) fun (M24 : ZI) => (f217_notes (4 : Int32) a1 (0 : Int32) M24).bind fun M25 => some M25 else some M23)) else none else none else none

def f204_l93  : Nat → Int32 → ZI → Option (ZI)
  | 0, _, _ => none
  | n + 1, x13, M14 =>
  (if x13 < (M14 149 48) then if zin ((37 : Int32) + x13) 2064 = true then if zin ((37 : Int32) + x13) 2064 = true then zlet (zs M14 149 (zi ((37 : Int32) + x13)) ((M14 149 (zi ((37 : Int32) + x13))) + (1 : Int32))) fun (M15 : ZI) => if zin ((17 : Int32) + x13) 2064 = true then (f202_lesser (99 : Int32) ((M15 149 (zi ((17 : Int32) + x13))) + (1 : Int32))).bind fun v16 => if zin ((17 : Int32) + x13) 2064 = true then zlet (zs M15 149 (zi ((17 : Int32) + x13)) v16) fun (M17 : ZI) => f204_l93 n (x13 + (1 : Int32)) M17 else none else none else none else none else some M14)

def f204_aYear (M : ZI) : Option (Int32 × ZI) :=
  ((if (M 149 1) < (M 149 50) then some (0 : Int32) else some (1 : Int32)) : Option (Int32)).bind fun v1 =>
  ((if v1 = 0 then (f205_givenNow M).bind fun (v2, M3) => some (v2, M3) else some ((-1 : Int32), M)) : Option (Int32 × ZI)).bind fun (v4, M5) =>
  ((if v1 = 0 then some M5 else (f213_greater (0 : Int32) ((M5 149 1) - (M5 149 49))).bind fun v6 => zlet (zs M5 149 1 v6) fun (M7 : ZI) => some M7) : Option (ZI)).bind fun M8 =>
  ((if v4 = (-1 : Int32) then ((if v1 = 0 then some (2 : Int32) else some (1 : Int32)) : Option (Int32)).bind fun v10 =>
  (f217_notes v10 (-1 : Int32) (0 : Int32) M8).bind fun M11 => some M11 else (f218_gets v4 M8).bind fun M9 => some M9) : Option (ZI)).bind fun M12 =>
  (f204_l93 zfu (0 : Int32) M12).bind fun M18 =>
  zlet (zs M18 149 0 ((M18 149 0) + (1 : Int32))) fun (M20 : ZI) => some (v4, M20)

def f203_l35 (a1 : Int32) : Nat → Int32 → Int32 → ZI → Option (Int32 × ZI)
  | 0, _, _, _ => none
  | n + 1, x3, x4, M5 =>
  (if x4 < a1 then (f200_keeps M5).bind fun M6 => (f204_aYear M6).bind fun (v7, M8) => (if v7 = (-1 : Int32) then zlet (x3 + (0 : Int32)) fun (x9 : Int32) => f203_l35 a1 n x9 (x4 + (1 : Int32)) M8 else zlet (x3 + (1 : Int32)) fun (x10 : Int32) => f203_l35 a1 n x10 (x4 + (1 : Int32)) M8) else some (x3, M5))

def f203_years (a1 : Int32) (M : ZI) : Option (Int32 × ZI) :=
  (f149_isIn a1 (1 : Int32) (40 : Int32)).bind fun v1 => (if v1 = 0 then some ((-1 : Int32), M) else (if (999 : Int32) < ((M 149 0) + a1) then some ((-1 : Int32), M) else zlet (zs M 148 30 (1 : Int32)) fun (M2 : ZI) => (f203_l35 a1 zfu (0 : Int32) (0 : Int32) M2).bind fun (x11, M12) =>
  some (x11, M12)))

def f228_plan (a1 : Int32) (a2 : Int32) (a3 : Int32) (M : ZI) : Option Int32 :=
  (f152_isPerson a1 M).bind fun v1 => (if v1 = 0 then some (-1 : Int32) else (f149_isIn a2 (0 : Int32) (24 : Int32)).bind fun v2 => (if v2 = 0 then some (-1 : Int32) else (f149_isIn a3 (0 : Int32) (2 : Int32)).bind fun v3 => (if v3 = 0 then some (-1 : Int32) else (f220_planOf a1 a2 M).bind fun v4 => (if a3 = 0 then (f221_sumOf v4 (2 : Int32) M).bind fun v6 => some v6 else (if a3 = (1 : Int32) then (f221_sumOf v4 (1 : Int32) M).bind fun v5 => some v5 else some v4)))))

def f229_of (a1 : Int32) (a2 : Int32) (M : ZI) : Option (Int32 × ZI) :=
  (f152_isPerson a1 M).bind fun v1 => (if v1 = 0 then some ((-2 : Int32), M) else (if a2 = (0 : Int32) then if zin ((17 : Int32) + a1) 2064 = true then some ((M 149 (zi ((17 : Int32) + a1))), M) else none else if a2 = (1 : Int32) then if zin ((60 : Int32) + a1) 2064 = true then some ((M 149 (zi ((60 : Int32) + a1))), M) else none else if a2 = (2 : Int32) then if zin ((70 : Int32) + a1) 2064 = true then some ((M 149 (zi ((70 : Int32) + a1))), M) else none else if a2 = (3 : Int32) then if zin ((27 : Int32) + a1) 2064 = true then some ((M 149 (zi ((27 : Int32) + a1))), M) else none else if a2 = (4 : Int32) then if zin ((37 : Int32) + a1) 2064 = true then some ((M 149 (zi ((37 : Int32) + a1))), M) else none else if a2 = (5 : Int32) then if zin ((80 : Int32) + a1) 2064 = true then some ((M 149 (zi ((80 : Int32) + a1))), M) else none else if a2 = (6 : Int32) then if zin ((7 : Int32) + a1) 2064 = true then some ((M 149 (zi ((7 : Int32) + a1))), M) else none else if a2 = (7 : Int32) then (f207_weightOf a1 M).bind fun (v2, M3) => some (v2, M3) else if a2 = (8 : Int32) then (f206_sumFor a1 M).bind fun (v4, M5) => some (v4, M5) else some ((-2 : Int32), M)))

def f230_after (a1 : Int32) (a2 : Int32) (a3 : Int32) (M : ZI) : Option (Int32 × ZI) :=
  (f152_isPerson a1 M).bind fun v1 => (if v1 = 0 then some ((-1 : Int32), M) else (f149_isIn a2 (0 : Int32) (24 : Int32)).bind fun v2 => (if v2 = 0 then some ((-1 : Int32), M) else (if a3 = 0 then (f225_wearOf a1 a2 M).bind fun (v3, M4) => some (v3, M4) else (f226_noticeOf a1 a2 M).bind fun (v5, M6) => some (v5, M6))))

def f231_work (a1 : Int32) (a2 : Int32) (M : ZI) : Option Int32 :=
  (f149_isIn a1 (0 : Int32) ((M 149 52) - (1 : Int32))).bind fun v1 => (if v1 = 0 then some (-2 : Int32) else (f149_isIn a2 (0 : Int32) (6 : Int32)).bind fun v2 => (if v2 = 0 then some (-2 : Int32) else (if a2 < (6 : Int32) then (f222_ofWork a1 a2 M).bind fun v4 => some v4 else (f224_isDone a1 M).bind fun v3 => (if v3 = 0 then some (0 : Int32) else some (1 : Int32)))))

def f232_book (a1 : Int32) (a2 : Int32) (M : ZI) : Option Int32 :=
  (f149_isIn a1 (0 : Int32) ((M 149 5) - (1 : Int32))).bind fun v1 => (if v1 = 0 then some (-2 : Int32) else (f149_isIn a2 (0 : Int32) (3 : Int32)).bind fun v2 => (if v2 = 0 then some (-2 : Int32) else if zin (((578 : Int32) + ((4 : Int32) * a1)) + a2) 2064 = true then some (M 149 (zi (((578 : Int32) + ((4 : Int32) * a1)) + a2))) else none))

def f234_all (M : ZI) : Option Int32 :=
  some ((zshl (1 : Int32) (M 149 48)) - (1 : Int32))

def f233_does (a1 : Int32) (M : ZI) : Option (Int32 × ZI) :=
  (f234_all M).bind fun v1 => (f215_satisfies (a1 &&& v1) M).bind fun (v2, M3) => if zbl v2 = true then some (v2, M3) else none

def f235_l24  : Nat → Int32 → ZI → Option (ZI)
  | 0, _, _ => none
  | n + 1, x3, M4 =>
  (if x3 < (48 : Int32) then if zin x3 2064 = true then if zin x3 48 = true then zlet (zs M4 152 (zi x3) (M4 149 (zi x3))) fun (M5 : ZI) => f235_l24 n (x3 + (1 : Int32)) M5 else none else none else some M4)

def f235_l61 (a1 : Int32) : Nat → Int32 → Int32 → Int32 → ZI → Option (Int32 × Int32 × ZI)
  | 0, _, _, _, _ => none
  | n + 1, x9, x10, x11, M12 =>
  (if x11 < a1 then ((if (M12 149 1) < (M12 149 50) then some (0 : Int32) else some (1 : Int32)) : Option (Int32)).bind fun v13 =>
  zlet (x9 + v13) fun (x14 : Int32) => (f204_aYear M12).bind fun (v15, M16) => f235_l61 a1 n x14 v15 (x11 + (1 : Int32)) M16 else some (x9, x10, M12))

def f235_l121  : Nat → Int32 → ZI → Option (ZI)
  | 0, _, _ => none
  | n + 1, x22, M23 =>
  (if x22 < (48 : Int32) then if zin x22 48 = true then if zin x22 2064 = true then zlet (zs M23 149 (zi x22) (M23 152 (zi x22))) fun (M24 : ZI) => f235_l121 n (x22 + (1 : Int32)) M24 else none else none else some M23)

def f235_given (a1 : Int32) (a2 : Int32) (M : ZI) : Option (Int32 × ZI) :=
  (f149_isIn a1 (1 : Int32) (40 : Int32)).bind fun v1 => (if v1 = 0 then some ((-2 : Int32), M) else (f149_isIn a2 (0 : Int32) (2 : Int32)).bind fun v2 => (if v2 = 0 then some ((-2 : Int32), M) else (f235_l24 zfu (0 : Int32) M).bind fun M6 =>
  zlet (zs M6 148 30 (0 : Int32)) fun (M8 : ZI) => (f235_l61 a1 zfu (0 : Int32) (-1 : Int32) (0 : Int32) M8).bind fun (x17, x18, M19) =>
  zlet ((M19 149 3) - (M19 152 3)) fun (x21 : Int32) => (f235_l121 zfu (0 : Int32) M19).bind fun M25 =>
  (if a2 = 0 then some (x18, M25) else (if a2 = (1 : Int32) then some (x17, M25) else some (x21, M25)))))

def f236_l12  : Nat → Int32 → ZI → Option (ZI)
  | 0, _, _ => none
  | n + 1, x2, M3 =>
  (if x2 < (48 : Int32) then if zin x2 2064 = true then if zin x2 48 = true then zlet (zs M3 152 (zi x2) (M3 149 (zi x2))) fun (M4 : ZI) => f236_l12 n (x2 + (1 : Int32)) M4 else none else none else some M3)

def f236_l45 (a1 : Int32) : Nat → Int32 → Int32 → ZI → Option (Int32 × ZI)
  | 0, _, _, _ => none
  | n + 1, x8, x9, M10 =>
  (if x9 < (40 : Int32) then (if x8 = (-1 : Int32) then (f204_aYear M10).bind fun (v11, M12) => (if v11 = a1 then f236_l45 a1 n x9 (x9 + (1 : Int32)) M12 else f236_l45 a1 n (-1 : Int32) (x9 + (1 : Int32)) M12) else some (x8, M10)) else some (x8, M10))

def f236_l78  : Nat → Int32 → ZI → Option (ZI)
  | 0, _, _ => none
  | n + 1, x16, M17 =>
  (if x16 < (48 : Int32) then if zin x16 48 = true then if zin x16 2064 = true then zlet (zs M17 149 (zi x16) (M17 152 (zi x16))) fun (M18 : ZI) => f236_l78 n (x16 + (1 : Int32)) M18 else none else none else some M17)

def f236_soonest (a1 : Int32) (M : ZI) : Option (Int32 × ZI) :=
  (f152_isPerson a1 M).bind fun v1 => (if v1 = 0 then some ((-1 : Int32), M) else (f236_l12 zfu (0 : Int32) M).bind fun M5 =>
  zlet (zs M5 148 30 (0 : Int32)) fun (M7 : ZI) => (f236_l45 a1 zfu (-1 : Int32) (0 : Int32) M7).bind fun (x13, M14) =>
  (f236_l78 zfu (0 : Int32) M14).bind fun M19 =>
  some (x13, M19))

def f238_isNeedier (a1 : Int32) (a2 : Int32) (M : ZI) : Option Int32 :=
  (if a2 = (-1 : Int32) then some (1 : Int32) else if zin ((60 : Int32) + a1) 2064 = true then if zin ((60 : Int32) + a2) 2064 = true then zlet ((M 149 (zi ((60 : Int32) + a1))) - (M 149 (zi ((60 : Int32) + a2)))) fun (x1 : Int32) => (if 0 < x1 then some (1 : Int32) else (if x1 = 0 then if zin ((17 : Int32) + a1) 2064 = true then if zin ((17 : Int32) + a2) 2064 = true then (if (M 149 (zi ((17 : Int32) + a2))) < (M 149 (zi ((17 : Int32) + a1))) then some (1 : Int32) else some (0 : Int32)) else none else none else some (0 : Int32))) else none else none)

def f237_l4 (M : ZI) : Nat → Int32 → Int32 → Option (Int32)
  | 0, _, _ => none
  | n + 1, x1, x2 =>
  (if x2 < (M 149 48) then if zin ((27 : Int32) + x2) 2064 = true then (if (M 149 (zi ((27 : Int32) + x2))) = 0 then (f238_isNeedier x2 x1 M).bind fun v3 => (if v3 = 0 then f237_l4 M n x1 (x2 + (1 : Int32)) else f237_l4 M n x2 (x2 + (1 : Int32))) else f237_l4 M n x1 (x2 + (1 : Int32))) else none else some x1)

def f237_next (M : ZI) : Option Int32 :=
  (f237_l4 M zfu (-1 : Int32) (0 : Int32)).bind fun x4 =>
  some x4

def f239_l20 (M : ZI) : Nat → Int32 → Int32 → Int32 → Option (Int32 × Int32)
  | 0, _, _, _ => none
  | n + 1, x2, x3, x4 =>
  (if x4 < (M 149 48) then if zin ((27 : Int32) + x4) 2064 = true then (if 0 < (M 149 (zi ((27 : Int32) + x4))) then f239_l20 M n x2 x3 (x4 + (1 : Int32)) else if zin ((60 : Int32) + x4) 2064 = true then zlet (x2 + (M 149 (zi ((60 : Int32) + x4)))) fun (x5 : Int32) => if zin ((70 : Int32) + x4) 2064 = true then (if (M 149 (zi ((70 : Int32) + x4))) < (M 149 0) then f239_l20 M n x5 x3 (x4 + (1 : Int32)) else if zin ((70 : Int32) + x4) 2064 = true then (f202_lesser x3 ((M 149 (zi ((70 : Int32) + x4))) - (M 149 0))).bind fun v6 => f239_l20 M n x5 v6 (x4 + (1 : Int32)) else none) else none else none) else none else some (x2, x3))

def f239_due (a1 : Int32) (M : ZI) : Option Int32 :=
  (f149_isIn a1 (0 : Int32) (1 : Int32)).bind fun v1 => (if v1 = 0 then some (-1 : Int32) else (f239_l20 M zfu (0 : Int32) (100000 : Int32) (0 : Int32)).bind fun (x7, x8) =>
  (if a1 = 0 then some x7 else (if x8 = (100000 : Int32) then some (-1 : Int32) else some x8)))

def f240_l23 (M : ZI) : Nat → Int32 → Int32 → Int32 → Int32 → Option (Int32 × Int32 × Int32)
  | 0, _, _, _, _ => none
  | n + 1, x2, x3, x4, x5 =>
  (if x5 < (M 149 48) then if zin ((27 : Int32) + x5) 2064 = true then (f202_lesser x2 (M 149 (zi ((27 : Int32) + x5)))).bind fun v6 => if zin ((27 : Int32) + x5) 2064 = true then (f213_greater x3 (M 149 (zi ((27 : Int32) + x5)))).bind fun v7 => if zin ((27 : Int32) + x5) 2064 = true then (if 0 < (M 149 (zi ((27 : Int32) + x5))) then (if x4 = (-1 : Int32) then f240_l23 M n v6 v7 x5 (x5 + (1 : Int32)) else if zin ((37 : Int32) + x5) 2064 = true then if zin ((37 : Int32) + x4) 2064 = true then (if (M 149 (zi ((37 : Int32) + x5))) < (M 149 (zi ((37 : Int32) + x4))) then f240_l23 M n v6 v7 x5 (x5 + (1 : Int32)) else f240_l23 M n v6 v7 x4 (x5 + (1 : Int32))) else none else none) else f240_l23 M n v6 v7 x4 (x5 + (1 : Int32))) else none else none else none else some (x2, x3, x4))

def f240_spread (a1 : Int32) (M : ZI) : Option Int32 :=
  (f149_isIn a1 (0 : Int32) (1 : Int32)).bind fun v1 => (if v1 = 0 then some (-1 : Int32) else (f240_l23 M zfu (100000 : Int32) (0 : Int32) (-1 : Int32) (0 : Int32)).bind fun (x8, x9, x10) =>
  (if a1 = (1 : Int32) then some x10 else (if (M 149 48) = 0 then some (0 : Int32) else some (x9 - x8))))

def f241_l25 (a1 : Int32) : Nat → Int32 → Int32 → ZI → Option (Int32 × ZI)
  | 0, _, _, _ => none
  | n + 1, x3, x4, M6 =>
  (if x4 < (M6 149 48) then (if x4 = a1 then f241_l25 a1 n x3 (x4 + (1 : Int32)) M6 else if zin ((80 : Int32) + a1) 2064 = true then zlet (zs M6 149 (zi ((80 : Int32) + a1)) x4) fun (M7 : ZI) => (f205_givenNow M7).bind fun (v8, M9) => (if v8 = (-1 : Int32) then zlet (x3 ||| (0 : Int32)) fun (x11 : Int32) => f241_l25 a1 n x11 (x4 + (1 : Int32)) M9 else zlet (x3 ||| (zshl (1 : Int32) v8)) fun (x10 : Int32) => f241_l25 a1 n x10 (x4 + (1 : Int32)) M9) else none) else some (x3, M6))

def f241_can (a1 : Int32) (M : ZI) : Option (Int32 × ZI) :=
  (f152_isPerson a1 M).bind fun v1 => (if v1 = 0 then some ((-1 : Int32), M) else if zin ((80 : Int32) + a1) 2064 = true then zlet (M 149 (zi ((80 : Int32) + a1))) fun (x2 : Int32) => (f241_l25 a1 zfu (0 : Int32) (-1 : Int32) M).bind fun (x12, M13) =>
  if zin ((80 : Int32) + a1) 2064 = true then zlet (zs M13 149 (zi ((80 : Int32) + a1)) x2) fun (M16 : ZI) => some (x12, M16) else none else none)

def f242_l24 (a1 : Int32) : Nat → Int32 → Int32 → ZI → Option (Int32 × ZI)
  | 0, _, _, _ => none
  | n + 1, x3, x4, M5 =>
  (f234_all M5).bind fun v6 => (if v6 < x4 then some (x3, M5) else (if ((zshr x4 a1) &&& (1 : Int32)) = 0 then (f215_satisfies x4 M5).bind fun (v7, M8) => (if v7 = 0 then f242_l24 a1 n x3 (x4 + (1 : Int32)) M8 else (if x3 = (-1 : Int32) then f242_l24 a1 n x4 (x4 + (1 : Int32)) M8 else (f209_count x4).bind fun v9 => (f209_count x3).bind fun v10 => (if v9 < v10 then f242_l24 a1 n x4 (x4 + (1 : Int32)) M8 else f242_l24 a1 n x3 (x4 + (1 : Int32)) M8))) else f242_l24 a1 n x3 (x4 + (1 : Int32)) M5))

def f242_fewest (a1 : Int32) (a2 : Int32) (M : ZI) : Option (Int32 × ZI) :=
  (f152_isPerson a1 M).bind fun v1 => (if v1 = 0 then some ((-1 : Int32), M) else (f149_isIn a2 (0 : Int32) (1 : Int32)).bind fun v2 => (if v2 = 0 then some ((-1 : Int32), M) else (f242_l24 a1 zfu (-1 : Int32) (0 : Int32) M).bind fun (x11, M12) =>
  (if x11 = (-1 : Int32) then some (x11, M12) else (if a2 = (1 : Int32) then some (x11, M12) else (f209_count x11).bind fun v14 => some (v14, M12)))))

def f244_l2 (a1 : Int32) : Nat → Int32 → ZI → Option (Int32 × ZI)
  | 0, _, _ => none
  | n + 1, x1, M2 =>
  (if x1 < (M2 149 48) then (if ((zshr a1 x1) &&& (1 : Int32)) = (1 : Int32) then (f215_satisfies (a1 &&& ((zshl (1 : Int32) x1) ^^^ (-1 : Int32))) M2).bind fun (v3, M4) => (if v3 = 0 then f244_l2 a1 n (x1 + (1 : Int32)) M4 else some ((0 : Int32), M4)) else f244_l2 a1 n (x1 + (1 : Int32)) M2) else some ((1 : Int32), M2))

def f244_needsAll (a1 : Int32) (M : ZI) : Option (Int32 × ZI) :=
  f244_l2 a1 zfu (0 : Int32) M

def f243_l24  : Nat → Int32 → Int32 → Int32 → Int32 → ZI → Option (Int32 × Int32 × Int32 × ZI)
  | 0, _, _, _, _, _ => none
  | n + 1, x3, x4, x5, x6, M7 =>
  (f234_all M7).bind fun v8 => (if v8 < x6 then some (x3, x4, x5, M7) else (f215_satisfies x6 M7).bind fun (v9, M10) => (if v9 = 0 then f243_l24 n x3 x4 x5 (x6 + (1 : Int32)) M10 else (f244_needsAll x6 M10).bind fun (v11, M12) => ((if v11 = 0 then some (0 : Int32) else some (1 : Int32)) : Option (Int32)).bind fun v13 =>
  zlet (x4 + v13) fun (x14 : Int32) => zlet (x5 &&& x6) fun (x15 : Int32) => f243_l24 n (x3 + (1 : Int32)) x14 x15 (x6 + (1 : Int32)) M12))

def f243_doers (a1 : Int32) (M : ZI) : Option (Int32 × ZI) :=
  (f149_isIn a1 (0 : Int32) (2 : Int32)).bind fun v1 => (if v1 = 0 then some ((-1 : Int32), M) else (f234_all M).bind fun v2 => (f243_l24 zfu (0 : Int32) (0 : Int32) v2 (0 : Int32) M).bind fun (x16, x17, x18, M19) =>
  (if a1 = 0 then some (x16, M19) else (if a1 = (1 : Int32) then some (x17, M19) else some (x18, M19))))

def f245_l14 (a1 : Int32) : Nat → Int32 → Int32 → ZI → Option (Int32 × ZI)
  | 0, _, _, _ => none
  | n + 1, x2, x3, M4 =>
  (f234_all M4).bind fun v5 => (if v5 < x3 then some (x2, M4) else (if ((zshr x3 a1) &&& (1 : Int32)) = 0 then (f215_satisfies x3 M4).bind fun (v7, M8) => (if v7 = 0 then (f215_satisfies (x3 ||| (zshl (1 : Int32) a1)) M8).bind fun (v10, M11) => (if v10 = 0 then zlet (x2 + (0 : Int32)) fun (x12 : Int32) => f245_l14 a1 n x12 (x3 + (1 : Int32)) M11 else zlet (x2 + (1 : Int32)) fun (x13 : Int32) => f245_l14 a1 n x13 (x3 + (1 : Int32)) M11) else zlet (x2 + (0 : Int32)) fun (x9 : Int32) => f245_l14 a1 n x9 (x3 + (1 : Int32)) M8) else zlet (x2 + (0 : Int32)) fun (x6 : Int32) => f245_l14 a1 n x6 (x3 + (1 : Int32)) M4))

def f245_hinge (a1 : Int32) (M : ZI) : Option (Int32 × ZI) :=
  (f152_isPerson a1 M).bind fun v1 => (if v1 = 0 then some ((-1 : Int32), M) else (f245_l14 a1 zfu (0 : Int32) (0 : Int32) M).bind fun (x14, M15) =>
  some (x14, M15))

def f248_isInTime (a1 : Int32) (a2 : Int32) (M : ZI) : Option Int32 :=
  if zin ((70 : Int32) + a1) 2064 = true then (if (M 149 (zi ((70 : Int32) + a1))) < ((M 149 0) + a2) then some (0 : Int32) else some (1 : Int32)) else none

def f247_l44 (a1 : Int32) (x1 : Int32) (x6 : Int32) (M9 : ZI) : Nat → Int32 → Int32 → Option (Int32)
  | 0, _, _ => none
  | n + 1, x12, x13 =>
  (if x13 < (M9 149 48) then (if x1 < a1 then (if ((zshr x6 x13) &&& (1 : Int32)) = (1 : Int32) then (f248_isInTime x13 x1 M9).bind fun v14 => (if v14 = 0 then f247_l44 a1 x1 x6 M9 n x12 (x13 + (1 : Int32)) else if zin (((1024 : Int32) * (x1 + (1 : Int32))) + (x6 &&& ((zshl (1 : Int32) x13) ^^^ (-1 : Int32)))) 11264 = true then (f213_greater x12 ((1 : Int32) + (M9 161 (zi (((1024 : Int32) * (x1 + (1 : Int32))) + (x6 &&& ((zshl (1 : Int32) x13) ^^^ (-1 : Int32)))))))).bind fun v15 => f247_l44 a1 x1 x6 M9 n v15 (x13 + (1 : Int32)) else none) else f247_l44 a1 x1 x6 M9 n x12 (x13 + (1 : Int32))) else some x12) else some x12)

def f247_l8 (a1 : Int32) (x1 : Int32) : Nat → Int32 → ZI → Option (ZI)
  | 0, _, _ => none
  | n + 1, x6, M9 =>
  (f234_all M9).bind fun v10 => (if v10 < x6 then some M9 else ((if x1 = a1 then some (0 : Int32) else if zin (((1024 : Int32) * (x1 + (1 : Int32))) + x6) 11264 = true then some (M9 161 (zi (((1024 : Int32) * (x1 + (1 : Int32))) + x6))) else none) : Option (Int32)).bind fun v11 =>
  (f247_l44 a1 x1 x6 M9 zfu v11 (0 : Int32)).bind fun x16 =>
  if zin (((1024 : Int32) * x1) + x6) 11264 = true then zlet (zs M9 161 (zi (((1024 : Int32) * x1) + x6)) x16) fun (M18 : ZI) => f247_l8 a1 x1 n (x6 + (1 : Int32)) M18 else none)

def f247_l2 (a1 : Int32) : Nat → Int32 → ZI → Option (ZI)
  | 0, _, _ => none
  | n + 1, x1, M5 =>
  (if x1 < 0 then some M5 else (f247_l8 a1 x1 zfu (0 : Int32) M5).bind fun M19 =>
  f247_l2 a1 n (x1 + (-1 : Int32)) M19)

def f247_laysTurns (a1 : Int32) (M : ZI) : Option ZI :=
  (f247_l2 a1 zfu a1 M).bind fun M23 =>
  some M23

def f249_l2 (a1 : Int32) (a2 : Int32) (M : ZI) : Nat → Int32 → Option Int32
  | 0, _ => none
  | n + 1, x1 =>
  (if x1 < (M 149 48) then (if ((zshr a2 x1) &&& (1 : Int32)) = (1 : Int32) then (f248_isInTime x1 a1 M).bind fun v2 => (if v2 = 0 then f249_l2 a1 a2 M n (x1 + (1 : Int32)) else if zin (((1024 : Int32) * (a1 + (1 : Int32))) + (a2 &&& ((zshl (1 : Int32) x1) ^^^ (-1 : Int32)))) 11264 = true then if zin (((1024 : Int32) * a1) + a2) 11264 = true then (if ((1 : Int32) + (M 161 (zi (((1024 : Int32) * (a1 + (1 : Int32))) + (a2 &&& ((zshl (1 : Int32) x1) ^^^ (-1 : Int32))))))) = (M 161 (zi (((1024 : Int32) * a1) + a2))) then some x1 else f249_l2 a1 a2 M n (x1 + (1 : Int32))) else none else none) else f249_l2 a1 a2 M n (x1 + (1 : Int32))) else some (-1 : Int32))

def f249_takerIn (a1 : Int32) (a2 : Int32) (M : ZI) : Option Int32 :=
  f249_l2 a1 a2 M zfu (0 : Int32)

def f246_l60 (a2 : Int32) (M2 : ZI) : Nat → Int32 → Int32 → Int32 → Option (Int32)
  | 0, _, _, _ => none
  | n + 1, x4, x5, x6 =>
  (if (a2 - (10 : Int32)) < x6 then some x5 else (f249_takerIn x6 x4 M2).bind fun v7 => (if v7 = (-1 : Int32) then zlet (x4 &&& x4) fun (x9 : Int32) => f246_l60 a2 M2 n x9 v7 (x6 + (1 : Int32)) else zlet (x4 &&& ((zshl (1 : Int32) v7) ^^^ (-1 : Int32))) fun (x8 : Int32) => f246_l60 a2 M2 n x8 v7 (x6 + (1 : Int32))))

def f246_turnsOf (a1 : Int32) (a2 : Int32) (M : ZI) : Option (Int32 × ZI) :=
  (f149_isIn a1 (1 : Int32) (10 : Int32)).bind fun v1 => (if v1 = 0 then some ((-2 : Int32), M) else zlet (fun (_ : Unit) => ((f247_laysTurns a1 M).bind fun M2 => (if a2 = 0 then (f234_all M2).bind fun v13 => if zin v13 11264 = true then some ((M2 161 (zi v13)), M2) else none else (f234_all M2).bind fun v3 => (f246_l60 a2 M2 zfu v3 (-1 : Int32) (0 : Int32)).bind fun x10 =>
  some (x10, M2)) : Option (Int32 × ZI))) fun j14 =>
  (if a2 = 0 then j14 () else (f149_isIn a2 (10 : Int32) ((9 : Int32) + a1)).bind fun v15 => (if v15 = 0 then some ((-2 : Int32), M) else j14 ())))

def f250_traces (a1 : Int32) (a2 : Int32) (M : ZI) : Option (Int32 × ZI) :=
  (f149_isIn a1 (0 : Int32) (200 : Int32)).bind fun v1 => (if v1 = 0 then some ((0 : Int32), M) else (f149_isIn a2 (0 : Int32) (200 : Int32)).bind fun v2 => (if v2 = 0 then some ((0 : Int32), M) else zlet (zs M 149 56 a1) fun (M3 : ZI) => zlet (zs M3 149 57 a2) fun (M4 : ZI) => (f147_forgets M4).bind fun M5 => some ((1 : Int32), M5)))

def f253_fitsTraces (a1 : Int32) (a2 : Int32) (M : ZI) : Option Int32 :=
  (f221_sumOf a1 (3 : Int32) M).bind fun v1 => (if v1 = (M 149 56) then (f221_sumOf a1 (4 : Int32) M).bind fun v2 => (if v2 = (M 149 57) then (f221_sumOf a1 (1 : Int32) M).bind fun v3 => (if (24 : Int32) < v3 then some (0 : Int32) else (f223_goTogether a1 a2 M).bind fun v4 => (if v4 = 0 then some (0 : Int32) else some (1 : Int32))) else some (0 : Int32)) else some (0 : Int32))

def f252_l5 (a1 : Int32) (a2 : Int32) (M : ZI) : Nat → Int32 → Int32 → Option (Int32)
  | 0, _, _ => none
  | n + 1, x1, x2 =>
  (if x2 < (zshl (1 : Int32) (M 149 52)) then (if (x2 &&& a2) = a2 then (f253_fitsTraces x2 a1 M).bind fun v4 => (if v4 = 0 then zlet (x1 + (0 : Int32)) fun (x5 : Int32) => f252_l5 a1 a2 M n x5 (x2 + (1 : Int32)) else zlet (x1 + (1 : Int32)) fun (x6 : Int32) => f252_l5 a1 a2 M n x6 (x2 + (1 : Int32))) else zlet (x1 + (0 : Int32)) fun (x3 : Int32) => f252_l5 a1 a2 M n x3 (x2 + (1 : Int32))) else some x1)

def f252_fitsWith (a1 : Int32) (a2 : Int32) (M : ZI) : Option Int32 :=
  (f252_l5 a1 a2 M zfu (0 : Int32) (0 : Int32)).bind fun x7 =>
  some x7

def f251_l32 (a1 : Int32) (M : ZI) : Nat → Int32 → Option Int32
  | 0, _ => none
  | n + 1, x3 =>
  (if x3 < (zshl (1 : Int32) (M 149 52)) then (f253_fitsTraces x3 a1 M).bind fun v4 => (if v4 = 0 then f251_l32 a1 M n (x3 + (1 : Int32)) else some x3) else some (-1 : Int32))

def f251_fits (a1 : Int32) (a2 : Int32) (M : ZI) : Option Int32 :=
  (f152_isPerson a1 M).bind fun v1 => (if v1 = 0 then some (-1 : Int32) else (f149_isIn a2 (0 : Int32) (1 : Int32)).bind fun v2 => (if v2 = 0 then some (-1 : Int32) else (if a2 = 0 then (f252_fitsWith a1 (0 : Int32) M).bind fun v5 => some v5 else f251_l32 a1 M zfu (0 : Int32))))

def f254_l4 (M : ZI) : Nat → Int32 → Int32 → Option (Int32)
  | 0, _, _ => none
  | n + 1, x1, x2 =>
  (if x2 < (M 149 48) then (f251_fits x2 (1 : Int32) M).bind fun v3 => (if v3 = (-1 : Int32) then zlet (x1 ||| (0 : Int32)) fun (x4 : Int32) => f254_l4 M n x4 (x2 + (1 : Int32)) else zlet (x1 ||| (zshl (1 : Int32) x2)) fun (x5 : Int32) => f254_l4 M n x5 (x2 + (1 : Int32))) else some x1)

def f254_thieves (M : ZI) : Option Int32 :=
  (f254_l4 M zfu (0 : Int32) (0 : Int32)).bind fun x6 =>
  some x6

def f255_l27 (a1 : Int32) (M : ZI) (v2 : Int32) : Nat → Int32 → Int32 → Int32 → Option (Int32)
  | 0, _, _, _ => none
  | n + 1, x3, x4, x5 =>
  (if x5 < (M 149 52) then (if (1 : Int32) < v2 then (f252_fitsWith a1 (zshl (1 : Int32) x5) M).bind fun v7 => (f213_greater v7 (v2 - v7)).bind fun v8 => (if v8 < x4 then (f213_greater v7 (v2 - v7)).bind fun v9 => f255_l27 a1 M v2 n x5 v9 (x5 + (1 : Int32)) else f255_l27 a1 M v2 n x3 x4 (x5 + (1 : Int32))) else some x3) else some x3)

def f255_lookAt (a1 : Int32) (M : ZI) : Option Int32 :=
  (f152_isPerson a1 M).bind fun v1 => (if v1 = 0 then some (-1 : Int32) else (f252_fitsWith a1 (0 : Int32) M).bind fun v2 => (f255_l27 a1 M v2 zfu (-1 : Int32) (100000 : Int32) (0 : Int32)).bind fun x10 =>
  some x10)

def f257_ownOf (a0 : Int32) (a1 : Int32) (a2 : Int32) : Option Int32 :=
  (f213_greater (0 : Int32) (a0 - a2)).bind fun v1 => (f202_lesser a1 v1).bind fun v2 => some v2

def f256_share (a1 : Int32) (a2 : Int32) (a3 : Int32) (M : ZI) : Option Int32 :=
  (f149_isIn a1 (0 : Int32) (48 : Int32)).bind fun v1 => (if v1 = 0 then some (-1 : Int32) else (f149_isIn a2 (0 : Int32) (48 : Int32)).bind fun v2 => (if v2 = 0 then some (-1 : Int32) else (f149_isIn a3 (0 : Int32) (1 : Int32)).bind fun v3 => (if v3 = 0 then some (-1 : Int32) else (f219_hoursNow M).bind fun v4 => (if v4 < (a1 + a2) then (f257_ownOf v4 a1 a2).bind fun v5 => (f257_ownOf v4 a2 a1).bind fun v6 => zlet ((v4 - v5) - v6) fun (x7 : Int32) => (if a3 = 0 then (f202_lesser ((2 : Int32) * a1) (((2 : Int32) * v5) + x7)).bind fun v9 => some v9 else (f202_lesser ((2 : Int32) * a2) (((2 : Int32) * v6) + x7)).bind fun v8 => some v8) else (if a3 = 0 then some ((2 : Int32) * a1) else some ((2 : Int32) * a2))))))

def f258_bid (a1 : Int32) (a2 : Int32) (M : ZI) : Option (Int32 × ZI) :=
  (if a1 = (-1 : Int32) then zlet (zs M 149 55 (0 : Int32)) fun (M6 : ZI) => some ((0 : Int32), M6) else (f152_isPerson a1 M).bind fun v1 => (if v1 = 0 then some ((-1 : Int32), M) else (f149_isIn a2 (0 : Int32) (9999 : Int32)).bind fun v2 => (if v2 = 0 then some ((-1 : Int32), M) else (if (M 149 55) = (8 : Int32) then some ((-1 : Int32), M) else if zin ((562 : Int32) + ((2 : Int32) * (M 149 55))) 2064 = true then zlet (zs M 149 (zi ((562 : Int32) + ((2 : Int32) * (M 149 55)))) a1) fun (M3 : ZI) => if zin (((562 : Int32) + ((2 : Int32) * (M3 149 55))) + (1 : Int32)) 2064 = true then zlet (zs M3 149 (zi (((562 : Int32) + ((2 : Int32) * (M3 149 55))) + (1 : Int32))) a2) fun (M4 : ZI) => zlet (zs M4 149 55 ((M4 149 55) + (1 : Int32))) fun (M5 : ZI) => some ((M5 149 55), M5) else none else none))))

def f259_l25 (M : ZI) : Nat → Int32 → Int32 → Option (Int32)
  | 0, _, _ => none
  | n + 1, x2, x3 =>
  (if x3 < (M 149 55) then if zin (((562 : Int32) + ((2 : Int32) * x3)) + (1 : Int32)) 2064 = true then if zin (((562 : Int32) + ((2 : Int32) * x2)) + (1 : Int32)) 2064 = true then (if (M 149 (zi (((562 : Int32) + ((2 : Int32) * x2)) + (1 : Int32)))) < (M 149 (zi (((562 : Int32) + ((2 : Int32) * x3)) + (1 : Int32)))) then f259_l25 M n x3 (x3 + (1 : Int32)) else f259_l25 M n x2 (x3 + (1 : Int32))) else none else none else some x2)

def f259_l80 (M : ZI) (x4 : Int32) : Nat → Int32 → Int32 → Option (Int32)
  | 0, _, _ => none
  | n + 1, x6, x7 =>
  (if x7 < (M 149 55) then (if x7 = x4 then f259_l80 M x4 n x6 (x7 + (1 : Int32)) else if zin (((562 : Int32) + ((2 : Int32) * x7)) + (1 : Int32)) 2064 = true then (f213_greater x6 (M 149 (zi (((562 : Int32) + ((2 : Int32) * x7)) + (1 : Int32))))).bind fun v8 => f259_l80 M x4 n v8 (x7 + (1 : Int32)) else none) else some x6)

def f259_sold (a1 : Int32) (M : ZI) : Option Int32 :=
  (if (M 149 55) = 0 then some (-1 : Int32) else (f149_isIn a1 (0 : Int32) (1 : Int32)).bind fun v1 => (if v1 = 0 then some (-1 : Int32) else (f259_l25 M zfu (0 : Int32) (1 : Int32)).bind fun x4 =>
  (f259_l80 M x4 zfu (0 : Int32) (0 : Int32)).bind fun x9 =>
  (if a1 = 0 then if zin ((562 : Int32) + ((2 : Int32) * x4)) 2064 = true then some (M 149 (zi ((562 : Int32) + ((2 : Int32) * x4)))) else none else some x9)))

def f260_rests (a1 : Int32) (M : ZI) : Option Int32 :=
  (f149_isIn a1 (1 : Int32) (24 : Int32)).bind fun v1 => (if v1 = 0 then some (-1 : Int32) else (f213_greater (0 : Int32) ((M 149 50) - (M 149 1))).bind fun v2 => if a1 = 0 then none else some (((v2 + a1) - (1 : Int32)) / a1))

def f261_weekday (a1 : Int32) (a2 : Int32) (a3 : Int32) (a4 : Int32) : Option Int32 :=
  (f149_isIn a1 (0 : Int32) (364 : Int32)).bind fun v1 => (if v1 = 0 then some (-1 : Int32) else (f149_isIn a2 (0 : Int32) (999 : Int32)).bind fun v2 => (if v2 = 0 then some (-1 : Int32) else (f149_isIn a3 (0 : Int32) (1 : Int32)).bind fun v3 => (if v3 = 0 then some (-1 : Int32) else (f149_isIn a4 (0 : Int32) (364 : Int32)).bind fun v4 => (if v4 = 0 then some (-1 : Int32) else (if a1 < a4 then some (zrem (((((365 : Int32) * a2) + a1) + (a3 * a2)) + (0 : Int32)) (7 : Int32)) else some (zrem (((((365 : Int32) * a2) + a1) + (a3 * a2)) + a3) (7 : Int32)))))))

def f262_l50 (M : ZI) (x4 : Int32) : Nat → Int32 → Int32 → Option (Int32)
  | 0, _, _ => none
  | n + 1, x8, x9 =>
  (if x9 < (M 149 48) then (if ((zshr x4 x9) &&& (1 : Int32)) = (1 : Int32) then if zin ((7 : Int32) + x9) 2064 = true then zlet (x8 ||| (M 149 (zi ((7 : Int32) + x9)))) fun (x11 : Int32) => f262_l50 M x4 n x11 (x9 + (1 : Int32)) else none else zlet (x8 ||| (0 : Int32)) fun (x10 : Int32) => f262_l50 M x4 n x10 (x9 + (1 : Int32))) else some x8)

def f262_l25 (a2 : Int32) (M : ZI) : Nat → Int32 → Int32 → Option Int32
  | 0, _, _ => none
  | n + 1, x4, x5 =>
  (if x5 < (10 : Int32) then (if ((zshr x4 a2) &&& (1 : Int32)) = (1 : Int32) then some x5 else (f262_l50 M x4 zfu x4 (0 : Int32)).bind fun x12 =>
  f262_l25 a2 M n x12 (x5 + (1 : Int32))) else some (-1 : Int32))

def f262_way (a1 : Int32) (a2 : Int32) (M : ZI) : Option Int32 :=
  (f152_isPerson a1 M).bind fun v1 => (if v1 = 0 then some (-1 : Int32) else (f152_isPerson a2 M).bind fun v2 => (if v2 = 0 then some (-1 : Int32) else zlet (zshl (1 : Int32) a1) fun (x3 : Int32) => f262_l25 a2 M zfu x3 (0 : Int32)))

def f264_l2 (a1 : Int32) (M : ZI) : Nat → Int32 → Option Int32
  | 0, _ => none
  | n + 1, x1 =>
  (if x1 < (M 149 48) then (if ((zshr a1 x1) &&& (1 : Int32)) = (1 : Int32) then if zin ((7 : Int32) + x1) 2064 = true then (if ((a1 &&& ((zshl (1 : Int32) x1) ^^^ (-1 : Int32))) &&& ((M 149 (zi ((7 : Int32) + x1))) ^^^ (-1 : Int32))) = 0 then f264_l2 a1 M n (x1 + (1 : Int32)) else some (0 : Int32)) else none else f264_l2 a1 M n (x1 + (1 : Int32))) else some (1 : Int32))

def f264_isClique (a1 : Int32) (M : ZI) : Option Int32 :=
  f264_l2 a1 M zfu (0 : Int32)

def f263_l15 (M : ZI) : Nat → Int32 → Int32 → Option (Int32)
  | 0, _, _ => none
  | n + 1, x2, x3 =>
  (f234_all M).bind fun v4 => (if v4 < x3 then some x2 else (f209_count x3).bind fun v5 => (f209_count x2).bind fun v6 => (if v6 < v5 then (f264_isClique x3 M).bind fun v7 => (if v7 = 0 then f263_l15 M n x2 (x3 + (1 : Int32)) else f263_l15 M n x3 (x3 + (1 : Int32))) else f263_l15 M n x2 (x3 + (1 : Int32))))

def f263_clique (a1 : Int32) (M : ZI) : Option Int32 :=
  (f149_isIn a1 (0 : Int32) (1 : Int32)).bind fun v1 => (if v1 = 0 then some (-1 : Int32) else (f263_l15 M zfu (0 : Int32) (1 : Int32)).bind fun x8 =>
  (if a1 = 0 then (f209_count x8).bind fun v10 => some v10 else some x8))

def f265_l15 (a1 : Int32) : Nat → Int32 → ZI → Option (ZI)
  | 0, _, _ => none
  | n + 1, x1, M2 =>
  (if x1 < (2064 : Int32) then (if a1 = 0 then if zin x1 2064 = true then if zin x1 2064 = true then zlet (zs M2 149 (zi x1) (M2 150 (zi x1))) fun (M3 : ZI) => f265_l15 a1 n (x1 + (1 : Int32)) M3 else none else none else if zin x1 2064 = true then if zin x1 2064 = true then zlet (zs M2 150 (zi x1) (M2 149 (zi x1))) fun (M4 : ZI) => f265_l15 a1 n (x1 + (1 : Int32)) M4 else none else none) else some M2)

def f265_image (a1 : Int32) (M : ZI) : Option (Int32 × ZI) :=
  zlet (fun (_ : Unit) => ((f265_l15 a1 zfu (0 : Int32) M).bind fun M5 =>
  (if a1 = 0 then (f147_forgets M5).bind fun M8 => zlet (zs M8 148 5 (1 : Int32)) fun (M9 : ZI) => some ((1 : Int32), M9) else zlet (zs M5 148 5 (1 : Int32)) fun (M7 : ZI) => some ((1 : Int32), M7)) : Option (Int32 × ZI))) fun j10 =>
  (if a1 = 0 then (if (M 148 5) = 0 then some ((0 : Int32), M) else j10 ()) else j10 ())

def f266_look (a1 : Int32) (M : ZI) : Option (Int32 × ZI) :=
  (if a1 = (0 : Int32) then some ((M 149 48), M) else if a1 = (1 : Int32) then some ((M 149 0), M) else if a1 = (2 : Int32) then some ((M 149 1), M) else if a1 = (3 : Int32) then some ((M 149 49), M) else if a1 = (4 : Int32) then some ((M 149 50), M) else if a1 = (5 : Int32) then some ((M 149 2), M) else if a1 = (6 : Int32) then some ((M 149 3), M) else if a1 = (7 : Int32) then some ((M 149 5), M) else if a1 = (8 : Int32) then some ((M 149 4), M) else if a1 = (9 : Int32) then some ((M 149 58), M) else if a1 = (10 : Int32) then some ((M 149 51), M) else if a1 = (11 : Int32) then some ((M 149 52), M) else if a1 = (12 : Int32) then some ((M 149 53), M) else if a1 = (13 : Int32) then some ((M 149 55), M) else if a1 = (14 : Int32) then some ((M 148 4), M) else if a1 = (15 : Int32) then (f205_givenNow M).bind fun (v1, M2) => some (v1, M2) else if a1 = (16 : Int32) then some ((M 149 56), M) else if a1 = (17 : Int32) then some ((M 149 57), M) else some ((-1 : Int32), M))
def zIL : List (Nat × Nat × Int32) := [(1, 11, 0), (1, 12, 2), (1, 13, 12), (1, 14, 0), (1, 15, 0), (2, 4, 0), (2, 5, 0), (2, 6, 0), (2, 7, 0), (2, 8, 0), (2, 9, 0), (2, 10, 0), (12, 5, 0), (13, 3, 0), (21, 6, 0), (29, 1, 0), (30, 3, 0), (34, 2, 0), (0, 2, 0), (0, 4, 0), (0, 5, 0), (119, 1, 0), (119, 5, 0), (119, 10, 0), (119, 11, -1), (148, 4, 0), (148, 5, 0), (148, 19, 0), (148, 26, 0), (148, 28, -1), (149, 0, 0), (149, 1, 0), (149, 2, 0), (149, 3, 0), (149, 4, 0), (149, 5, 0), (149, 6, 0), (149, 7, 0), (149, 48, 0), (149, 49, 2), (149, 50, 12), (149, 51, 0), (149, 52, 0), (149, 53, 0), (149, 54, 0), (149, 55, 0), (149, 56, 0), (149, 57, 0), (149, 58, 0), (149, 59, 0)]
def zI0 (M : ZI) : Prop := ∀ z ∈ zIL, M z.1 z.2.1 = z.2.2
