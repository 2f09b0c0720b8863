section
-- ===== BASE: the definitions of parts 01, 04, 14, 15, 16, 20, 21 that the functions need (printed by wip/whole/genbase.py) =====
def zw {α : Type} (f : Nat → α) (o : Nat) (g : α) : Nat → α := fun a => if a = o then g else f a
abbrev ZS : Type := Nat × (Nat → Int32)
def zSB : List (List Int32) := [[119, 101, 105, 103, 104, 116, 32, 119, 101, 97, 114, 32, 110, 111, 116, 105, 99, 101, 32, 119, 104, 101, 110, 32, 111, 114, 32, 97, 110, 100, 32, 110, 111, 116, 32, 112, 101, 114, 115, 111, 110, 32, 97, 103, 101, 32, 110, 101, 101, 100, 32, 104, 97, 100, 32, 115, 105, 110, 99, 101, 32, 119, 111, 114, 110, 32, 121, 101, 97, 114, 32, 116, 105, 101, 115, 32, 117, 115, 101, 100, 32, 110, 97, 109, 101, 115, 32, 119, 111, 114, 107, 32, 102, 111, 114, 32, 119, 111, 114, 116, 104, 32, 100, 117, 115, 116, 32, 119, 97, 120, 32, 97, 102, 116, 101, 114, 32, 109, 111, 115, 116, 32], [119, 104, 101, 110], [111, 114], [97, 110, 100], [110, 111, 116], [119, 101, 105, 103, 104, 116], [119, 101, 97, 114], [110, 111, 116, 105, 99, 101], [112, 101, 114, 115, 111, 110], [97, 103, 101], [110, 101, 101, 100], [104, 97, 100], [115, 105, 110, 99, 101], [119, 111, 114, 110], [121, 101, 97, 114], [116, 105, 101, 115], [117, 115, 101, 100], [110, 97, 109, 101, 115], [119, 111, 114, 107], [102, 111, 114], [119, 111, 114, 116, 104], [100, 117, 115, 116], [119, 97, 120], [97, 102, 116, 101, 114], [109, 111, 115, 116]]
abbrev ZI : Type := Nat → Nat → Int32
abbrev ZQ : Type := ZS × (Nat → Nat → Option Nat)
def zH0 : List (Nat × Nat) := [(3, 9), (4, 16), (5, 11), (0, 10), (0, 10), (0, 10), (0, 10), (6, 4), (0, 150), (0, 150), (0, 150), (0, 150), (7, 6), (8, 4), (0, 400), (0, 400), (0, 64), (0, 16), (0, 16), (0, 16), (0, 16), (9, 10), (0, 12), (0, 12), (0, 12), (0, 12), (0, 12), (0, 12), (0, 12), (10, 2), (8, 4), (0, 400), (0, 400), (0, 64), (11, 3), (0, 8), (0, 8), (0, 10), (0, 10), (0, 10), (0, 10), (0, 9), (4, 16), (5, 11), (0, 10), (0, 10), (0, 10), (0, 10), (6, 4), (0, 150), (0, 150), (0, 150), (0, 150), (7, 6), (8, 4), (0, 400), (0, 400), (0, 64), (0, 16), (0, 16), (0, 16), (0, 16), (9, 10), (0, 12), (0, 12), (0, 12), (0, 12), (0, 12), (0, 12), (0, 12), (10, 2), (8, 4), (0, 400), (0, 400), (0, 64), (11, 3), (0, 8), (0, 8), (0, 10), (0, 10), (0, 10), (0, 10), (0, 9), (2, 6), (5, 11), (0, 10), (0, 10), (0, 10), (0, 10), (5, 11), (0, 10), (0, 10), (0, 10), (0, 10), (5, 11), (0, 10), (0, 10), (0, 10), (0, 10), (5, 11), (0, 10), (0, 10), (0, 10), (0, 10), (5, 11), (0, 10), (0, 10), (0, 10), (0, 10), (5, 11), (0, 10), (0, 10), (0, 10), (0, 10), (5, 11), (0, 10), (0, 10), (0, 10), (0, 10), (12, 16), (0, 400), (0, 401), (0, 401), (0, 401), (7, 6), (8, 4), (0, 400), (0, 400), (0, 64), (0, 16), (0, 16), (0, 16), (0, 16), (0, 10), (9, 10), (0, 12), (0, 12), (0, 12), (0, 12), (0, 12), (0, 12), (0, 12), (10, 2), (8, 4), (0, 400), (0, 400), (0, 64), (1, 1024), (13, 32), (0, 2064), (0, 2064), (0, 288), (0, 48), (0, 64), (0, 820), (0, 10), (0, 72), (0, 400), (0, 400), (0, 420), (0, 10), (0, 11264)]
def zi (i : Int32) : Nat := i.toNatClampNeg
def zin (i : Int32) (n : Nat) : Bool := decide (¬ (i < 0 ∨ n ≤ i.toNatClampNeg))
def zs (M : ZI) (o k : Nat) (v : Int32) : ZI := zw M o (upd (M o) k v)
def zc (M : ZI) (a b s d n : Nat) : ZI := zw M a (va_cpy (M b) (M a) s d n)
def zmax (a b : Int32) : Int32 := if a < b then b else a
def zmin (a b : Int32) : Int32 := if b < a then b else a
def zshl (a b : Int32) : Int32 := a <<< (b &&& 31)
def zshr (a b : Int32) : Int32 := a >>> (b &&& 31)
def zushr (a b : Int32) : Int32 := (a.toUInt32 >>> (b.toUInt32 &&& Int32.toUInt32 31)).toInt32
def zrem (a b : Int32) : Int32 := a - a / b * b
def zbo (x : Int32) : Int32 := vp_nar .boolean x
def zbl (v : Int32) : Bool := decide (v = 0 ∨ v = 1)
def zlet {α β : Type} (a : α) (f : α → β) : β := f a
def zfu : Nat := 100000
def zal (o : Nat) : Nat := (zH0.getD o (0, 0)).2
def zpa (i : Int32) : Nat := 84 + 5 * zi i
def zsn (s : Nat) : Nat := (zSB.getD s []).length
def zsln (s : Nat) : Int32 := zshr (Int32.ofNat (zsn s)) 0
def zch (s : Nat) (i : Int32) : Int32 := (((zSB.getD s []).getD (zi i) 0 &&& 255).toUInt32 % 65536).toInt32
def zgf : Nat := 70
def f11_forgetPasts (M : ZI) : Option ZI :=
  zlet (zs M 0 5 (0 : Int32)) fun (M1 : ZI) => some M1

def f10_state (a1 : Int32) (M : ZI) : Option (Int32 × ZI) :=
  zlet (M 2 9) fun (x1 : Int32) => zlet (zs M 2 9 a1) fun (M2 : ZI) => (f11_forgetPasts M2).bind fun M3 => some (x1, M3)

def f13_within (a0 : Int32) (a1 : Int32) (a2 : Int32) : Option Int32 :=
  (if a0 < a1 then some (0 : Int32) else (if a2 < a0 then some (0 : Int32) else some (1 : Int32)))

def f14_welcome (t : Nat) (a1 : Int32) (a2 : Int32) (M : ZI) : Option (Int32 × ZI) :=
  zlet (M t 11) fun (x1 : Int32) => (if x1 < (10 : Int32) then if zin x1 10 = true then zlet (zs M (t + 36) (zi x1) a2) fun (M2 : ZI) => if zin x1 10 = true then zlet (zs M2 (t + 37) (zi x1) (999 : Int32)) fun (M3 : ZI) => if zin x1 10 = true then zlet (zs M3 (t + 38) (zi x1) (-1 : Int32)) fun (M4 : ZI) => if zin x1 10 = true then zlet (zs M4 (t + 2) (zi x1) a1) fun (M5 : ZI) => if zin x1 10 = true then zlet (zs M5 (t + 3) (zi x1) (0 : Int32)) fun (M6 : ZI) => if zin x1 10 = true then zlet (zs M6 (t + 4) (zi x1) (0 : Int32)) fun (M7 : ZI) => if zin x1 10 = true then zlet (zs M7 (t + 5) (zi x1) (0 : Int32)) fun (M8 : ZI) => zlet (zs M8 t 11 ((M8 t 11) + (1 : Int32))) fun (M9 : ZI) => some (x1, M9) else none else none else none else none else none else none else none else some ((-1 : Int32), M))

def f12_person (a1 : Int32) (a2 : Int32) (M : ZI) : Option (Int32 × ZI) :=
  (f13_within a1 (0 : Int32) (99 : Int32)).bind fun v1 => (if v1 = 0 then some ((-1 : Int32), M) else (f13_within a2 (0 : Int32) (24 : Int32)).bind fun v2 => (if v2 = 0 then some ((-1 : Int32), M) else (if (M 1 11) < (10 : Int32) then (f11_forgetPasts M).bind fun M3 => (f14_welcome 1 a1 a2 M3).bind fun (v4, M5) => some (v4, M5) else some ((-1 : Int32), M))))

def f17_has (t : Nat) (a1 : Int32) (M : ZI) : Option Int32 :=
  (if a1 < 0 then some (0 : Int32) else (if a1 < (M t 11) then some (1 : Int32) else some (0 : Int32)))

def f16_canBeSet (a1 : Int32) (a2 : Int32) (a3 : Int32) (M : ZI) : Option Int32 :=
  (if a1 = (0 : Int32) then (f13_within a3 (0 : Int32) (24 : Int32)).bind fun v1 => if zbl v1 = true then some v1 else none else if a1 = (1 : Int32) then (f13_within a3 (0 : Int32) (24 : Int32)).bind fun v2 => if zbl v2 = true then some v2 else none else if a1 = (2 : Int32) then (f13_within a3 (1 : Int32) (24 : Int32)).bind fun v3 => if zbl v3 = true then some v3 else none else if a1 = (3 : Int32) then (f17_has 1 a2 M).bind fun v4 => (if v4 = 0 then some (0 : Int32) else (f13_within a3 (0 : Int32) (24 : Int32)).bind fun v5 => (if v5 = 0 then some (0 : Int32) else some (1 : Int32))) else if a1 = (4 : Int32) then (f17_has 1 a2 M).bind fun v6 => (if v6 = 0 then some (0 : Int32) else (f13_within a3 (0 : Int32) (999 : Int32)).bind fun v7 => (if v7 = 0 then some (0 : Int32) else some (1 : Int32))) else if a1 = (5 : Int32) then (f17_has 1 a2 M).bind fun v8 => (if v8 = 0 then some (0 : Int32) else (f13_within a3 (0 : Int32) (99 : Int32)).bind fun v9 => (if v9 = 0 then some (0 : Int32) else some (1 : Int32))) else some (0 : Int32))

def f15_set (a1 : Int32) (a2 : Int32) (a3 : Int32) (M : ZI) : Option (Int32 × ZI) :=
  (f16_canBeSet a1 a2 a3 M).bind fun v1 => (if v1 = 0 then some ((0 : Int32), M) else (f11_forgetPasts M).bind fun M2 => (if a1 = (0 : Int32) then zlet (zs M2 2 4 a3) fun (M3 : ZI) => some ((1 : Int32), M3) else if a1 = (1 : Int32) then zlet (zs M2 1 12 a3) fun (M4 : ZI) => some ((1 : Int32), M4) else if a1 = (2 : Int32) then zlet (zs M2 1 13 a3) fun (M5 : ZI) => some ((1 : Int32), M5) else if a1 = (3 : Int32) then if zin a2 10 = true then zlet (zs M2 37 (zi a2) a3) fun (M6 : ZI) => some ((1 : Int32), M6) else none else if a1 = (4 : Int32) then if zin a2 10 = true then zlet (zs M2 38 (zi a2) a3) fun (M7 : ZI) => some ((1 : Int32), M7) else none else if zin a2 10 = true then zlet (zs M2 3 (zi a2) a3) fun (M8 : ZI) => some ((1 : Int32), M8) else none))

def f19_isIn (a0 : Int32) (a1 : Int32) : Option Int32 :=
  (if ((zshr a0 a1) &&& (1 : Int32)) = (1 : Int32) then some (1 : Int32) else some (0 : Int32))

def f21_copy (t : Nat) (a1 : Nat) (M : ZI) : Option ZI :=
  zlet (zc M (t + 1) (a1 + 1) 0 0 10) fun (M1 : ZI) => zlet (zc M1 (t + 2) (a1 + 2) 0 0 10) fun (M2 : ZI) => zlet (zc M2 (t + 3) (a1 + 3) 0 0 10) fun (M3 : ZI) => zlet (zc M3 (t + 4) (a1 + 4) 0 0 10) fun (M4 : ZI) => zlet (zs M4 t 4 (M4 a1 4)) fun (M5 : ZI) => zlet (zs M5 t 5 (M5 a1 5)) fun (M6 : ZI) => zlet (zs M6 t 6 (M6 a1 6)) fun (M7 : ZI) => zlet (zs M7 t 7 (M7 a1 7)) fun (M8 : ZI) => zlet (zs M8 t 8 (M8 a1 8)) fun (M9 : ZI) => zlet (zs M9 t 9 (M9 a1 9)) fun (M10 : ZI) => zlet (zs M10 t 10 (M10 a1 10)) fun (M11 : ZI) => some M11

def f20_keepPast (M : ZI) : Option ZI :=
  ((if (M 0 5) = (6 : Int32) then zlet (zs M 0 4 (zrem ((M 0 4) + (1 : Int32)) (6 : Int32))) fun (M1 : ZI) => zlet (zs M1 0 5 ((M1 0 5) - (1 : Int32))) fun (M2 : ZI) => some M2 else some M) : Option (ZI)).bind fun M3 =>
  if zin (zrem ((M3 0 4) + (M3 0 5)) (6 : Int32)) 6 = true then (f21_copy (zpa (zrem ((M3 0 4) + (M3 0 5)) (6 : Int32))) 2 M3).bind fun M5 => zlet (zs M5 0 5 ((M5 0 5) + (1 : Int32))) fun (M6 : ZI) => some M6 else none

def f18_tie (a1 : Int32) (a2 : Int32) (a3 : Int32) (M : ZI) : Option (Int32 × ZI) :=
  (f17_has 1 a1 M).bind fun v1 => (if v1 = 0 then some ((0 : Int32), M) else (f17_has 1 a2 M).bind fun v2 => (if v2 = 0 then some ((0 : Int32), M) else (if a1 = a2 then some ((0 : Int32), M) else if zin a1 10 = true then (f19_isIn (M 6 (zi a1)) a2).bind fun v3 => (if v3 = a3 then some ((0 : Int32), M) else (f20_keepPast M).bind fun M4 => if zin a1 10 = true then if zin a1 10 = true then zlet (zs M4 6 (zi a1) ((M4 6 (zi a1)) ^^^ (zshl (1 : Int32) a2))) fun (M5 : ZI) => if zin a2 10 = true then if zin a2 10 = true then zlet (zs M5 6 (zi a2) ((M5 6 (zi a2)) ^^^ (zshl (1 : Int32) a1))) fun (M6 : ZI) => some ((1 : Int32), M6) else none else none else none else none) else none)))

def f23_wearBy (t : Nat) (a1 : Int32) (M : ZI) : Option ZI :=
  zlet (zs M t 4 (zmin (24 : Int32) ((M t 4) + a1))) fun (M1 : ZI) => some M1

def f22_sit (a1 : Int32) (M : ZI) : Option (Int32 × ZI) :=
  (f13_within a1 (1 : Int32) (24 : Int32)).bind fun v1 => (if v1 = 0 then some ((-1 : Int32), M) else (f20_keepPast M).bind fun M2 => (f23_wearBy 2 a1 M2).bind fun M3 => some ((M3 2 4), M3))

def f28_bitCount (a0 : Int32) : Option Int32 :=
  zlet (a0 - ((zushr a0 (1 : Int32)) &&& (1431655765 : Int32))) fun (x1 : Int32) => zlet ((x1 &&& (858993459 : Int32)) + ((zushr x1 (2 : Int32)) &&& (858993459 : Int32))) fun (x2 : Int32) => zlet ((x2 + (zushr x2 (4 : Int32))) &&& (252645135 : Int32)) fun (x3 : Int32) => zlet (x3 + (zushr x3 (8 : Int32))) fun (x4 : Int32) => zlet (x4 + (zushr x4 (16 : Int32))) fun (x5 : Int32) => some (x5 &&& (63 : Int32))

def f31_isValue (a0 : Int32) : Option Int32 :=
  (if a0 = (-2 : Int32) then some (1 : Int32) else (if a0 = (300 : Int32) then some (1 : Int32) else (if a0 = (301 : Int32) then some (1 : Int32) else (if a0 = (279 : Int32) then some (1 : Int32) else some (0 : Int32)))))

def f32_value (a0 : Int32) (a1 : Int32) (a2 : Nat) (a3 : Int32) (M : ZI) : Option Int32 :=
  (if a0 = (-2 : Int32) then some a1 else if a0 = (300 : Int32) then (if a1 < 0 then some (0 : Int32) else (if a1 < (Int32.ofNat (zal a2)) then if zin a1 (zal a2) = true then some (M a2 (zi a1)) else none else some (0 : Int32))) else if a0 = (301 : Int32) then some ((zshr a3 a1) &&& (1 : Int32)) else (f28_bitCount a3).bind fun v1 => (if v1 < a1 then some (0 : Int32) else some (1 : Int32)))

def f32_valuen (a0 : Int32) (a1 : Int32) (a3 : Int32) (M : ZI) : Option Int32 :=
  (if a0 = (-2 : Int32) then some a1 else if a0 = (300 : Int32) then some (0 : Int32) else if a0 = (301 : Int32) then some ((zshr a3 a1) &&& (1 : Int32)) else (f28_bitCount a3).bind fun v1 => (if v1 < a1 then some (0 : Int32) else some (1 : Int32)))

def f33_changed (a0 : Int32) (a1 : Int32) (a2 : Int32) : Option Int32 :=
  (if a0 = (262 : Int32) then some ((1 : Int32) - a2) else (if a1 = 0 then some (0 : Int32) else if a1 = 0 then none else some (a2 / a1)))

def f34_joined (a0 : Int32) (a1 : Int32) (a2 : Int32) : Option Int32 :=
  (if a0 = (42 : Int32) then some (a1 * a2) else if a0 = (43 : Int32) then some (a1 + a2) else if a0 = (45 : Int32) then some (a1 - a2) else if a0 = (60 : Int32) then (if a1 < a2 then some (1 : Int32) else some (0 : Int32)) else if a0 = (61 : Int32) then (if a1 = a2 then some (1 : Int32) else some (0 : Int32)) else if a0 = (62 : Int32) then (if a2 < a1 then some (1 : Int32) else some (0 : Int32)) else if a0 = (261 : Int32) then some (a1 &&& a2) else some (a1 ||| a2))

def f30_l10 (t : Nat) (a2 : Int32) (a3 : Nat) (a4 : Int32) : Nat → Int32 → Int32 → ZI → Option (Int32 × ZI)
  | 0, _, _, _ => none
  | n + 1, x2, x3, M5 =>
  (if x3 < a2 then (if x3 < (M5 t 3) then if zin x3 400 = true then zlet (M5 (t + 1) (zi x3)) fun (x6 : Int32) => (f31_isValue x6).bind fun v7 => (if v7 = 0 then zlet (fun (x8 : Int32) (x9 : Int32) (M10 : ZI) => ((if 0 < x8 then if zin x9 400 = true then if zin (x8 - (1 : Int32)) 64 = true then (f33_changed x6 (M10 (t + 2) (zi x9)) (M10 (t + 3) (zi (x8 - (1 : Int32))))).bind fun v11 => if zin (x8 - (1 : Int32)) 64 = true then zlet (zs M10 (t + 3) (zi (x8 - (1 : Int32))) v11) fun (M12 : ZI) => f30_l10 t a2 a3 a4 n x8 (x9 + (1 : Int32)) M12 else none else none else none else f30_l10 t a2 a3 a4 n x8 (x9 + (1 : Int32)) M10) : Option (Int32 × ZI))) fun j13 =>
  (if x6 = (47 : Int32) then j13 x2 x3 M5 else (if x6 = (262 : Int32) then j13 x2 x3 M5 else (if (1 : Int32) < x2 then if zin ((x2 + (-1 : Int32)) - (1 : Int32)) 64 = true then if zin (x2 + (-1 : Int32)) 64 = true then (f34_joined x6 (M5 (t + 3) (zi ((x2 + (-1 : Int32)) - (1 : Int32)))) (M5 (t + 3) (zi (x2 + (-1 : Int32))))).bind fun v14 => if zin ((x2 + (-1 : Int32)) - (1 : Int32)) 64 = true then zlet (zs M5 (t + 3) (zi ((x2 + (-1 : Int32)) - (1 : Int32))) v14) fun (M15 : ZI) => f30_l10 t a2 a3 a4 n (x2 + (-1 : Int32)) (x3 + (1 : Int32)) M15 else none else none else none else f30_l10 t a2 a3 a4 n x2 (x3 + (1 : Int32)) M5))) else (if x2 < (64 : Int32) then if zin x3 400 = true then (f32_value x6 (M5 (t + 2) (zi x3)) a3 a4 M5).bind fun v16 => if zin x2 64 = true then zlet (zs M5 (t + 3) (zi x2) v16) fun (M17 : ZI) => f30_l10 t a2 a3 a4 n (x2 + (1 : Int32)) (x3 + (1 : Int32)) M17 else none else none else f30_l10 t a2 a3 a4 n x2 (x3 + (1 : Int32)) M5)) else none else some (x2, M5)) else some (x2, M5))

def f30_run (t : Nat) (a1 : Int32) (a2 : Int32) (a3 : Nat) (a4 : Int32) (M : ZI) : Option (Int32 × ZI) :=
  zlet (zmax a1 (0 : Int32)) fun (x1 : Int32) => (f30_l10 t a2 a3 a4 zfu (0 : Int32) x1 M).bind fun (x18, M19) =>
  (if 0 < x18 then if zin (x18 - (1 : Int32)) 64 = true then some ((M19 (t + 3) (zi (x18 - (1 : Int32)))), M19) else none else some ((0 : Int32), M19))

def f30_l10n (t : Nat) (a2 : Int32) (a4 : Int32) : Nat → Int32 → Int32 → ZI → Option (Int32 × ZI)
  | 0, _, _, _ => none
  | n + 1, x2, x3, M5 =>
  (if x3 < a2 then (if x3 < (M5 t 3) then if zin x3 400 = true then zlet (M5 (t + 1) (zi x3)) fun (x6 : Int32) => (f31_isValue x6).bind fun v7 => (if v7 = 0 then zlet (fun (x8 : Int32) (x9 : Int32) (M10 : ZI) => ((if 0 < x8 then if zin x9 400 = true then if zin (x8 - (1 : Int32)) 64 = true then (f33_changed x6 (M10 (t + 2) (zi x9)) (M10 (t + 3) (zi (x8 - (1 : Int32))))).bind fun v11 => if zin (x8 - (1 : Int32)) 64 = true then zlet (zs M10 (t + 3) (zi (x8 - (1 : Int32))) v11) fun (M12 : ZI) => f30_l10n t a2 a4 n x8 (x9 + (1 : Int32)) M12 else none else none else none else f30_l10n t a2 a4 n x8 (x9 + (1 : Int32)) M10) : Option (Int32 × ZI))) fun j13 =>
  (if x6 = (47 : Int32) then j13 x2 x3 M5 else (if x6 = (262 : Int32) then j13 x2 x3 M5 else (if (1 : Int32) < x2 then if zin ((x2 + (-1 : Int32)) - (1 : Int32)) 64 = true then if zin (x2 + (-1 : Int32)) 64 = true then (f34_joined x6 (M5 (t + 3) (zi ((x2 + (-1 : Int32)) - (1 : Int32)))) (M5 (t + 3) (zi (x2 + (-1 : Int32))))).bind fun v14 => if zin ((x2 + (-1 : Int32)) - (1 : Int32)) 64 = true then zlet (zs M5 (t + 3) (zi ((x2 + (-1 : Int32)) - (1 : Int32))) v14) fun (M15 : ZI) => f30_l10n t a2 a4 n (x2 + (-1 : Int32)) (x3 + (1 : Int32)) M15 else none else none else none else f30_l10n t a2 a4 n x2 (x3 + (1 : Int32)) M5))) else (if x2 < (64 : Int32) then if zin x3 400 = true then (f32_valuen x6 (M5 (t + 2) (zi x3)) a4 M5).bind fun v16 => if zin x2 64 = true then zlet (zs M5 (t + 3) (zi x2) v16) fun (M17 : ZI) => f30_l10n t a2 a4 n (x2 + (1 : Int32)) (x3 + (1 : Int32)) M17 else none else none else f30_l10n t a2 a4 n x2 (x3 + (1 : Int32)) M5)) else none else some (x2, M5)) else some (x2, M5))

def f30_runn (t : Nat) (a1 : Int32) (a2 : Int32) (a4 : Int32) (M : ZI) : Option (Int32 × ZI) :=
  zlet (zmax a1 (0 : Int32)) fun (x1 : Int32) => (f30_l10n t a2 a4 zfu (0 : Int32) x1 M).bind fun (x18, M19) =>
  (if 0 < x18 then if zin (x18 - (1 : Int32)) 64 = true then some ((M19 (t + 3) (zi (x18 - (1 : Int32)))), M19) else none else some ((0 : Int32), M19))

def f29_l2 (t : Nat) (a1 : Int32) (a2 : Nat) : Nat → Int32 → ZI → Option (Int32 × ZI)
  | 0, _, _ => none
  | n + 1, x1, M3 =>
  (if x1 < (M3 t 5) then if zin x1 16 = true then if zin x1 16 = true then ((if (M3 (t + 7) (zi x1)) = (M3 (t + 8) (zi x1)) then some (1 : Int32) else some (0 : Int32)) : Option (Int32)).bind fun v4 =>
  if zin x1 16 = true then (if (M3 (t + 5) (zi x1)) = a1 then zlet (fun (x5 : Int32) (M6 : ZI) => (if zin x5 16 = true then if zin x5 16 = true then (f30_run (t + 1) (M6 (t + 6) (zi x5)) (M6 (t + 7) (zi x5)) a2 (0 : Int32) M6).bind fun (v7, M8) => some (v7, M8) else none else none : Option (Int32 × ZI))) fun j9 =>
  (if v4 = 0 then if zin x1 16 = true then if zin x1 16 = true then (f30_run (t + 1) (M3 (t + 7) (zi x1)) (M3 (t + 8) (zi x1)) a2 (0 : Int32) M3).bind fun (v10, M11) => (if v10 = 0 then f29_l2 t a1 a2 n (x1 + (1 : Int32)) M11 else j9 x1 M11) else none else none else j9 x1 M3) else f29_l2 t a1 a2 n (x1 + (1 : Int32)) M3) else none else none else none else (if a1 = (256 : Int32) then some ((1 : Int32), M3) else if a1 = (257 : Int32) then if zin (8 : Int32) (zal a2) = true then some (((M3 a2 (zi (8 : Int32))) / (8 : Int32)), M3) else none else some ((100 : Int32), M3)))

def f29_tells (t : Nat) (a1 : Int32) (a2 : Nat) (M : ZI) : Option (Int32 × ZI) :=
  f29_l2 t a1 a2 zfu (0 : Int32) M

def f35_held (a0 : Int32) (a1 : Int32) (a2 : Int32) : Option Int32 :=
  some (zmax a1 (zmin a2 a0))

def f27_asks (t : Nat) (a1 : Nat) (a2 : Int32) (a3 : Int32) (a4 : Int32) (M : ZI) : Option (Int32 × ZI) :=
  zlet (zs M (t + 40) 0 a3) fun (M1 : ZI) => if zin a3 10 = true then zlet (zs M1 (t + 40) 1 (M1 (a1 + 1) (zi a3))) fun (M2 : ZI) => if zin a3 10 = true then zlet (zs M2 (t + 40) 2 (M2 (t + 36) (zi a3))) fun (M3 : ZI) => if zin a3 10 = true then zlet (zs M3 (t + 40) 3 (M3 (a1 + 2) (zi a3))) fun (M4 : ZI) => if zin a3 10 = true then zlet (zs M4 (t + 40) 4 (M4 (a1 + 3) (zi a3))) fun (M5 : ZI) => zlet (zs M5 (t + 40) 5 (M5 a1 4)) fun (M6 : ZI) => zlet (zs M6 (t + 40) 6 (M6 a1 5)) fun (M7 : ZI) => if zin a3 10 = true then (f28_bitCount (M7 (a1 + 4) (zi a3))).bind fun v8 => zlet (zs M7 (t + 40) 7 v8) fun (M9 : ZI) => zlet (zs M9 (t + 40) 8 a4) fun (M10 : ZI) => (f29_tells (t + 11) a2 (t + 40) M10).bind fun (v11, M12) => ((if a2 = (258 : Int32) then some (1000 : Int32) else some (24 : Int32)) : Option (Int32)).bind fun v13 =>
  (f35_held v11 (0 : Int32) v13).bind fun v14 => some (v14, M12) else none else none else none else none else none

def f26_l2 (t : Nat) (a1 : Nat) : Nat → Int32 → ZI → Option (ZI)
  | 0, _, _ => none
  | n + 1, x1, M2 =>
  (if x1 < (M2 t 11) then (f27_asks t a1 (256 : Int32) x1 (0 : Int32) M2).bind fun (v3, M4) => if zin x1 10 = true then zlet (zs M4 (t + 39) (zi x1) v3) fun (M5 : ZI) => f26_l2 t a1 n (x1 + (1 : Int32)) M5 else none else some M2)

def f26_weigh (t : Nat) (a1 : Nat) (M : ZI) : Option ZI :=
  (f26_l2 t a1 zfu (0 : Int32) M).bind fun M6 =>
  some M6

def f37_isMetBy (t : Nat) (a1 : Int32) (M : ZI) : Option (Int32 × ZI) :=
  (if (M t 1) = 0 then some ((1 : Int32), M) else (f30_runn (t + 1) (0 : Int32) (M (t + 1) 3) a1 M).bind fun (v1, M2) => (if v1 = 0 then some ((0 : Int32), M2) else some ((1 : Int32), M2)))

def f36_l26 (t : Nat) (a1 : Int32) (a2 : Int32) (x3 : Int32) (M7 : ZI) : Nat → Int32 → Int32 → Int32 → Option (Int32 × Int32)
  | 0, _, _, _ => none
  | n + 1, x8, x9, x10 =>
  (if x10 < (M7 t 11) then ((if x10 = a1 then some a2 else if zin x10 10 = true then some (M7 (t + 38) (zi x10)) else none) : Option (Int32)).bind fun v11 =>
  (if v11 = x3 then if zin x10 10 = true then zlet (x8 + (M7 (t + 39) (zi x10))) fun (x12 : Int32) => zlet (x9 ||| (zshl (1 : Int32) x10)) fun (x13 : Int32) => f36_l26 t a1 a2 x3 M7 n x12 x13 (x10 + (1 : Int32)) else none else f36_l26 t a1 a2 x3 M7 n x8 x9 (x10 + (1 : Int32))) else some (x8, x9))

def f36_l8 (t : Nat) (a1 : Int32) (a2 : Int32) : Nat → Int32 → Int32 → Int32 → ZI → Option (Int32 × ZI)
  | 0, _, _, _, _ => none
  | n + 1, x1, x2, x3, M7 =>
  (if x3 < (M7 t 11) then (f36_l26 t a1 a2 x3 M7 zfu (0 : Int32) (0 : Int32) (0 : Int32)).bind fun (x14, x15) =>
  ((if x2 < x14 then some (1 : Int32) else (if x1 = (-1 : Int32) then some (0 : Int32) else (if x14 = x2 then if zin x3 10 = true then if zin x1 10 = true then (if (M7 (t + 36) (zi x1)) < (M7 (t + 36) (zi x3)) then some (1 : Int32) else some (0 : Int32)) else none else none else some (0 : Int32)))) : Option (Int32)).bind fun v17 =>
  (if v17 = 0 then f36_l8 t a1 a2 n x1 x2 (x3 + (1 : Int32)) M7 else (f37_isMetBy (t + 28) x15 M7).bind fun (v18, M19) => (if v18 = 0 then f36_l8 t a1 a2 n x1 x2 (x3 + (1 : Int32)) M19 else f36_l8 t a1 a2 n x3 x14 (x3 + (1 : Int32)) M19)) else some (x1, M7))

def f36_elect (t : Nat) (a1 : Int32) (a2 : Int32) (M : ZI) : Option (Int32 × ZI) :=
  (f36_l8 t a1 a2 zfu (-1 : Int32) (0 : Int32) (0 : Int32) M).bind fun (x20, M21) =>
  some (x20, M21)

def f39_hoursLeft (t : Nat) (M : ZI) : Option Int32 :=
  some ((24 : Int32) - (M t 4))

def f41_l5 (t : Nat) (a1 : Int32) (a2 : Int32) (M : ZI) : Nat → Int32 → Int32 → Option (Int32)
  | 0, _, _ => none
  | n + 1, x1, x2 =>
  (if x2 < (M t 6) then if zin x2 12 = true then (if (M (t + 1) (zi x2)) = a1 then if zin x2 12 = true then (if a2 < (M (t + 2) (zi x2)) then f41_l5 t a1 a2 M n x1 (x2 + (1 : Int32)) else zlet (x1 ||| (zshl (1 : Int32) x2)) fun (x3 : Int32) => f41_l5 t a1 a2 M n x3 (x2 + (1 : Int32))) else none else f41_l5 t a1 a2 M n x1 (x2 + (1 : Int32))) else none else some x1)

def f41_ownedBy (t : Nat) (a1 : Int32) (a2 : Int32) (M : ZI) : Option Int32 :=
  (f41_l5 t a1 a2 M zfu (0 : Int32) (0 : Int32)).bind fun x4 =>
  some x4

def f42_l5 (t : Nat) (a1 : Int32) (a2 : Nat) (M : ZI) : Nat → Int32 → Int32 → Option (Int32)
  | 0, _, _ => none
  | n + 1, x1, x2 =>
  (if x2 < (M t 6) then (if x2 < (Int32.ofNat (zal a2)) then (f19_isIn a1 x2).bind fun v3 => (if v3 = 0 then f42_l5 t a1 a2 M n x1 (x2 + (1 : Int32)) else if zin x2 (zal a2) = true then zlet (x1 + (M a2 (zi x2))) fun (x4 : Int32) => f42_l5 t a1 a2 M n x4 (x2 + (1 : Int32)) else none) else some x1) else some x1)

def f42_sum (t : Nat) (a1 : Int32) (a2 : Nat) (M : ZI) : Option Int32 :=
  (f42_l5 t a1 a2 M zfu (0 : Int32) (0 : Int32)).bind fun x5 =>
  some x5

def f43_l2 (t : Nat) (a1 : Int32) (a2 : Int32) (M : ZI) : Nat → Int32 → Option Int32
  | 0, _ => none
  | n + 1, x1 =>
  (if x1 < (M t 6) then (f19_isIn a1 x1).bind fun v2 => (if v2 = 0 then f43_l2 t a1 a2 M n (x1 + (1 : Int32)) else if zin x1 12 = true then (if (M (t + 6) (zi x1)) = (-1 : Int32) then f43_l2 t a1 a2 M n (x1 + (1 : Int32)) else if zin x1 12 = true then (f19_isIn (a1 ||| a2) (M (t + 6) (zi x1))).bind fun v3 => (if v3 = 0 then some (0 : Int32) else f43_l2 t a1 a2 M n (x1 + (1 : Int32))) else none) else none) else some (1 : Int32))

def f43_isWhole (t : Nat) (a1 : Int32) (a2 : Int32) (M : ZI) : Option Int32 :=
  f43_l2 t a1 a2 M zfu (0 : Int32)

def f40_l27 (t : Nat) (a2 : Int32) (a3 : Int32) (M : ZI) (x2 : Int32) : Nat → Int32 → Int32 → Int32 → Int32 → Int32 → Option (Int32)
  | 0, _, _, _, _, _ => none
  | n + 1, x3, x4, x5, x6, x7 =>
  (if x7 < (4096 : Int32) then zlet ((x6 - x2) &&& x2) fun (x10 : Int32) => (if x10 = 0 then some x3 else (f42_sum t x10 (t + 2) M).bind fun v11 => ((if a2 < v11 then some (-1 : Int32) else (f42_sum t x10 (t + 3) M).bind fun v12 => some v12) : Option (Int32)).bind fun v13 =>
  zlet (fun (x14 : Int32) => ((f43_isWhole t x10 a3 M).bind fun v15 => (if v15 = 0 then f40_l27 t a2 a3 M x2 n x3 x4 x5 x10 (x14 + (1 : Int32)) else f40_l27 t a2 a3 M x2 n x10 v13 v11 x10 (x14 + (1 : Int32))) : Option (Int32))) fun j16 =>
  (if x4 < v13 then j16 x7 else (if v13 = x4 then (if v11 < x5 then j16 x7 else f40_l27 t a2 a3 M x2 n x3 x4 x5 x10 (x7 + (1 : Int32))) else f40_l27 t a2 a3 M x2 n x3 x4 x5 x10 (x7 + (1 : Int32))))) else some x3)

def f40_bestSet (t : Nat) (a1 : Int32) (a2 : Int32) (a3 : Int32) (M : ZI) : Option Int32 :=
  (f41_ownedBy t a1 a2 M).bind fun v1 => zlet (v1 &&& (a3 ^^^ (-1 : Int32))) fun (x2 : Int32) => (f40_l27 t a2 a3 M x2 zfu (0 : Int32) (0 : Int32) (0 : Int32) (0 : Int32) (1 : Int32)).bind fun x17 =>
  some x17

def f44_draw (t : Nat) (a1 : Int32) (M : ZI) : Option (Int32 × ZI) :=
  zlet (zs M t 9 (((1664525 : Int32) * (M t 9)) + (1013904223 : Int32))) fun (M1 : ZI) => (if 0 < a1 then if a1 = 0 then none else some ((zrem (zushr (M1 t 9) (8 : Int32)) a1), M1) else some ((0 : Int32), M1))

def f46_write (t : Nat) (a1 : Nat) (a2 : Int32) (a3 : Int32) (a4 : Int32) (M : ZI) : Option ZI :=
  zlet (M a1 10) fun (x1 : Int32) => (if x1 < 0 then some M else (if x1 < (150 : Int32) then if zin x1 150 = true then zlet (zs M (t + 1) (zi x1) (M a1 5)) fun (M2 : ZI) => if zin x1 150 = true then zlet (zs M2 (t + 2) (zi x1) a2) fun (M3 : ZI) => if zin x1 150 = true then zlet (zs M3 (t + 3) (zi x1) a3) fun (M4 : ZI) => if zin x1 150 = true then zlet (zs M4 (t + 4) (zi x1) a4) fun (M5 : ZI) => zlet (zs M5 a1 10 ((M5 a1 10) + (1 : Int32))) fun (M6 : ZI) => some M6 else none else none else none else none else some M))

def f45_l28 (t : Nat) (a1 : Nat) (a3 : Int32) : Nat → Int32 → ZI → Option (ZI)
  | 0, _, _ => none
  | n + 1, x3, M4 =>
  (if x3 < (M4 (t + 20) 6) then (f19_isIn a3 x3).bind fun v5 => (if v5 = 0 then f45_l28 t a1 a3 n (x3 + (1 : Int32)) M4 else if zin x3 12 = true then (f46_write (t + 6) a1 (3 : Int32) x3 (M4 (t + 22) (zi x3)) M4).bind fun M6 => f45_l28 t a1 a3 n (x3 + (1 : Int32)) M6 else none) else some M4)

def f45_enter (t : Nat) (a1 : Nat) (a2 : Int32) (a3 : Int32) (a4 : Int32) (M : ZI) : Option ZI :=
  (f42_sum (t + 20) a3 (t + 22) M).bind fun v1 => (f46_write (t + 6) a1 (0 : Int32) a2 v1 M).bind fun M2 => (f45_l28 t a1 a3 zfu (0 : Int32) M2).bind fun M7 =>
  (if a4 = 0 then some M7 else (f46_write (t + 6) a1 (4 : Int32) a2 (0 : Int32) M7).bind fun M9 => some M9)

def f38_giveTo (t : Nat) (a1 : Nat) (a2 : Int32) (a3 : Int32) (M : ZI) : Option ZI :=
  (f39_hoursLeft a1 M).bind fun v1 => (f40_bestSet (t + 20) a2 v1 (M a1 8) M).bind fun v2 => (f42_sum (t + 20) v2 (t + 22) M).bind fun v3 => zlet (zs M a1 8 ((M a1 8) ||| v2)) fun (M4 : ZI) => (f42_sum (t + 20) v2 (t + 23) M4).bind fun v5 => zlet (zs M4 a1 7 ((M4 a1 7) + v5)) fun (M6 : ZI) => (f27_asks t a1 (257 : Int32) a2 v3 M6).bind fun (v7, M8) => (f27_asks t a1 (258 : Int32) a2 v3 M8).bind fun (v9, M10) => (f23_wearBy a1 v7 M10).bind fun M11 => (if a3 = 0 then some M11 else (f44_draw a1 (1000 : Int32) M11).bind fun (v12, M13) => ((if v12 < v9 then some (1 : Int32) else some (0 : Int32)) : Option (Int32)).bind fun v14 =>
  ((if v14 = 0 then some (0 : Int32) else some (1 : Int32)) : Option (Int32)).bind fun v15 =>
  zlet (zs M13 a1 6 ((M13 a1 6) + v15)) fun (M16 : ZI) => (f45_enter t a1 a2 v2 v14 M16).bind fun M17 => some M17)

def f47_l2 (t : Nat) (a1 : Int32) (a2 : Int32) : Nat → Int32 → ZI → Option (ZI)
  | 0, _, _ => none
  | n + 1, x1, M2 =>
  (if x1 < a1 then (if x1 < (10 : Int32) then ((if x1 = a2 then if zin x1 10 = true then if zin x1 10 = true then zlet (zs M2 (t + 2) (zi x1) ((M2 (t + 2) (zi x1)) + (1 : Int32))) fun (M4 : ZI) => if zin x1 10 = true then zlet (zs M4 (t + 3) (zi x1) (0 : Int32)) fun (M5 : ZI) => some M5 else none else none else none else if zin x1 10 = true then if zin x1 10 = true then zlet (zs M2 (t + 3) (zi x1) ((M2 (t + 3) (zi x1)) + (1 : Int32))) fun (M3 : ZI) => some M3 else none else none) : Option (ZI)).bind fun M6 =>
  if zin x1 10 = true then if zin x1 10 = true then zlet (zs M6 (t + 1) (zi x1) (zmin (99 : Int32) ((M6 (t + 1) (zi x1)) + (1 : Int32)))) fun (M7 : ZI) => f47_l2 t a1 a2 n (x1 + (1 : Int32)) M7 else none else none else some M2) else some M2)

def f47_growOlder (t : Nat) (a1 : Int32) (a2 : Int32) (M : ZI) : Option ZI :=
  (f47_l2 t a1 a2 zfu (0 : Int32) M).bind fun M8 =>
  zlet (zs M8 t 5 ((M8 t 5) + (1 : Int32))) fun (M10 : ZI) => some M10

def f25_pass (t : Nat) (a1 : Nat) (a2 : Int32) (M : ZI) : Option (Int32 × ZI) :=
  ((if (M a1 4) < (M t 13) then (f26_weigh t a1 M).bind fun M1 => (f36_elect t (-1 : Int32) (-1 : Int32) M1).bind fun (v2, M3) => some (v2, M3) else zlet (zs M a1 4 (zmax (0 : Int32) ((M a1 4) - (M t 12)))) fun (M4 : ZI) => some ((-2 : Int32), M4)) : Option (Int32 × ZI)).bind fun (x5, M6) =>
  ((if x5 < 0 then (if a2 = 0 then some M6 else ((if x5 = (-2 : Int32) then some (1 : Int32) else some (2 : Int32)) : Option (Int32)).bind fun v7 =>
  (f46_write (t + 6) a1 v7 (-1 : Int32) (0 : Int32) M6).bind fun M8 => some M8) else (f38_giveTo t a1 x5 a2 M6).bind fun M9 => some M9) : Option (ZI)).bind fun M10 =>
  (f47_growOlder a1 (M10 t 11) x5 M10).bind fun M11 => some (x5, M11)

def f24_l34 (a1 : Int32) : Nat → Int32 → Int32 → ZI → Option (Int32 × ZI)
  | 0, _, _, _ => none
  | n + 1, x2, x3, M4 =>
  (if x3 < a1 then (f20_keepPast M4).bind fun M5 => (f25_pass 1 2 (1 : Int32) M5).bind fun (v6, M7) => (if v6 < 0 then f24_l34 a1 n x2 (x3 + (1 : Int32)) M7 else f24_l34 a1 n (x2 + (1 : Int32)) (x3 + (1 : Int32)) M7) else some (x2, M4))

def f24_years (a1 : Int32) (M : ZI) : Option (Int32 × ZI) :=
  (f13_within a1 (1 : Int32) (40 : Int32)).bind fun v1 => (if v1 = 0 then some ((-1 : Int32), M) else (if (999 : Int32) < ((M 2 5) + a1) then some ((-1 : Int32), M) else (f24_l34 a1 zfu (0 : Int32) (0 : Int32) M).bind fun (x8, M9) =>
  some (x8, M9)))

def f49_hasRoom (t : Nat) (a1 : Int32) (M : ZI) : Option Int32 :=
  (if (400 : Int32) < ((M t 1) + a1) then some (0 : Int32) else some (1 : Int32))

def f50_l3 (t : Nat) (a1 : Int32) : Nat → Int32 → ZI → Option (ZI)
  | 0, _, _ => none
  | n + 1, x1, M2 =>
  (if x1 < 0 then some M2 else (if (M2 t 1) < (400 : Int32) then if zin (M2 t 1) 400 = true then zlet (zs M2 (t + 1) (zi (M2 t 1)) ((zushr a1 x1) &&& (255 : Int32))) fun (M3 : ZI) => zlet (zs M3 t 1 ((M3 t 1) + (1 : Int32))) fun (M4 : ZI) => f50_l3 t a1 n (x1 + (-8 : Int32)) M4 else none else some M2))

def f50_append (t : Nat) (a1 : Int32) (M : ZI) : Option ZI :=
  (f50_l3 t a1 zfu (24 : Int32) M).bind fun M5 =>
  some M5

def f48_feed (a1 : Int32) (a2 : Int32) (a3 : Int32) (a4 : Int32) (a5 : Int32) (M : ZI) : Option (Int32 × ZI) :=
  (f49_hasRoom 119 (20 : Int32) M).bind fun v1 => (if v1 = 0 then some ((-1 : Int32), M) else (f50_append 119 a1 M).bind fun M2 => (f50_append 119 a2 M2).bind fun M3 => (f50_append 119 a3 M3).bind fun M4 => (f50_append 119 a4 M4).bind fun M5 => (f50_append 119 a5 M5).bind fun M6 => some ((M6 119 1), M6))

def f51_end (a1 : Int32) (M : ZI) : Option (Int32 × ZI) :=
  (f13_within a1 (0 : Int32) (M 119 1)).bind fun v1 => (if v1 = 0 then some ((0 : Int32), M) else zlet (zs M 119 1 a1) fun (M2 : ZI) => some ((1 : Int32), M2))

def f55_isLetter (a0 : Int32) : Option Int32 :=
  zlet (fun (_ : Unit) => ((if a0 < (65 : Int32) then some (0 : Int32) else (if (90 : Int32) < a0 then some (0 : Int32) else some (1 : Int32))) : Option Int32)) fun j1 =>
  (if a0 < (97 : Int32) then j1 () else (if (122 : Int32) < a0 then j1 () else some (1 : Int32)))

def f56_l13 (t : Nat) (a1 : Int32) (a2 : Int32) (M : ZI) : Nat → Int32 → Int32 → Int32 → Int32 → Option Int32
  | 0, _, _, _, _ => none
  | n + 1, x1, x2, x3, x4 =>
  (if x4 < (zsln 0) then if zin x4 (zsn 0) = true then zlet (zch 0 x4) fun (x6 : Int32) => (if x6 = (32 : Int32) then zlet (fun (_ : Unit) => (f56_l13 t a1 a2 M n (x1 + (1 : Int32)) a1 (1 : Int32) (x4 + (1 : Int32)) : Option Int32)) fun j7 =>
  (if x3 = 0 then j7 () else (if x2 = a2 then some x1 else j7 ())) else (if x3 = 0 then f56_l13 t a1 a2 M n x1 (x2 + (1 : Int32)) (0 : Int32) (x4 + (1 : Int32)) else (if x2 < a2 then if zin x2 400 = true then (if (M (t + 1) (zi x2)) = x6 then f56_l13 t a1 a2 M n x1 (x2 + (1 : Int32)) (1 : Int32) (x4 + (1 : Int32)) else f56_l13 t a1 a2 M n x1 (x2 + (1 : Int32)) (0 : Int32) (x4 + (1 : Int32))) else none else f56_l13 t a1 a2 M n x1 (x2 + (1 : Int32)) (0 : Int32) (x4 + (1 : Int32))))) else none else some (-3 : Int32))

def f56_wordKind (t : Nat) (a1 : Int32) (a2 : Int32) (M : ZI) : Option Int32 :=
  f56_l13 t a1 a2 M zfu (256 : Int32) a1 (1 : Int32) (0 : Int32)

def f64_addToken (t : Nat) (a1 : Int32) (a2 : Int32) (a3 : Int32) (M : ZI) : Option ZI :=
  (if (400 : Int32) < (M t 5) then some M else if zin (M t 5) 401 = true then zlet (zs M (t + 2) (zi (M t 5)) a1) fun (M1 : ZI) => if zin (M1 t 5) 401 = true then zlet (zs M1 (t + 3) (zi (M1 t 5)) a2) fun (M2 : ZI) => if zin (M2 t 5) 401 = true then zlet (zs M2 (t + 4) (zi (M2 t 5)) a3) fun (M3 : ZI) => zlet (zs M3 t 5 ((M3 t 5) + (1 : Int32))) fun (M4 : ZI) => some M4 else none else none else none)

def f65_isDigit (a0 : Int32) : Option Int32 :=
  (if a0 < (48 : Int32) then some (0 : Int32) else (if (57 : Int32) < a0 then some (0 : Int32) else some (1 : Int32)))

def f66_l5 (t : Nat) (a2 : Int32) (M : ZI) : Nat → Int32 → Int32 → Option (Int32)
  | 0, _, _ => none
  | n + 1, x1, x2 =>
  (if x2 < a2 then (if x2 < (400 : Int32) then if zin x2 400 = true then zlet (((x1 * (10 : Int32)) + (M (t + 1) (zi x2))) - (48 : Int32)) fun (x3 : Int32) => f66_l5 t a2 M n x3 (x2 + (1 : Int32)) else none else some x1) else some x1)

def f66_numberAt (t : Nat) (a1 : Int32) (a2 : Int32) (M : ZI) : Option Int32 :=
  (f66_l5 t a2 M zfu (0 : Int32) a1).bind fun x4 =>
  some x4

def f67_signKind (a0 : Int32) : Option Int32 :=
  (if a0 = (40 : Int32) then some a0 else if a0 = (41 : Int32) then some a0 else if a0 = (42 : Int32) then some a0 else if a0 = (43 : Int32) then some a0 else if a0 = (44 : Int32) then some (-3 : Int32) else if a0 = (45 : Int32) then some a0 else if a0 = (46 : Int32) then some (-3 : Int32) else if a0 = (47 : Int32) then some a0 else if a0 = (48 : Int32) then some (-3 : Int32) else if a0 = (49 : Int32) then some (-3 : Int32) else if a0 = (50 : Int32) then some (-3 : Int32) else if a0 = (51 : Int32) then some (-3 : Int32) else if a0 = (52 : Int32) then some (-3 : Int32) else if a0 = (53 : Int32) then some (-3 : Int32) else if a0 = (54 : Int32) then some (-3 : Int32) else if a0 = (55 : Int32) then some (-3 : Int32) else if a0 = (56 : Int32) then some (-3 : Int32) else if a0 = (57 : Int32) then some (-3 : Int32) else if a0 = (58 : Int32) then some (-3 : Int32) else if a0 = (59 : Int32) then some a0 else if a0 = (60 : Int32) then some a0 else if a0 = (61 : Int32) then some a0 else if a0 = (62 : Int32) then some a0 else some (-3 : Int32))

def f54_l81 (t : Nat) (M5 : ZI) : Nat → Int32 → Option (Int32)
  | 0, _ => none
  | n + 1, x12 =>
  (if x12 < (M5 t 1) then if zin x12 400 = true then (f65_isDigit (M5 (t + 1) (zi x12))).bind fun v13 => (if v13 = 0 then some x12 else f54_l81 t M5 n (x12 + (1 : Int32))) else none else some x12)

def f54_l33 (t : Nat) (M5 : ZI) : Nat → Int32 → Option (Int32)
  | 0, _ => none
  | n + 1, x18 =>
  (if x18 < (M5 t 1) then if zin x18 400 = true then (f55_isLetter (M5 (t + 1) (zi x18))).bind fun v19 => (if v19 = 0 then some x18 else f54_l33 t M5 n (x18 + (1 : Int32))) else none else some x18)

def f54_l7 (t : Nat) : Nat → Int32 → ZI → Option (ZI)
  | 0, _, _ => none
  | n + 1, x2, M5 =>
  (if x2 < (M5 t 1) then if zin x2 400 = true then zlet (M5 (t + 1) (zi x2)) fun (x6 : Int32) => zlet (x2 + (1 : Int32)) fun (x7 : Int32) => (f55_isLetter x6).bind fun v8 => (if v8 = 0 then (f65_isDigit x6).bind fun v9 => (if v9 = 0 then (if x6 = (32 : Int32) then f54_l7 t n x7 M5 else (if x6 = (10 : Int32) then f54_l7 t n x7 M5 else (f67_signKind x6).bind fun v10 => (f64_addToken t v10 (0 : Int32) x2 M5).bind fun M11 => f54_l7 t n x7 M11)) else (f54_l81 t M5 zfu x7).bind fun x14 =>
  ((if (4 : Int32) < (x14 - x2) then some (-3 : Int32) else some (-2 : Int32)) : Option (Int32)).bind fun v15 =>
  (f66_numberAt t x2 x14 M5).bind fun v16 => (f64_addToken t v15 v16 x2 M5).bind fun M17 => f54_l7 t n x14 M17) else (f54_l33 t M5 zfu x7).bind fun x20 =>
  (f56_wordKind t x2 x20 M5).bind fun v21 => (f64_addToken t v21 (0 : Int32) x2 M5).bind fun M22 => f54_l7 t n x20 M22) else none else some M5)

def f54_findTokens (t : Nat) (M : ZI) : Option ZI :=
  zlet (zs M t 5 (0 : Int32)) fun (M1 : ZI) => (f54_l7 t zfu (0 : Int32) M1).bind fun M23 =>
  (f64_addToken t (-1 : Int32) (0 : Int32) (M23 t 1) M23).bind fun M27 => some M27

def f68_forward (t : Nat) (M : ZI) : Option ZI :=
  (if ((M t 6) + (1 : Int32)) < (M t 5) then zlet (zs M t 6 ((M t 6) + (1 : Int32))) fun (M1 : ZI) => if zin (M1 t 6) 401 = true then zlet (zs M1 t 7 (M1 (t + 2) (zi (M1 t 6)))) fun (M2 : ZI) => if zin (M2 t 6) 401 = true then zlet (zs M2 t 8 (M2 (t + 3) (zi (M2 t 6)))) fun (M3 : ZI) => some M3 else none else none else some M)

def f53_begin (t : Nat) (a1 : Int32) (M : ZI) : Option ZI :=
  zlet (zs M t 9 a1) fun (M1 : ZI) => zlet (zs M1 t 10 (0 : Int32)) fun (M2 : ZI) => zlet (zs M2 t 11 (-1 : Int32)) fun (M3 : ZI) => (f54_findTokens t M3).bind fun M4 => zlet (zs M4 t 1 (0 : Int32)) fun (M5 : ZI) => zlet (zs M5 t 6 (-1 : Int32)) fun (M6 : ZI) => (f68_forward t M6).bind fun M7 => some M7

def f70_refuse (t : Nat) (a1 : Int32) (M : ZI) : Option (Int32 × ZI) :=
  zlet (zs M t 10 a1) fun (M1 : ZI) => if zin (M1 t 6) 401 = true then zlet (zs M1 t 11 (M1 (t + 4) (zi (M1 t 6)))) fun (M2 : ZI) => some ((0 : Int32), M2) else none

def f74_add (t : Nat) (a1 : Int32) (a2 : Int32) (M : ZI) : Option ZI :=
  (if (M t 3) < (400 : Int32) then if zin (M t 3) 400 = true then zlet (zs M (t + 1) (zi (M t 3)) a1) fun (M1 : ZI) => if zin (M1 t 3) 400 = true then zlet (zs M1 (t + 2) (zi (M1 t 3)) a2) fun (M2 : ZI) => zlet (zs M2 t 3 ((M2 t 3) + (1 : Int32))) fun (M3 : ZI) => some M3 else none else none else some M)

def f73_readUnit (t : Nat) (a1 : Nat) (M : ZI) : Option (Int32 × ZI) :=
  zlet (fun (M1 : ZI) => ((f68_forward t M1).bind fun M2 => some ((1 : Int32), M2) : Option (Int32 × ZI))) fun j3 =>
  zlet (fun (M4 : ZI) => ((if (M4 t 7) = (-2 : Int32) then (f74_add a1 (-2 : Int32) (M4 t 8) M4).bind fun M7 => j3 M7 else (f70_refuse t (1 : Int32) M4).bind fun (v5, M6) => if zbl v5 = true then some (v5, M6) else none) : Option (Int32 × ZI))) fun j8 =>
  (if (M t 7) < (263 : Int32) then j8 M else (if (271 : Int32) < (M t 7) then j8 M else (f74_add a1 (300 : Int32) ((M t 7) - (263 : Int32)) M).bind fun M9 => j3 M9))

def f75_isNumber (t : Nat) (a1 : Int32) (a2 : Int32) (M : ZI) : Option (Int32 × ZI) :=
  (if (M t 7) = (-2 : Int32) then (f13_within (M t 8) a1 a2).bind fun v1 => (if v1 = 0 then (f70_refuse t (2 : Int32) M).bind fun (v2, M3) => (if v2 = 0 then some ((0 : Int32), M3) else some ((1 : Int32), M3)) else some ((1 : Int32), M)) else (f70_refuse t (1 : Int32) M).bind fun (v4, M5) => if zbl v4 = true then some (v4, M5) else none)

def f72_l12 (t : Nat) (a1 : Nat) : Nat → Int32 → ZI → Option (Int32 × ZI)
  | 0, _, _ => none
  | n + 1, x3, M5 =>
  (if x3 < (400 : Int32) then zlet (fun (_ : Unit) => (zlet (M5 t 7) fun (x6 : Int32) => (f68_forward t M5).bind fun M7 => (if x6 = (42 : Int32) then (f73_readUnit t a1 M7).bind fun (v12, M13) => (if v12 = 0 then some ((0 : Int32), M13) else (f74_add a1 (42 : Int32) (0 : Int32) M13).bind fun M14 => f72_l12 t a1 n (x3 + (1 : Int32)) M14) else (f75_isNumber t (1 : Int32) (9999 : Int32) M7).bind fun (v8, M9) => (if v8 = 0 then some ((0 : Int32), M9) else (f74_add a1 (47 : Int32) (M9 t 8) M9).bind fun M10 => (f68_forward t M10).bind fun M11 => f72_l12 t a1 n (x3 + (1 : Int32)) M11)) : Option (Int32 × ZI))) fun j15 =>
  (if (M5 t 7) = (42 : Int32) then j15 () else (if (M5 t 7) = (47 : Int32) then j15 () else some ((1 : Int32), M5))) else some ((1 : Int32), M5))

def f72_readTerm (t : Nat) (a1 : Nat) (M : ZI) : Option (Int32 × ZI) :=
  (f73_readUnit t a1 M).bind fun (v1, M2) => (if v1 = 0 then some ((0 : Int32), M2) else f72_l12 t a1 zfu (0 : Int32) M2)

def f71_l4 (t : Nat) (a1 : Nat) : Nat → Int32 → Int32 → ZI → Option (Int32 × ZI)
  | 0, _, _, _ => none
  | n + 1, x1, x2, M3 =>
  (if x2 < (400 : Int32) then (f72_readTerm t a1 M3).bind fun (v6, M7) => (if v6 = 0 then some ((0 : Int32), M7) else ((if x1 = 0 then some M7 else (f74_add a1 x1 (0 : Int32) M7).bind fun M8 => some M8) : Option (ZI)).bind fun M9 =>
  zlet (fun (_ : Unit) => (zlet (M9 t 7) fun (x10 : Int32) => (f68_forward t M9).bind fun M11 => f71_l4 t a1 n x10 (x2 + (1 : Int32)) M11 : Option (Int32 × ZI))) fun j12 =>
  (if (M9 t 7) = (43 : Int32) then j12 () else (if (M9 t 7) = (45 : Int32) then j12 () else some ((1 : Int32), M9)))) else (f70_refuse t (1 : Int32) M3).bind fun (v4, M5) => if zbl v4 = true then some (v4, M5) else none)

def f71_readSum (t : Nat) (a1 : Nat) (M : ZI) : Option (Int32 × ZI) :=
  f71_l4 t a1 zfu (0 : Int32) (0 : Int32) M

def f78_skip (t : Nat) (a1 : Int32) (M : ZI) : Option (Int32 × ZI) :=
  (if (M t 7) = a1 then (f68_forward t M).bind fun M1 => some ((1 : Int32), M1) else (f70_refuse t (1 : Int32) M).bind fun (v2, M3) => if zbl v2 = true then some (v2, M3) else none)

def f79_readPart (t : Nat) (a1 : Nat) (M : ZI) : Option (Int32 × ZI) :=
  ((if (M t 7) = (279 : Int32) then some (1 : Int32) else some (0 : Int32)) : Option (Int32)).bind fun v1 =>
  ((if v1 = 0 then some M else (f68_forward t M).bind fun M2 => some M2) : Option (ZI)).bind fun M3 =>
  ((if v1 = 0 then some (0 : Int32) else some (1 : Int32)) : Option (Int32)).bind fun v4 =>
  ((if v1 = 0 then some ((M3 t 9) - (1 : Int32)) else some (10 : Int32)) : Option (Int32)).bind fun v5 =>
  (f75_isNumber t v4 v5 M3).bind fun (v6, M7) => (if v6 = 0 then some ((0 : Int32), M7) else ((if v1 = 0 then some (301 : Int32) else some (279 : Int32)) : Option (Int32)).bind fun v8 =>
  (f74_add a1 v8 (M7 t 8) M7).bind fun M9 => (f68_forward t M9).bind fun M10 => zlet (zs M10 (t + 23) 1 ((M10 (t + 23) 1) + (1 : Int32))) fun (M11 : ZI) => some ((1 : Int32), M11))

def f77_readOne_b (g76 : Nat → Nat → Int32 → Int32 → ZI → Option (Int32 × ZI)) (g77 : Nat → Nat → Int32 → Int32 → ZI → Option (Int32 × ZI)) (t : Nat) (a1 : Nat) (a2 : Int32) (a3 : Int32) (M : ZI) : Option (Int32 × ZI) :=
  zlet (fun (M1 : ZI) => ((if a3 < (8 : Int32) then ((if (M1 t 7) = (262 : Int32) then some (1 : Int32) else some (0 : Int32)) : Option (Int32)).bind fun v3 =>
  (f68_forward t M1).bind fun M4 => (if v3 = 0 then (g76 t a1 a2 (a3 + (1 : Int32)) M4).bind fun (v8, M9) => (if v8 = 0 then some ((0 : Int32), M9) else (f78_skip t (41 : Int32) M9).bind fun (v10, M11) => (if v10 = 0 then some ((0 : Int32), M11) else some ((1 : Int32), M11))) else (g77 t a1 a2 (a3 + (1 : Int32)) M4).bind fun (v5, M6) => (if v5 = 0 then some ((0 : Int32), M6) else (f74_add a1 (262 : Int32) (0 : Int32) M6).bind fun M7 => some ((1 : Int32), M7))) else (f70_refuse t (3 : Int32) M1).bind fun (v12, M13) => if zbl v12 = true then some (v12, M13) else none) : Option (Int32 × ZI))) fun j14 =>
  (if (M t 7) = (40 : Int32) then j14 M else zlet (fun (_ : Unit) => ((if a2 = 0 then (f71_readSum t a1 M).bind fun (v15, M16) => (if v15 = 0 then some ((0 : Int32), M16) else zlet (M16 t 7) fun (x17 : Int32) => zlet (fun (M18 : ZI) => ((f68_forward t M18).bind fun M19 => (f71_readSum t a1 M19).bind fun (v20, M21) => (if v20 = 0 then some ((0 : Int32), M21) else (f74_add a1 x17 (0 : Int32) M21).bind fun M22 => some ((1 : Int32), M22)) : Option (Int32 × ZI))) fun j23 =>
  (if x17 = (60 : Int32) then j23 M16 else (if x17 = (61 : Int32) then j23 M16 else (if x17 = (62 : Int32) then j23 M16 else (f70_refuse t (1 : Int32) M16).bind fun (v24, M25) => if zbl v24 = true then some (v24, M25) else none)))) else (f79_readPart t a1 M).bind fun (v26, M27) => if zbl v26 = true then some (v26, M27) else none) : Option (Int32 × ZI))) fun j28 =>
  (if (M t 7) = (262 : Int32) then (if a2 = 0 then j14 M else j28 ()) else j28 ()))

def f76_l9 (g77 : Nat → Nat → Int32 → Int32 → ZI → Option (Int32 × ZI)) (t : Nat) (a1 : Nat) (a2 : Int32) (a3 : Int32) : Nat → Int32 → Int32 → Int32 → ZI → Option (Int32 × ZI)
  | 0, _, _, _, _ => none
  | n + 1, x1, x2, x3, M4 =>
  (if x3 < (400 : Int32) then (g77 t a1 a2 a3 M4).bind fun (v7, M8) => (if v7 = 0 then some ((0 : Int32), M8) else ((if x2 = 0 then some M8 else (f74_add a1 (261 : Int32) (0 : Int32) M8).bind fun M9 => some M9) : Option (ZI)).bind fun M10 =>
  ((if (M10 t 7) = (261 : Int32) then some (1 : Int32) else some (0 : Int32)) : Option (Int32)).bind fun v11 =>
  zlet (fun (x12 : Int32) (M13 : ZI) => ((f68_forward t M13).bind fun M14 => f76_l9 g77 t a1 a2 a3 n x12 v11 (x3 + (1 : Int32)) M14 : Option (Int32 × ZI))) fun j15 =>
  (if v11 = 0 then ((if x1 = 0 then some M10 else (f74_add a1 (260 : Int32) (0 : Int32) M10).bind fun M16 => some M16) : Option (ZI)).bind fun M17 =>
  ((if (M17 t 7) = (260 : Int32) then some (1 : Int32) else some (0 : Int32)) : Option (Int32)).bind fun v18 =>
  (if v18 = 0 then some ((1 : Int32), M17) else j15 v18 M17) else j15 x1 M10)) else (f70_refuse t (1 : Int32) M4).bind fun (v5, M6) => if zbl v5 = true then some (v5, M6) else none)

def f76_readAny_b (g77 : Nat → Nat → Int32 → Int32 → ZI → Option (Int32 × ZI)) (t : Nat) (a1 : Nat) (a2 : Int32) (a3 : Int32) (M : ZI) : Option (Int32 × ZI) :=
  f76_l9 g77 t a1 a2 a3 zfu (0 : Int32) (0 : Int32) (0 : Int32) M

def fgA : Nat → (Nat → Nat → Int32 → Int32 → ZI → Option (Int32 × ZI)) × (Nat → Nat → Int32 → Int32 → ZI → Option (Int32 × ZI))
  | 0 => (fun _ _ _ _ _ => none, fun _ _ _ _ _ => none)
  | f + 1 => (f77_readOne_b (fgA f).2 (fgA f).1, f76_readAny_b (fgA f).1)
def f77_readOne (f : Nat) : Nat → Nat → Int32 → Int32 → ZI → Option (Int32 × ZI) := (fgA f).1
def f76_readAny (f : Nat) : Nat → Nat → Int32 → Int32 → ZI → Option (Int32 × ZI) := (fgA f).2
theorem fe77 (f : Nat) : f77_readOne (f + 1) = f77_readOne_b (f76_readAny f) (f77_readOne f) := by simp only [f77_readOne, f76_readAny, fgA]
theorem fe76 (f : Nat) : f76_readAny (f + 1) = f76_readAny_b (f77_readOne f) := by simp only [f77_readOne, f76_readAny, fgA]

def f80_add (t : Nat) (a1 : Int32) (a2 : Int32) (a3 : Int32) (M : ZI) : Option ZI :=
  (if (M t 5) < (16 : Int32) then if zin (M t 5) 16 = true then zlet (zs M (t + 5) (zi (M t 5)) a1) fun (M1 : ZI) => if zin (M1 t 5) 16 = true then zlet (zs M1 (t + 6) (zi (M1 t 5)) a2) fun (M2 : ZI) => if zin (M2 t 5) 16 = true then zlet (zs M2 (t + 7) (zi (M2 t 5)) a3) fun (M3 : ZI) => if zin (M3 t 5) 16 = true then zlet (zs M3 (t + 8) (zi (M3 t 5)) (M3 (t + 1) 3)) fun (M4 : ZI) => zlet (zs M4 t 5 ((M4 t 5) + (1 : Int32))) fun (M5 : ZI) => some M5 else none else none else none else none else some M)

def f69_l21 (t : Nat) : Nat → Int32 → ZI → Option (Int32 × ZI)
  | 0, _, _ => none
  | n + 1, x3, M7 =>
  (if x3 < (400 : Int32) then (if (M7 t 7) = (-1 : Int32) then some ((1 : Int32), M7) else zlet (M7 t 7) fun (x8 : Int32) => zlet (fun (M9 : ZI) => ((if (M9 (t + 5) 5) < (16 : Int32) then (f68_forward t M9).bind fun M10 => zlet (M10 (t + 6) 3) fun (x11 : Int32) => (f71_readSum t (t + 6) M10).bind fun (v12, M13) => (if v12 = 0 then some ((0 : Int32), M13) else zlet (M13 (t + 6) 3) fun (x14 : Int32) => zlet (fun (M15 : ZI) => ((f78_skip t (59 : Int32) M15).bind fun (v16, M17) => (if v16 = 0 then some ((0 : Int32), M17) else (f80_add (t + 5) x8 x11 x14 M17).bind fun M18 => f69_l21 t n (x3 + (1 : Int32)) M18) : Option (Int32 × ZI))) fun j19 =>
  (if (M13 t 7) = (259 : Int32) then (f68_forward t M13).bind fun M20 => (f76_readAny zgf t (t + 6) (0 : Int32) (0 : Int32) M20).bind fun (v21, M22) => (if v21 = 0 then some ((0 : Int32), M22) else j19 M22) else j19 M13)) else (f70_refuse t (3 : Int32) M9).bind fun (v23, M24) => if zbl v23 = true then some (v23, M24) else none) : Option (Int32 × ZI))) fun j25 =>
  (if x8 = (256 : Int32) then j25 M7 else (if x8 = (257 : Int32) then j25 M7 else (if x8 = (258 : Int32) then j25 M7 else (f70_refuse t (1 : Int32) M7).bind fun (v26, M27) => if zbl v26 = true then some (v26, M27) else none)))) else some ((1 : Int32), M7))

def f69_readLaw (t : Nat) (M : ZI) : Option (Int32 × ZI) :=
  zlet (zs M (t + 5) 5 (0 : Int32)) fun (M1 : ZI) => zlet (zs M1 (t + 6) 3 (0 : Int32)) fun (M2 : ZI) => f69_l21 t zfu (0 : Int32) M2

def f82_copy (t : Nat) (a1 : Nat) (M : ZI) : Option ZI :=
  zlet (zc M (t + 1) (a1 + 1) 0 0 400) fun (M1 : ZI) => zlet (zc M1 (t + 2) (a1 + 2) 0 0 400) fun (M2 : ZI) => zlet (zs M2 t 3 (M2 a1 3)) fun (M3 : ZI) => some M3

def f81_copy (t : Nat) (a1 : Nat) (M : ZI) : Option ZI :=
  (f82_copy (t + 1) (a1 + 1) M).bind fun M1 => zlet (zc M1 (t + 5) (a1 + 5) 0 0 16) fun (M2 : ZI) => zlet (zc M2 (t + 6) (a1 + 6) 0 0 16) fun (M3 : ZI) => zlet (zc M3 (t + 7) (a1 + 7) 0 0 16) fun (M4 : ZI) => zlet (zc M4 (t + 8) (a1 + 8) 0 0 16) fun (M5 : ZI) => zlet (zs M5 t 5 (M5 a1 5)) fun (M6 : ZI) => some M6

def f83_l2 (t : Nat) : Nat → Int32 → ZI → Option (ZI)
  | 0, _, _ => none
  | n + 1, x1, M2 =>
  (if x1 < (10 : Int32) then if zin x1 10 = true then zlet (zs M2 (t + 14) (zi x1) (-1 : Int32)) fun (M3 : ZI) => f83_l2 t n (x1 + (1 : Int32)) M3 else none else some M2)

def f83_l23 (t : Nat) : Nat → Int32 → ZI → Option (Int32 × ZI)
  | 0, _, _ => none
  | n + 1, x6, M8 =>
  (if x6 < (400 : Int32) then (if (M8 t 7) = (-1 : Int32) then some ((1 : Int32), M8) else (f75_isNumber t (0 : Int32) ((M8 t 9) - (1 : Int32)) M8).bind fun (v9, M10) => (if v9 = 0 then some ((0 : Int32), M10) else zlet (M10 t 8) fun (x11 : Int32) => zlet (fun (M12 : ZI) => ((f70_refuse t (2 : Int32) M12).bind fun (v14, M15) => if zbl v14 = true then some (v14, M15) else none : Option (Int32 × ZI))) fun j16 =>
  (if x11 < (10 : Int32) then if zin x11 10 = true then (if (M10 (t + 14) (zi x11)) = (-1 : Int32) then (f68_forward t M10).bind fun M17 => (f78_skip t (272 : Int32) M17).bind fun (v18, M19) => (if v18 = 0 then some ((0 : Int32), M19) else (f75_isNumber t (0 : Int32) ((M19 t 9) - (1 : Int32)) M19).bind fun (v20, M21) => (if v20 = 0 then some ((0 : Int32), M21) else (if (M21 t 8) = x11 then (f70_refuse t (2 : Int32) M21).bind fun (v26, M27) => if zbl v26 = true then some (v26, M27) else none else if zin x11 10 = true then zlet (zs M21 (t + 14) (zi x11) (M21 t 8)) fun (M22 : ZI) => (f68_forward t M22).bind fun M23 => (f78_skip t (59 : Int32) M23).bind fun (v24, M25) => (if v24 = 0 then some ((0 : Int32), M25) else f83_l23 t n (x6 + (1 : Int32)) M25) else none))) else j16 M10) else none else j16 M10))) else some ((1 : Int32), M8))

def f83_readVoices (t : Nat) (M : ZI) : Option (Int32 × ZI) :=
  (f83_l2 t zfu (0 : Int32) M).bind fun M4 =>
  f83_l23 t zfu (0 : Int32) M4

def f84_l4 (t : Nat) (M : ZI) : Nat → Int32 → Int32 → Option (Int32)
  | 0, _, _ => none
  | n + 1, x1, x2 =>
  (if x2 < (M t 11) then if zin x2 10 = true then (if (M (t + 38) (zi x2)) = (-1 : Int32) then zlet (x1 + (0 : Int32)) fun (x4 : Int32) => f84_l4 t M n x4 (x2 + (1 : Int32)) else zlet (x1 + (1 : Int32)) fun (x3 : Int32) => f84_l4 t M n x3 (x2 + (1 : Int32))) else none else some x1)

def f84_voices (t : Nat) (M : ZI) : Option Int32 :=
  (f84_l4 t M zfu (0 : Int32) (0 : Int32)).bind fun x5 =>
  some x5

def f86_readEntry (t : Nat) (a1 : Int32) (a2 : Nat) (a3 : Int32) (a4 : Int32) (M : ZI) : Option (Int32 × ZI) :=
  (f78_skip t a1 M).bind fun (v1, M2) => (if v1 = 0 then some ((0 : Int32), M2) else (f75_isNumber t a3 a4 M2).bind fun (v3, M4) => (if v3 = 0 then some ((0 : Int32), M4) else ((if (M4 (t + 15) 6) < (Int32.ofNat (zal a2)) then if zin (M4 (t + 15) 6) (zal a2) = true then zlet (zs M4 a2 (zi (M4 (t + 15) 6)) (M4 t 8)) fun (M5 : ZI) => some M5 else none else some M4) : Option (ZI)).bind fun M6 =>
  (f68_forward t M6).bind fun M7 => some ((1 : Int32), M7)))

def f87_readAfter (t : Nat) (M : ZI) : Option (Int32 × ZI) :=
  zlet (M (t + 15) 6) fun (x1 : Int32) => if zin x1 12 = true then zlet (zs M (t + 21) (zi x1) (-1 : Int32)) fun (M2 : ZI) => (if (M2 t 7) = (278 : Int32) then (f68_forward t M2).bind fun M3 => (f75_isNumber t (0 : Int32) (x1 - (1 : Int32)) M3).bind fun (v4, M5) => (if v4 = 0 then some ((0 : Int32), M5) else if zin (M5 t 8) 12 = true then if zin x1 12 = true then (if (M5 (t + 16) (zi (M5 t 8))) = (M5 (t + 16) (zi x1)) then if zin x1 12 = true then zlet (zs M5 (t + 21) (zi x1) (M5 t 8)) fun (M6 : ZI) => (f68_forward t M6).bind fun M7 => some ((1 : Int32), M7) else none else (f70_refuse t (2 : Int32) M5).bind fun (v8, M9) => if zbl v8 = true then some (v8, M9) else none) else none else none) else some ((1 : Int32), M2)) else none

def f85_l10 (t : Nat) : Nat → Int32 → ZI → Option (Int32 × ZI)
  | 0, _, _ => none
  | n + 1, x2, M4 =>
  (if x2 < (400 : Int32) then (if (M4 t 7) = (-1 : Int32) then some ((1 : Int32), M4) else (if (M4 t 7) = (273 : Int32) then (if (M4 (t + 15) 6) < (12 : Int32) then (f86_readEntry t (273 : Int32) (t + 16) (0 : Int32) ((M4 t 9) - (1 : Int32)) M4).bind fun (v5, M6) => ((if v5 = 0 then some ((0 : Int32), M6) else (f86_readEntry t (274 : Int32) (t + 17) (1 : Int32) (24 : Int32) M6).bind fun (v7, M8) => (if v7 = 0 then some ((0 : Int32), M8) else (f86_readEntry t (275 : Int32) (t + 18) (0 : Int32) (99 : Int32) M8).bind fun (v9, M10) => (if v9 = 0 then some ((0 : Int32), M10) else (f86_readEntry t (276 : Int32) (t + 19) (0 : Int32) (9 : Int32) M10).bind fun (v11, M12) => (if v11 = 0 then some ((0 : Int32), M12) else (f86_readEntry t (277 : Int32) (t + 20) (0 : Int32) (9 : Int32) M12).bind fun (v13, M14) => (if v13 = 0 then some ((0 : Int32), M14) else (f87_readAfter t M14).bind fun (v15, M16) => (if v15 = 0 then some ((0 : Int32), M16) else (f78_skip t (59 : Int32) M16).bind fun (v17, M18) => (if v17 = 0 then some ((0 : Int32), M18) else some ((1 : Int32), M18)))))))) : Option (Int32 × ZI)).bind fun (v19, M20) =>
  (if v19 = 0 then some ((0 : Int32), M20) else zlet (zs M20 (t + 15) 6 ((M20 (t + 15) 6) + (1 : Int32))) fun (M21 : ZI) => f85_l10 t n (x2 + (1 : Int32)) M21) else (f70_refuse t (3 : Int32) M4).bind fun (v22, M23) => if zbl v22 = true then some (v22, M23) else none) else (f70_refuse t (1 : Int32) M4).bind fun (v24, M25) => if zbl v24 = true then some (v24, M25) else none)) else some ((1 : Int32), M4))

def f85_readWorks (t : Nat) (M : ZI) : Option (Int32 × ZI) :=
  zlet (zs M (t + 15) 6 (0 : Int32)) fun (M1 : ZI) => f85_l10 t zfu (0 : Int32) M1

def f88_copy (t : Nat) (a1 : Nat) (M : ZI) : Option ZI :=
  zlet (zc M (t + 1) (a1 + 1) 0 0 12) fun (M1 : ZI) => zlet (zc M1 (t + 2) (a1 + 2) 0 0 12) fun (M2 : ZI) => zlet (zc M2 (t + 3) (a1 + 3) 0 0 12) fun (M3 : ZI) => zlet (zc M3 (t + 4) (a1 + 4) 0 0 12) fun (M4 : ZI) => zlet (zc M4 (t + 5) (a1 + 5) 0 0 12) fun (M5 : ZI) => zlet (zc M5 (t + 6) (a1 + 6) 0 0 12) fun (M6 : ZI) => zlet (zs M6 t 6 (M6 a1 6)) fun (M7 : ZI) => some M7

def f89_readCouncil (t : Nat) (M : ZI) : Option (Int32 × ZI) :=
  zlet (zs M (t + 23) 1 (0 : Int32)) fun (M1 : ZI) => zlet (zs M1 (t + 24) 3 (0 : Int32)) fun (M2 : ZI) => (if (M2 t 7) = (-1 : Int32) then some ((1 : Int32), M2) else (f76_readAny zgf t (t + 24) (1 : Int32) (0 : Int32) M2).bind fun (v3, M4) => (if v3 = 0 then some ((0 : Int32), M4) else (f78_skip t (-1 : Int32) M4).bind fun (v5, M6) => (if v5 = 0 then some ((0 : Int32), M6) else some ((1 : Int32), M6))))

def f90_copy (t : Nat) (a1 : Nat) (M : ZI) : Option ZI :=
  (f82_copy (t + 1) (a1 + 1) M).bind fun M1 => zlet (zs M1 t 1 (M1 a1 1)) fun (M2 : ZI) => some M2

def f52_text (a1 : Int32) (M : ZI) : Option (Int32 × ZI) :=
  (f53_begin 119 (M 1 11) M).bind fun M1 => (if a1 = (0 : Int32) then (f69_readLaw 119 M1).bind fun (v2, M3) => (if v2 = 0 then some ((-1 : Int32), M3) else (f81_copy 12 124 M3).bind fun M4 => some ((M4 12 5), M4)) else if a1 = (1 : Int32) then (f83_readVoices 119 M1).bind fun (v5, M6) => (if v5 = 0 then some ((-1 : Int32), M6) else (f11_forgetPasts M6).bind fun M7 => zlet (zc M7 39 133 0 0 10) fun (M8 : ZI) => (f84_voices 1 M8).bind fun v9 => some (v9, M8)) else if a1 = (2 : Int32) then (f85_readWorks 119 M1).bind fun (v10, M11) => (if v10 = 0 then some ((-1 : Int32), M11) else (f11_forgetPasts M11).bind fun M12 => (f88_copy 21 134 M12).bind fun M13 => zlet (zs M13 2 8 (0 : Int32)) fun (M14 : ZI) => some ((M14 21 6), M14)) else if a1 = (3 : Int32) then (f89_readCouncil 119 M1).bind fun (v15, M16) => (if v15 = 0 then some ((-1 : Int32), M16) else (f90_copy 29 142 M16).bind fun M17 => some ((M17 29 1), M17)) else some ((-1 : Int32), M1))

def f91_fault (a1 : Int32) (M : ZI) : Option Int32 :=
  (if a1 = 0 then some (M 119 10) else (if a1 = (1 : Int32) then some (M 119 11) else some (-1 : Int32)))

def f93_l4 (a1 : Int32) : Nat → Int32 → Int32 → ZI → Option (Int32 × ZI)
  | 0, _, _, _ => none
  | n + 1, x1, x2, M3 =>
  (if x2 < (M3 1 11) then if zin x2 10 = true then (if (M3 39 (zi x2)) = a1 then (f27_asks 1 2 (256 : Int32) x2 (0 : Int32) M3).bind fun (v4, M5) => zlet (x1 + v4) fun (x6 : Int32) => f93_l4 a1 n x6 (x2 + (1 : Int32)) M5 else f93_l4 a1 n x1 (x2 + (1 : Int32)) M3) else none else some (x1, M3))

def f93_weightsNaming (a1 : Int32) (M : ZI) : Option (Int32 × ZI) :=
  (f93_l4 a1 zfu (0 : Int32) (0 : Int32) M).bind fun (x7, M8) =>
  some (x7, M8)

def f92_of (a1 : Int32) (a2 : Int32) (M : ZI) : Option (Int32 × ZI) :=
  (f17_has 1 a1 M).bind fun v1 => (if v1 = 0 then some ((-2 : Int32), M) else (if a2 = (0 : Int32) then if zin a1 10 = true then some ((M 3 (zi a1)), M) else none else if a2 = (1 : Int32) then if zin a1 10 = true then some ((M 37 (zi a1)), M) else none else if a2 = (2 : Int32) then if zin a1 10 = true then some ((M 38 (zi a1)), M) else none else if a2 = (3 : Int32) then if zin a1 10 = true then some ((M 4 (zi a1)), M) else none else if a2 = (4 : Int32) then if zin a1 10 = true then some ((M 5 (zi a1)), M) else none else if a2 = (5 : Int32) then if zin a1 10 = true then some ((M 39 (zi a1)), M) else none else if a2 = (6 : Int32) then if zin a1 10 = true then some ((M 6 (zi a1)), M) else none else if a2 = (7 : Int32) then (f27_asks 1 2 (256 : Int32) a1 (0 : Int32) M).bind fun (v2, M3) => some (v2, M3) else if a2 = (8 : Int32) then (f93_weightsNaming a1 M).bind fun (v4, M5) => some (v4, M5) else some ((-2 : Int32), M)))

def f94_after (a1 : Int32) (a2 : Int32) (a3 : Int32) (M : ZI) : Option (Int32 × ZI) :=
  (f17_has 1 a1 M).bind fun v1 => (if v1 = 0 then some ((-1 : Int32), M) else (f13_within a2 (0 : Int32) (24 : Int32)).bind fun v2 => (if v2 = 0 then some ((-1 : Int32), M) else ((if a3 = 0 then some (257 : Int32) else some (258 : Int32)) : Option (Int32)).bind fun v3 =>
  (f27_asks 1 2 v3 a1 a2 M).bind fun (v4, M5) => some (v4, M5)))

def f95_work (a1 : Int32) (a2 : Int32) (M : ZI) : Option Int32 :=
  (f13_within a1 (0 : Int32) ((M 21 6) - (1 : Int32))).bind fun v1 => (if v1 = 0 then some (-2 : Int32) else (if a2 = (0 : Int32) then if zin a1 12 = true then some (M 22 (zi a1)) else none else if a2 = (1 : Int32) then if zin a1 12 = true then some (M 23 (zi a1)) else none else if a2 = (2 : Int32) then if zin a1 12 = true then some (M 24 (zi a1)) else none else if a2 = (3 : Int32) then if zin a1 12 = true then some (M 25 (zi a1)) else none else if a2 = (4 : Int32) then if zin a1 12 = true then some (M 26 (zi a1)) else none else if a2 = (5 : Int32) then if zin a1 12 = true then some (M 27 (zi a1)) else none else if a2 = (6 : Int32) then (f19_isIn (M 2 8) a1).bind fun v2 => (if v2 = 0 then some (0 : Int32) else some (1 : Int32)) else some (-2 : Int32)))

def f96_book (a1 : Int32) (a2 : Int32) (M : ZI) : Option Int32 :=
  (f13_within a1 (0 : Int32) ((M 2 10) - (1 : Int32))).bind fun v1 => (if v1 = 0 then some (-2 : Int32) else (if a2 = (0 : Int32) then if zin a1 150 = true then some (M 8 (zi a1)) else none else if a2 = (1 : Int32) then if zin a1 150 = true then some (M 9 (zi a1)) else none else if a2 = (2 : Int32) then if zin a1 150 = true then some (M 10 (zi a1)) else none else if a2 = (3 : Int32) then if zin a1 150 = true then some (M 11 (zi a1)) else none else some (-2 : Int32)))

def f98_everyone (t : Nat) (M : ZI) : Option Int32 :=
  some ((zshl (1 : Int32) (M t 11)) - (1 : Int32))

def f97_does (a1 : Int32) (M : ZI) : Option (Int32 × ZI) :=
  (f98_everyone 1 M).bind fun v1 => (f37_isMetBy 29 (a1 &&& v1) M).bind fun (v2, M3) => if zbl v2 = true then some (v2, M3) else none

def f99_plan (a1 : Int32) (a2 : Int32) (a3 : Int32) (M : ZI) : Option Int32 :=
  (f17_has 1 a1 M).bind fun v1 => (if v1 = 0 then some (-1 : Int32) else (f13_within a2 (0 : Int32) (24 : Int32)).bind fun v2 => (if v2 = 0 then some (-1 : Int32) else (f13_within a3 (0 : Int32) (2 : Int32)).bind fun v3 => (if v3 = 0 then some (-1 : Int32) else (f40_bestSet 21 a1 a2 (M 2 8) M).bind fun v4 => (if a3 = (2 : Int32) then some v4 else (if a3 = 0 then (f42_sum 21 v4 24 M).bind fun v6 => some v6 else (f42_sum 21 v4 23 M).bind fun v5 => some v5)))))

def f100_l44 (a1 : Int32) : Nat → Int32 → Int32 → Int32 → ZI → Option (Int32 × Int32 × ZI)
  | 0, _, _, _, _ => none
  | n + 1, x4, x5, x6, M7 =>
  (if x6 < a1 then (f25_pass 1 114 (0 : Int32) M7).bind fun (v8, M9) => (if v8 = (-2 : Int32) then f100_l44 a1 n v8 (x5 + (1 : Int32)) (x6 + (1 : Int32)) M9 else f100_l44 a1 n v8 x5 (x6 + (1 : Int32)) M9) else some (x4, x5, M7))

def f100_given (a1 : Int32) (a2 : Int32) (M : ZI) : Option (Int32 × ZI) :=
  (f13_within a1 (1 : Int32) (40 : Int32)).bind fun v1 => (if v1 = 0 then some ((-2 : Int32), M) else (f13_within a2 (0 : Int32) (2 : Int32)).bind fun v2 => (if v2 = 0 then some ((-2 : Int32), M) else (f21_copy 114 2 M).bind fun M3 => (f100_l44 a1 zfu (-1 : Int32) (0 : Int32) (0 : Int32) M3).bind fun (x10, x11, M12) =>
  (if a2 = 0 then some ((zmax x10 (-1 : Int32)), M12) else (if a2 = (1 : Int32) then some (x11, M12) else some (((M12 114 7) - (M12 2 7)), M12)))))

def f101_l31 (a1 : Int32) : Nat → Int32 → Int32 → ZI → Option (Int32 × ZI)
  | 0, _, _, _ => none
  | n + 1, x3, x4, M6 =>
  (if x4 < (M6 1 11) then ((if x4 = a1 then some ((-1 : Int32), M6) else (f36_elect 1 a1 x4 M6).bind fun (v7, M8) => some (v7, M8)) : Option (Int32 × ZI)).bind fun (v9, M10) =>
  (if v9 < 0 then f101_l31 a1 n x3 (x4 + (1 : Int32)) M10 else zlet (x3 ||| (zshl (1 : Int32) v9)) fun (x11 : Int32) => f101_l31 a1 n x11 (x4 + (1 : Int32)) M10) else some (x3, M6))

def f101_can (a1 : Int32) (M : ZI) : Option (Int32 × ZI) :=
  (f17_has 1 a1 M).bind fun v1 => (if v1 = 0 then some ((-1 : Int32), M) else (f26_weigh 1 2 M).bind fun M2 => (f101_l31 a1 zfu (0 : Int32) (-1 : Int32) M2).bind fun (x12, M13) =>
  some (x12, M13))

def f103_l10 (v1 : Int32) : Nat → Int32 → ZI → Option (ZI)
  | 0, _, _ => none
  | n + 1, x2, M3 =>
  (if v1 < x2 then some M3 else (if x2 < (1024 : Int32) then (f37_isMetBy 29 x2 M3).bind fun (v4, M5) => if zin x2 1024 = true then zlet (zs M5 147 (zi x2) (zbo v4)) fun (M6 : ZI) => f103_l10 v1 n (x2 + (1 : Int32)) M6 else none else some M3))

def f103_fillDoing (M : ZI) : Option ZI :=
  (f98_everyone 1 M).bind fun v1 => (f103_l10 v1 zfu (0 : Int32) M).bind fun M7 =>
  some M7

def f102_l40 (a1 : Int32) (M3 : ZI) (v4 : Int32) : Nat → Int32 → Int32 → Option (Int32)
  | 0, _, _ => none
  | n + 1, x5, x6 =>
  (if v4 < x6 then some x5 else (if x6 < (1024 : Int32) then if zin x6 1024 = true then (if (M3 147 (zi x6)) = 0 then f102_l40 a1 M3 v4 n x5 (x6 + (1 : Int32)) else (f19_isIn x6 a1).bind fun v7 => (if v7 = 0 then (if x5 = (-1 : Int32) then f102_l40 a1 M3 v4 n x6 (x6 + (1 : Int32)) else (f28_bitCount x6).bind fun v8 => (f28_bitCount x5).bind fun v9 => (if v8 < v9 then f102_l40 a1 M3 v4 n x6 (x6 + (1 : Int32)) else f102_l40 a1 M3 v4 n x5 (x6 + (1 : Int32)))) else f102_l40 a1 M3 v4 n x5 (x6 + (1 : Int32)))) else none else some x5))

def f102_fewest (a1 : Int32) (a2 : Int32) (M : ZI) : Option (Int32 × ZI) :=
  (f17_has 1 a1 M).bind fun v1 => (if v1 = 0 then some ((-1 : Int32), M) else (f13_within a2 (0 : Int32) (1 : Int32)).bind fun v2 => (if v2 = 0 then some ((-1 : Int32), M) else (f103_fillDoing M).bind fun M3 => (f98_everyone 1 M3).bind fun v4 => (f102_l40 a1 M3 v4 zfu (-1 : Int32) (0 : Int32)).bind fun x10 =>
  (if x10 = (-1 : Int32) then some ((-1 : Int32), M3) else (if a2 = 0 then (f28_bitCount x10).bind fun v12 => some (v12, M3) else some (x10, M3)))))

def f104_l30 (a1 : Int32) (M2 : ZI) (v3 : Int32) : Nat → Int32 → Int32 → Option (Int32)
  | 0, _, _ => none
  | n + 1, x4, x5 =>
  (if v3 < x5 then some x4 else (if x5 < (1024 : Int32) then (f19_isIn x5 a1).bind fun v6 => (if v6 = 0 then f104_l30 a1 M2 v3 n x4 (x5 + (1 : Int32)) else if zin x5 1024 = true then (if (M2 147 (zi x5)) = 0 then f104_l30 a1 M2 v3 n x4 (x5 + (1 : Int32)) else if zin (x5 ^^^ (zshl (1 : Int32) a1)) 1024 = true then (if (M2 147 (zi (x5 ^^^ (zshl (1 : Int32) a1)))) = 0 then f104_l30 a1 M2 v3 n (x4 + (1 : Int32)) (x5 + (1 : Int32)) else f104_l30 a1 M2 v3 n x4 (x5 + (1 : Int32))) else none) else none) else some x4))

def f104_hinge (a1 : Int32) (M : ZI) : Option (Int32 × ZI) :=
  (f17_has 1 a1 M).bind fun v1 => (if v1 = 0 then some ((-1 : Int32), M) else (f103_fillDoing M).bind fun M2 => (f98_everyone 1 M2).bind fun v3 => (f104_l30 a1 M2 v3 zfu (0 : Int32) (0 : Int32)).bind fun x7 =>
  some (x7, M2))

def f106_l18 (M : ZI) (x1 : Int32) (x2 : Int32) : Nat → Int32 → Int32 → Option (Int32)
  | 0, _, _ => none
  | n + 1, x5, x6 =>
  (if x6 < (M 1 11) then (f19_isIn x1 x6).bind fun v7 => (if v7 = 0 then if zin x6 10 = true then (if (M 38 (zi x6)) < ((M 2 5) + x2) then f106_l18 M x1 x2 n x5 (x6 + (1 : Int32)) else (if x5 = (-1 : Int32) then f106_l18 M x1 x2 n x6 (x6 + (1 : Int32)) else if zin x6 10 = true then if zin x5 10 = true then (if (M 38 (zi x6)) < (M 38 (zi x5)) then f106_l18 M x1 x2 n x6 (x6 + (1 : Int32)) else f106_l18 M x1 x2 n x5 (x6 + (1 : Int32))) else none else none)) else none else f106_l18 M x1 x2 n x5 (x6 + (1 : Int32))) else some x5)

def f106_l6 (a2 : Int32) (M : ZI) : Nat → Int32 → Int32 → Option (Int32)
  | 0, _, _ => none
  | n + 1, x1, x2 =>
  (if x2 < a2 then (f106_l18 M x1 x2 zfu (-1 : Int32) (0 : Int32)).bind fun x8 =>
  (if x8 < 0 then f106_l6 a2 M n x1 (x2 + (1 : Int32)) else zlet (x1 ||| (zshl (1 : Int32) x8)) fun (x10 : Int32) => f106_l6 a2 M n x10 (x2 + (1 : Int32))) else some x1)

def f106_mostTurns (a1 : Int32) (a2 : Int32) (a3 : Int32) (M : ZI) : Option Int32 :=
  (f106_l6 a2 M zfu a3 a1).bind fun x11 =>
  (f28_bitCount x11).bind fun v15 => (f28_bitCount a3).bind fun v16 => some (v15 - v16)

def f107_l12 (a1 : Int32) (a2 : Int32) (a3 : Int32) (M : ZI) (v1 : Int32) : Nat → Int32 → Option Int32
  | 0, _ => none
  | n + 1, x2 =>
  (if x2 < (M 1 11) then (f19_isIn a3 x2).bind fun v3 => (if v3 = 0 then if zin x2 10 = true then (if (M 38 (zi x2)) < ((M 2 5) + a1) then f107_l12 a1 a2 a3 M v1 n (x2 + (1 : Int32)) else (f106_mostTurns (a1 + (1 : Int32)) a2 (a3 ||| (zshl (1 : Int32) x2)) M).bind fun v4 => (if ((1 : Int32) + v4) = v1 then some x2 else f107_l12 a1 a2 a3 M v1 n (x2 + (1 : Int32)))) else none else f107_l12 a1 a2 a3 M v1 n (x2 + (1 : Int32))) else some (-1 : Int32))

def f107_firstInTurn (a1 : Int32) (a2 : Int32) (a3 : Int32) (M : ZI) : Option Int32 :=
  (f106_mostTurns a1 a2 a3 M).bind fun v1 => f107_l12 a1 a2 a3 M v1 zfu (0 : Int32)

def f105_l51 (a1 : Int32) (a2 : Int32) (M : ZI) : Nat → Int32 → Int32 → Int32 → Option (Int32)
  | 0, _, _, _ => none
  | n + 1, x3, x4, x5 =>
  (if (a2 - (10 : Int32)) < x5 then some x3 else (f107_firstInTurn x5 a1 x4 M).bind fun v6 => (if v6 < 0 then f105_l51 a1 a2 M n v6 x4 (x5 + (1 : Int32)) else zlet (x4 ||| (zshl (1 : Int32) v6)) fun (x7 : Int32) => f105_l51 a1 a2 M n v6 x7 (x5 + (1 : Int32))))

def f105_turnsOf (a1 : Int32) (a2 : Int32) (M : ZI) : Option Int32 :=
  (f13_within a1 (1 : Int32) (10 : Int32)).bind fun v1 => (if v1 = 0 then some (-2 : Int32) else (if a2 = 0 then (f106_mostTurns (0 : Int32) a1 (0 : Int32) M).bind fun v11 => some v11 else (f13_within a2 (10 : Int32) (((10 : Int32) + a1) - (1 : Int32))).bind fun v2 => (if v2 = 0 then some (-2 : Int32) else (f105_l51 a1 a2 M zfu (-1 : Int32) (0 : Int32) (0 : Int32)).bind fun x8 =>
  some x8)))

def f108_traces (a1 : Int32) (a2 : Int32) (M : ZI) : Option (Int32 × ZI) :=
  (f13_within a1 (0 : Int32) (200 : Int32)).bind fun v1 => (if v1 = 0 then some ((0 : Int32), M) else (f13_within a2 (0 : Int32) (200 : Int32)).bind fun v2 => (if v2 = 0 then some ((0 : Int32), M) else (f11_forgetPasts M).bind fun M3 => zlet (zs M3 1 14 a1) fun (M4 : ZI) => zlet (zs M4 1 15 a2) fun (M5 : ZI) => some ((1 : Int32), M5)))

def f112_l24 (t : Nat) (a1 : Int32) : Nat → Int32 → ZI → Option (ZI)
  | 0, _, _ => none
  | n + 1, x4, M5 =>
  (if x4 < (M5 t 6) then (f19_isIn a1 x4).bind fun v6 => (if v6 = 0 then f112_l24 t a1 n (x4 + (1 : Int32)) M5 else if zin x4 12 = true then if zin x4 12 = true then zlet (zs M5 (t + 7) (zi x4) ((M5 (t + 7) (zi x4)) + (1 : Int32))) fun (M7 : ZI) => f112_l24 t a1 n (x4 + (1 : Int32)) M7 else none else none) else some M5)

def f112_countFit (t : Nat) (a1 : Int32) (M : ZI) : Option ZI :=
  ((if (M t 8) = 0 then zlet (zs M t 9 a1) fun (M1 : ZI) => some M1 else some M) : Option (ZI)).bind fun M2 =>
  zlet (zs M2 t 8 ((M2 t 8) + (1 : Int32))) fun (M3 : ZI) => (f112_l24 t a1 zfu (0 : Int32) M3).bind fun M8 =>
  some M8

def f111_l22 (t : Nat) : Nat → Int32 → ZI → Option (ZI)
  | 0, _, _ => none
  | n + 1, x4, M5 =>
  (if x4 < (12 : Int32) then if zin x4 12 = true then zlet (zs M5 (t + 7) (zi x4) (0 : Int32)) fun (M6 : ZI) => f111_l22 t n (x4 + (1 : Int32)) M6 else none else some M5)

def f111_l49 (t : Nat) (a2 : Int32) (a3 : Int32) (a4 : Int32) (v1 : Int32) : Nat → Int32 → Int32 → ZI → Option (ZI)
  | 0, _, _, _ => none
  | n + 1, x9, x10, M11 =>
  (if x10 < (4096 : Int32) then (f42_sum t x9 (t + 4) M11).bind fun v12 => ((if v12 = a3 then (f42_sum t x9 (t + 5) M11).bind fun v13 => (if v13 = a4 then (f42_sum t x9 (t + 2) M11).bind fun v14 => (if (24 : Int32) < v14 then some M11 else (f43_isWhole t x9 a2 M11).bind fun v15 => (if v15 = 0 then some M11 else (f112_countFit t x9 M11).bind fun M16 => some M16)) else some M11) else some M11) : Option (ZI)).bind fun M17 =>
  zlet ((x9 - v1) &&& v1) fun (x18 : Int32) => (if x18 = 0 then some M17 else f111_l49 t a2 a3 a4 v1 n x18 (x10 + (1 : Int32)) M17) else some M11)

def f111_countFits (t : Nat) (a1 : Int32) (a2 : Int32) (a3 : Int32) (a4 : Int32) (M : ZI) : Option ZI :=
  (f41_ownedBy t a1 (24 : Int32) M).bind fun v1 => zlet (zs M t 8 (0 : Int32)) fun (M2 : ZI) => zlet (zs M2 t 9 (-1 : Int32)) fun (M3 : ZI) => (f111_l22 t zfu (0 : Int32) M3).bind fun M7 =>
  (f111_l49 t a2 a3 a4 v1 zfu (0 : Int32) (0 : Int32) M7).bind fun M19 =>
  some M19

def f110_countFits (t : Nat) (a1 : Int32) (M : ZI) : Option ZI :=
  (f111_countFits (t + 20) a1 (M (t + 1) 8) (M t 14) (M t 15) M).bind fun M1 => some M1

def f109_fits (a1 : Int32) (a2 : Int32) (M : ZI) : Option (Int32 × ZI) :=
  (f17_has 1 a1 M).bind fun v1 => (if v1 = 0 then some ((-1 : Int32), M) else (f13_within a2 (0 : Int32) (1 : Int32)).bind fun v2 => (if v2 = 0 then some ((-1 : Int32), M) else (f110_countFits 1 a1 M).bind fun M3 => (if a2 = 0 then some ((M3 21 8), M3) else some ((M3 21 9), M3))))

def f114_l17 (t : Nat) (a1 : Int32) (M : ZI) : Nat → Int32 → Int32 → Int32 → Option (Int32)
  | 0, _, _, _ => none
  | n + 1, x1, x2, x3 =>
  (if x3 < (M t 6) then if zin x3 12 = true then if zin x3 12 = true then zlet (zmax (M (t + 7) (zi x3)) ((M t 8) - (M (t + 7) (zi x3)))) fun (x5 : Int32) => if zin x3 12 = true then (if (M (t + 1) (zi x3)) = a1 then zlet (fun (x6 : Int32) => (f114_l17 t a1 M n x6 x5 (x6 + (1 : Int32)) : Option (Int32))) fun j7 =>
  (if x1 = (-1 : Int32) then j7 x3 else (if x5 < x2 then j7 x3 else f114_l17 t a1 M n x1 x2 (x3 + (1 : Int32)))) else f114_l17 t a1 M n x1 x2 (x3 + (1 : Int32))) else none else none else none else some x1)

def f114_mostTelling (t : Nat) (a1 : Int32) (M : ZI) : Option Int32 :=
  (if (M t 8) < (2 : Int32) then some (-1 : Int32) else (f114_l17 t a1 M zfu (-1 : Int32) (0 : Int32) (0 : Int32)).bind fun x8 =>
  some x8)

def f113_lookAt (a1 : Int32) (M : ZI) : Option (Int32 × ZI) :=
  (f17_has 1 a1 M).bind fun v1 => (if v1 = 0 then some ((-1 : Int32), M) else (f110_countFits 1 a1 M).bind fun M2 => (f114_mostTelling 21 a1 M2).bind fun v3 => some (v3, M2))

def f115_share (a1 : Int32) (a2 : Int32) (a3 : Int32) (M : ZI) : Option Int32 :=
  (f13_within a1 (0 : Int32) (48 : Int32)).bind fun v1 => (if v1 = 0 then some (-1 : Int32) else (f13_within a2 (0 : Int32) (48 : Int32)).bind fun v2 => (if v2 = 0 then some (-1 : Int32) else (f13_within a3 (0 : Int32) (1 : Int32)).bind fun v3 => (if v3 = 0 then some (-1 : Int32) else (f39_hoursLeft 2 M).bind fun v4 => ((if a3 = 0 then some a1 else some a2) : Option (Int32)).bind fun v5 =>
  (if v4 < (a1 + a2) then zlet (zmin a1 (zmax (0 : Int32) (v4 - a2))) fun (x6 : Int32) => zlet (zmin a2 (zmax (0 : Int32) (v4 - a1))) fun (x7 : Int32) => ((if a3 = 0 then some x6 else some x7) : Option (Int32)).bind fun v8 =>
  some (((((2 : Int32) * v8) + v4) - x6) - x7) else some ((2 : Int32) * v5)))))

def f117_add (t : Nat) (a1 : Int32) (a2 : Int32) (M : ZI) : Option ZI :=
  (if (M t 2) < (8 : Int32) then if zin (M t 2) 8 = true then zlet (zs M (t + 1) (zi (M t 2)) a1) fun (M1 : ZI) => if zin (M1 t 2) 8 = true then zlet (zs M1 (t + 2) (zi (M1 t 2)) a2) fun (M2 : ZI) => zlet (zs M2 t 2 ((M2 t 2) + (1 : Int32))) fun (M3 : ZI) => some M3 else none else none else some M)

def f116_bid (a1 : Int32) (a2 : Int32) (M : ZI) : Option (Int32 × ZI) :=
  (if a1 = (-1 : Int32) then zlet (zs M 34 2 (0 : Int32)) fun (M4 : ZI) => some ((0 : Int32), M4) else (f17_has 1 a1 M).bind fun v1 => (if v1 = 0 then some ((-1 : Int32), M) else (f13_within a2 (0 : Int32) (9999 : Int32)).bind fun v2 => (if v2 = 0 then some ((-1 : Int32), M) else (if (M 34 2) < (8 : Int32) then (f117_add 34 a1 a2 M).bind fun M3 => some ((M3 34 2), M3) else some ((-1 : Int32), M)))))

def f120_l4 (t : Nat) (M : ZI) : Nat → Int32 → Int32 → Option (Int32)
  | 0, _, _ => none
  | n + 1, x1, x2 =>
  (if x2 < (M t 2) then if zin x2 8 = true then if zin x1 8 = true then (if (M (t + 2) (zi x1)) < (M (t + 2) (zi x2)) then f120_l4 t M n x2 (x2 + (1 : Int32)) else f120_l4 t M n x1 (x2 + (1 : Int32))) else none else none else some x1)

def f120_greatest (t : Nat) (M : ZI) : Option Int32 :=
  (f120_l4 t M zfu (0 : Int32) (1 : Int32)).bind fun x3 =>
  some x3

def f119_winner (t : Nat) (M : ZI) : Option Int32 :=
  (f120_greatest t M).bind fun v1 => if zin v1 8 = true then some (M (t + 1) (zi v1)) else none

def f121_l9 (t : Nat) (M : ZI) (v1 : Int32) : Nat → Int32 → Int32 → Option (Int32)
  | 0, _, _ => none
  | n + 1, x2, x3 =>
  (if x3 < (M t 2) then (if x3 = v1 then f121_l9 t M v1 n x2 (x3 + (1 : Int32)) else if zin x3 8 = true then zlet (zmax x2 (M (t + 2) (zi x3))) fun (x4 : Int32) => f121_l9 t M v1 n x4 (x3 + (1 : Int32)) else none) else some x2)

def f121_price (t : Nat) (M : ZI) : Option Int32 :=
  (f120_greatest t M).bind fun v1 => (f121_l9 t M v1 zfu (0 : Int32) (0 : Int32)).bind fun x5 =>
  some x5

def f118_sold (a1 : Int32) (M : ZI) : Option Int32 :=
  (if (M 34 2) = 0 then some (-1 : Int32) else (if a1 = (0 : Int32) then (f119_winner 34 M).bind fun v1 => some v1 else if a1 = (1 : Int32) then (f121_price 34 M).bind fun v2 => some v2 else some (-1 : Int32)))

def f122_rests (a1 : Int32) (M : ZI) : Option Int32 :=
  (if a1 < (1 : Int32) then some (-1 : Int32) else (if (24 : Int32) < a1 then some (-1 : Int32) else zlet ((M 1 13) - (M 2 4)) fun (x1 : Int32) => (if 0 < x1 then if a1 = 0 then none else some (((x1 + a1) - (1 : Int32)) / a1) else some (0 : Int32))))

def f123_weekday (a1 : Int32) (a2 : Int32) (a3 : Int32) (a4 : Int32) : Option Int32 :=
  (f13_within a1 (0 : Int32) (364 : Int32)).bind fun v1 => (if v1 = 0 then some (-1 : Int32) else (f13_within a2 (0 : Int32) (999 : Int32)).bind fun v2 => (if v2 = 0 then some (-1 : Int32) else (f13_within a3 (0 : Int32) (1 : Int32)).bind fun v3 => (if v3 = 0 then some (-1 : Int32) else (f13_within a4 (0 : Int32) (364 : Int32)).bind fun v4 => (if v4 = 0 then some (-1 : Int32) else ((if a1 < a4 then some (0 : Int32) else some a3) : Option (Int32)).bind fun v5 =>
  zlet ((a3 * a2) + v5) fun (x6 : Int32) => some (zrem ((((365 : Int32) * a2) + a1) + x6) (7 : Int32))))))

def f125_comesBefore (a1 : Int32) (a2 : Int32) (M : ZI) : Option Int32 :=
  if zin a1 10 = true then if zin a2 10 = true then (if (M 37 (zi a1)) = (M 37 (zi a2)) then if zin a1 10 = true then if zin a2 10 = true then (if (M 3 (zi a2)) < (M 3 (zi a1)) then some (1 : Int32) else some (0 : Int32)) else none else none else if zin a1 10 = true then if zin a2 10 = true then (if (M 37 (zi a2)) < (M 37 (zi a1)) then some (1 : Int32) else some (0 : Int32)) else none else none) else none else none

def f124_l4 (M : ZI) : Nat → Int32 → Int32 → Option (Int32)
  | 0, _, _ => none
  | n + 1, x1, x2 =>
  (if x2 < (M 1 11) then if zin x2 10 = true then (if (M 4 (zi x2)) = 0 then (if x1 = (-1 : Int32) then f124_l4 M n x2 (x2 + (1 : Int32)) else (f125_comesBefore x2 x1 M).bind fun v3 => (if v3 = 0 then f124_l4 M n x1 (x2 + (1 : Int32)) else f124_l4 M n x2 (x2 + (1 : Int32)))) else f124_l4 M n x1 (x2 + (1 : Int32))) else none else some x1)

def f124_next (M : ZI) : Option Int32 :=
  (f124_l4 M zfu (-1 : Int32) (0 : Int32)).bind fun x4 =>
  some x4

def f126_l18 (M : ZI) : Nat → Int32 → Int32 → Int32 → Option (Int32 × Int32)
  | 0, _, _, _ => none
  | n + 1, x2, x3, x4 =>
  (if x4 < (M 1 11) then if zin x4 10 = true then (if (M 4 (zi x4)) = 0 then if zin x4 10 = true then zlet (x2 + (M 37 (zi x4))) fun (x6 : Int32) => if zin x4 10 = true then zlet ((M 38 (zi x4)) - (M 2 5)) fun (x7 : Int32) => (if x7 < 0 then f126_l18 M n x6 x3 (x4 + (1 : Int32)) else (if x3 = (-1 : Int32) then f126_l18 M n x6 x7 (x4 + (1 : Int32)) else (if x7 < x3 then f126_l18 M n x6 x7 (x4 + (1 : Int32)) else f126_l18 M n x6 x3 (x4 + (1 : Int32))))) else none else none else f126_l18 M n x2 x3 (x4 + (1 : Int32))) else none else some (x2, x3))

def f126_due (a1 : Int32) (M : ZI) : Option Int32 :=
  (f13_within a1 (0 : Int32) (1 : Int32)).bind fun v1 => (if v1 = 0 then some (-1 : Int32) else (f126_l18 M zfu (0 : Int32) (-1 : Int32) (0 : Int32)).bind fun (x8, x9) =>
  (if a1 = 0 then some x8 else some x9))

def f128_l2 (a1 : Int32) (M : ZI) : Nat → Int32 → Option Int32
  | 0, _ => none
  | n + 1, x1 =>
  (if x1 < (M 1 11) then (f19_isIn a1 x1).bind fun v2 => (if v2 = 0 then f128_l2 a1 M n (x1 + (1 : Int32)) else if zin (a1 ^^^ (zshl (1 : Int32) x1)) 1024 = true then (if (M 147 (zi (a1 ^^^ (zshl (1 : Int32) x1)))) = 0 then f128_l2 a1 M n (x1 + (1 : Int32)) else some (0 : Int32)) else none) else some (1 : Int32))

def f128_needsEachOne (a1 : Int32) (M : ZI) : Option Int32 :=
  f128_l2 a1 M zfu (0 : Int32)

def f127_l34 (M2 : ZI) (v3 : Int32) : Nat → Int32 → Int32 → Int32 → Int32 → Option (Int32 × Int32 × Int32)
  | 0, _, _, _, _ => none
  | n + 1, x4, x5, x6, x7 =>
  (if v3 < x7 then some (x4, x5, x6) else (if x7 < (1024 : Int32) then if zin x7 1024 = true then (if (M2 147 (zi x7)) = 0 then f127_l34 M2 v3 n x4 x5 x6 (x7 + (1 : Int32)) else (f128_needsEachOne x7 M2).bind fun v8 => ((if v8 = 0 then some (0 : Int32) else some (1 : Int32)) : Option (Int32)).bind fun v9 =>
  zlet (x5 + v9) fun (x10 : Int32) => zlet (x6 &&& x7) fun (x11 : Int32) => f127_l34 M2 v3 n (x4 + (1 : Int32)) x10 x11 (x7 + (1 : Int32))) else none else some (x4, x5, x6)))

def f127_doers (a1 : Int32) (M : ZI) : Option (Int32 × ZI) :=
  (f13_within a1 (0 : Int32) (2 : Int32)).bind fun v1 => (if v1 = 0 then some ((-1 : Int32), M) else (f103_fillDoing M).bind fun M2 => (f98_everyone 1 M2).bind fun v3 => (f127_l34 M2 v3 zfu (0 : Int32) (0 : Int32) v3 (0 : Int32)).bind fun (x12, x13, x14) =>
  (if a1 = (2 : Int32) then some (x14, M2) else (if a1 = 0 then some (x12, M2) else some (x13, M2))))

def f129_l4  : Nat → Int32 → Int32 → ZI → Option (Int32 × ZI)
  | 0, _, _, _ => none
  | n + 1, x1, x2, M3 =>
  (if x2 < (M3 1 11) then (f110_countFits 1 x2 M3).bind fun M4 => (if 0 < (M4 21 8) then zlet (x1 ||| (zshl (1 : Int32) x2)) fun (x5 : Int32) => f129_l4 n x5 (x2 + (1 : Int32)) M4 else f129_l4 n x1 (x2 + (1 : Int32)) M4) else some (x1, M3))

def f129_thieves (M : ZI) : Option (Int32 × ZI) :=
  (f129_l4 zfu (0 : Int32) (0 : Int32) M).bind fun (x6, M7) =>
  some (x6, M7)

def f130_l29 (a1 : Int32) : Nat → Int32 → ZI → Option (Int32 × ZI)
  | 0, _, _ => none
  | n + 1, x3, M4 =>
  (if x3 < (40 : Int32) then (f25_pass 1 114 (0 : Int32) M4).bind fun (v5, M6) => (if v5 = a1 then some (x3, M6) else f130_l29 a1 n (x3 + (1 : Int32)) M6) else some ((-1 : Int32), M4))

def f130_soonest (a1 : Int32) (M : ZI) : Option (Int32 × ZI) :=
  (f17_has 1 a1 M).bind fun v1 => (if v1 = 0 then some ((-1 : Int32), M) else (f21_copy 114 2 M).bind fun M2 => f130_l29 a1 zfu (0 : Int32) M2)

def f132_l22 (M : ZI) : Nat → Int32 → Int32 → Int32 → Option (Int32 × Int32)
  | 0, _, _, _ => none
  | n + 1, x3, x4, x5 =>
  (if x5 < (M 1 11) then if zin x5 10 = true then zlet (zmin x3 (M 4 (zi x5))) fun (x6 : Int32) => if zin x5 10 = true then zlet (zmax x4 (M 4 (zi x5))) fun (x7 : Int32) => f132_l22 M n x6 x7 (x5 + (1 : Int32)) else none else none else some (x3, x4))

def f132_spreadOfHad (M : ZI) : Option Int32 :=
  zlet (M 4 0) fun (x1 : Int32) => zlet (M 4 0) fun (x2 : Int32) => (f132_l22 M zfu x1 x2 (1 : Int32)).bind fun (x8, x9) =>
  some (x9 - x8)

def f133_l4 (M : ZI) : Nat → Int32 → Int32 → Option (Int32)
  | 0, _, _ => none
  | n + 1, x1, x2 =>
  (if x2 < (M 1 11) then if zin x2 10 = true then (if 0 < (M 4 (zi x2)) then (if x1 = (-1 : Int32) then f133_l4 M n x2 (x2 + (1 : Int32)) else if zin x2 10 = true then if zin x1 10 = true then (if (M 5 (zi x2)) < (M 5 (zi x1)) then f133_l4 M n x2 (x2 + (1 : Int32)) else f133_l4 M n x1 (x2 + (1 : Int32))) else none else none) else f133_l4 M n x1 (x2 + (1 : Int32))) else none else some x1)

def f133_latestGiven (M : ZI) : Option Int32 :=
  (f133_l4 M zfu (-1 : Int32) (0 : Int32)).bind fun x3 =>
  some x3

def f131_spread (a1 : Int32) (M : ZI) : Option Int32 :=
  (if a1 = 0 then (f132_spreadOfHad M).bind fun v2 => some v2 else (if a1 = (1 : Int32) then (f133_latestGiven M).bind fun v1 => some v1 else some (-1 : Int32)))

def f135_l4 (a1 : Int32) (M : ZI) : Nat → Int32 → Int32 → Option (Int32)
  | 0, _, _ => none
  | n + 1, x1, x2 =>
  (if x2 < (M 1 11) then (f19_isIn a1 x2).bind fun v3 => (if v3 = 0 then f135_l4 a1 M n x1 (x2 + (1 : Int32)) else if zin x2 10 = true then zlet (x1 ||| (M 6 (zi x2))) fun (x4 : Int32) => f135_l4 a1 M n x4 (x2 + (1 : Int32)) else none) else some x1)

def f135_tiedTo (a1 : Int32) (M : ZI) : Option Int32 :=
  (f135_l4 a1 M zfu (0 : Int32) (0 : Int32)).bind fun x5 =>
  some x5

def f134_l31 (a2 : Int32) (M : ZI) : Nat → Int32 → Int32 → Option Int32
  | 0, _, _ => none
  | n + 1, x4, x5 =>
  (if x5 < (10 : Int32) then (f19_isIn x4 a2).bind fun v6 => (if v6 = 0 then (f135_tiedTo x4 M).bind fun v7 => zlet (x4 ||| v7) fun (x8 : Int32) => f134_l31 a2 M n x8 (x5 + (1 : Int32)) else some x5) else some (-1 : Int32))

def f134_way (a1 : Int32) (a2 : Int32) (M : ZI) : Option Int32 :=
  (f17_has 1 a1 M).bind fun v1 => (if v1 = 0 then some (-1 : Int32) else (f17_has 1 a2 M).bind fun v2 => (if v2 = 0 then some (-1 : Int32) else zlet (zshl (1 : Int32) a1) fun (x3 : Int32) => f134_l31 a2 M zfu x3 (0 : Int32)))

def f137_l2 (a1 : Int32) (M : ZI) : Nat → Int32 → Option Int32
  | 0, _ => none
  | n + 1, x1 =>
  (if x1 < (M 1 11) then (f19_isIn a1 x1).bind fun v2 => (if v2 = 0 then f137_l2 a1 M n (x1 + (1 : Int32)) else if zin x1 10 = true then (if (a1 &&& ((M 6 (zi x1)) ^^^ (-1 : Int32))) = (zshl (1 : Int32) x1) then f137_l2 a1 M n (x1 + (1 : Int32)) else some (0 : Int32)) else none) else some (1 : Int32))

def f137_isClique (a1 : Int32) (M : ZI) : Option Int32 :=
  f137_l2 a1 M zfu (0 : Int32)

def f136_l24 (M : ZI) (v2 : Int32) : Nat → Int32 → Int32 → Option (Int32)
  | 0, _, _ => none
  | n + 1, x3, x4 =>
  (if v2 < x4 then some x3 else (if x4 < (1024 : Int32) then (f28_bitCount x4).bind fun v5 => (f28_bitCount x3).bind fun v6 => (if v6 < v5 then (f137_isClique x4 M).bind fun v7 => (if v7 = 0 then f136_l24 M v2 n x3 (x4 + (1 : Int32)) else f136_l24 M v2 n x4 (x4 + (1 : Int32))) else f136_l24 M v2 n x3 (x4 + (1 : Int32))) else some x3))

def f136_clique (a1 : Int32) (M : ZI) : Option Int32 :=
  (f13_within a1 (0 : Int32) (1 : Int32)).bind fun v1 => (if v1 = 0 then some (-1 : Int32) else (f98_everyone 1 M).bind fun v2 => (f136_l24 M v2 zfu (0 : Int32) (0 : Int32)).bind fun x8 =>
  (if a1 = 0 then (f28_bitCount x8).bind fun v10 => some v10 else some x8))

def f138_undo (M : ZI) : Option (Int32 × ZI) :=
  (if (M 0 5) = 0 then some ((0 : Int32), M) else zlet (zs M 0 5 ((M 0 5) - (1 : Int32))) fun (M1 : ZI) => if zin (zrem ((M1 0 4) + (M1 0 5)) (6 : Int32)) 6 = true then (f21_copy 2 (zpa (zrem ((M1 0 4) + (M1 0 5)) (6 : Int32))) M1).bind fun M3 => some ((1 : Int32), M3) else none)

def f141_copy (t : Nat) (a1 : Nat) (M : ZI) : Option ZI :=
  zlet (zc M (t + 1) (a1 + 1) 0 0 150) fun (M1 : ZI) => zlet (zc M1 (t + 2) (a1 + 2) 0 0 150) fun (M2 : ZI) => zlet (zc M2 (t + 3) (a1 + 3) 0 0 150) fun (M3 : ZI) => zlet (zc M3 (t + 4) (a1 + 4) 0 0 150) fun (M4 : ZI) => some M4

def f142_copy (t : Nat) (a1 : Nat) (M : ZI) : Option ZI :=
  zlet (zc M (t + 1) (a1 + 1) 0 0 8) fun (M1 : ZI) => zlet (zc M1 (t + 2) (a1 + 2) 0 0 8) fun (M2 : ZI) => zlet (zs M2 t 2 (M2 a1 2)) fun (M3 : ZI) => some M3

def f140_copy (t : Nat) (a1 : Nat) (M : ZI) : Option ZI :=
  (f21_copy (t + 1) (a1 + 1) M).bind fun M1 => (f141_copy (t + 6) (a1 + 6) M1).bind fun M2 => (f81_copy (t + 11) (a1 + 11) M2).bind fun M3 => (f88_copy (t + 20) (a1 + 20) M3).bind fun M4 => (f90_copy (t + 28) (a1 + 28) M4).bind fun M5 => (f142_copy (t + 33) (a1 + 33) M5).bind fun M6 => zlet (zc M6 (t + 36) (a1 + 36) 0 0 10) fun (M7 : ZI) => zlet (zc M7 (t + 37) (a1 + 37) 0 0 10) fun (M8 : ZI) => zlet (zc M8 (t + 38) (a1 + 38) 0 0 10) fun (M9 : ZI) => zlet (zs M9 t 11 (M9 a1 11)) fun (M10 : ZI) => zlet (zs M10 t 12 (M10 a1 12)) fun (M11 : ZI) => zlet (zs M11 t 13 (M11 a1 13)) fun (M12 : ZI) => zlet (zs M12 t 14 (M12 a1 14)) fun (M13 : ZI) => zlet (zs M13 t 15 (M13 a1 15)) fun (M14 : ZI) => some M14

def f139_image (a1 : Int32) (M : ZI) : Option (Int32 × ZI) :=
  (if a1 = 0 then (if (M 0 2) = 0 then some ((0 : Int32), M) else (f140_copy 1 42 M).bind fun M1 => (f11_forgetPasts M1).bind fun M2 => some ((1 : Int32), M2)) else (f140_copy 42 1 M).bind fun M3 => zlet (zs M3 0 2 (1 : Int32)) fun (M4 : ZI) => some ((1 : Int32), M4))

def f144_lookFurther (a1 : Int32) (M : ZI) : Option (Int32 × ZI) :=
  (if a1 = (9 : Int32) then some ((M 12 5), M) else if a1 = (10 : Int32) then (f84_voices 1 M).bind fun v1 => some (v1, M) else if a1 = (11 : Int32) then some ((M 21 6), M) else if a1 = (12 : Int32) then some ((M 29 1), M) else if a1 = (13 : Int32) then some ((M 34 2), M) else if a1 = (14 : Int32) then some ((M 0 5), M) else if a1 = (15 : Int32) then (f26_weigh 1 2 M).bind fun M2 => (f36_elect 1 (-1 : Int32) (-1 : Int32) M2).bind fun (v3, M4) => some (v3, M4) else if a1 = (16 : Int32) then some ((M 1 14), M) else if a1 = (17 : Int32) then some ((M 1 15), M) else some ((-1 : Int32), M))

def f143_look (a1 : Int32) (M : ZI) : Option (Int32 × ZI) :=
  (if a1 = (0 : Int32) then some ((M 1 11), M) else if a1 = (1 : Int32) then some ((M 2 5), M) else if a1 = (2 : Int32) then some ((M 2 4), M) else if a1 = (3 : Int32) then some ((M 1 12), M) else if a1 = (4 : Int32) then some ((M 1 13), M) else if a1 = (5 : Int32) then some ((M 2 6), M) else if a1 = (6 : Int32) then some ((M 2 7), M) else if a1 = (7 : Int32) then some ((M 2 10), M) else if a1 = (8 : Int32) then some ((M 2 9), M) else (f144_lookFurther a1 M).bind fun (v1, M2) => some (v1, M2))

def f147_forgets (M : ZI) : Option ZI :=
  zlet (zs M 148 4 (0 : Int32)) fun (M1 : ZI) => some M1

def f146_state (a1 : Int32) (M : ZI) : Option (Int32 × ZI) :=
  zlet (M 149 4) fun (x1 : Int32) => zlet (zs M 149 4 a1) fun (M2 : ZI) => (f147_forgets M2).bind fun M3 => some (x1, M3)

def f149_isIn (a0 : Int32) (a1 : Int32) (a2 : Int32) : Option Int32 :=
  (if a0 < a1 then some (0 : Int32) else (if a2 < a0 then some (0 : Int32) else some (1 : Int32)))

def f148_person (a1 : Int32) (a2 : Int32) (M : ZI) : Option (Int32 × ZI) :=
  (f149_isIn a1 (0 : Int32) (99 : Int32)).bind fun v1 => (if v1 = 0 then some ((-1 : Int32), M) else (f149_isIn a2 (0 : Int32) (24 : Int32)).bind fun v2 => (if v2 = 0 then some ((-1 : Int32), M) else (if (M 149 48) = (10 : Int32) then some ((-1 : Int32), M) else zlet (M 149 48) fun (x3 : Int32) => if zin ((17 : Int32) + x3) 2064 = true then zlet (zs M 149 (zi ((17 : Int32) + x3)) a1) fun (M4 : ZI) => if zin ((60 : Int32) + x3) 2064 = true then zlet (zs M4 149 (zi ((60 : Int32) + x3)) a2) fun (M5 : ZI) => if zin ((70 : Int32) + x3) 2064 = true then zlet (zs M5 149 (zi ((70 : Int32) + x3)) (999 : Int32)) fun (M6 : ZI) => if zin ((27 : Int32) + x3) 2064 = true then zlet (zs M6 149 (zi ((27 : Int32) + x3)) (0 : Int32)) fun (M7 : ZI) => if zin ((37 : Int32) + x3) 2064 = true then zlet (zs M7 149 (zi ((37 : Int32) + x3)) (0 : Int32)) fun (M8 : ZI) => if zin ((7 : Int32) + x3) 2064 = true then zlet (zs M8 149 (zi ((7 : Int32) + x3)) (0 : Int32)) fun (M9 : ZI) => if zin ((80 : Int32) + x3) 2064 = true then zlet (zs M9 149 (zi ((80 : Int32) + x3)) (-1 : Int32)) fun (M10 : ZI) => zlet (zs M10 149 48 ((M10 149 48) + (1 : Int32))) fun (M11 : ZI) => (f147_forgets M11).bind fun M12 => some (x3, M12) else none else none else none else none else none else none else none)))

def f152_isPerson (a1 : Int32) (M : ZI) : Option Int32 :=
  (f149_isIn a1 (0 : Int32) ((M 149 48) - (1 : Int32))).bind fun v1 => if zbl v1 = true then some v1 else none

def f151_canSet (a1 : Int32) (a2 : Int32) (a3 : Int32) (M : ZI) : Option Int32 :=
  (if a1 = (0 : Int32) then (f149_isIn a3 (0 : Int32) (24 : Int32)).bind fun v1 => if zbl v1 = true then some v1 else none else if a1 = (1 : Int32) then (f149_isIn a3 (0 : Int32) (24 : Int32)).bind fun v2 => if zbl v2 = true then some v2 else none else if a1 = (2 : Int32) then (f149_isIn a3 (1 : Int32) (24 : Int32)).bind fun v3 => if zbl v3 = true then some v3 else none else if a1 = (3 : Int32) then (f152_isPerson a2 M).bind fun v4 => (if v4 = 0 then some (0 : Int32) else (f149_isIn a3 (0 : Int32) (24 : Int32)).bind fun v5 => (if v5 = 0 then some (0 : Int32) else some (1 : Int32))) else if a1 = (4 : Int32) then (f152_isPerson a2 M).bind fun v6 => (if v6 = 0 then some (0 : Int32) else (f149_isIn a3 (0 : Int32) (999 : Int32)).bind fun v7 => (if v7 = 0 then some (0 : Int32) else some (1 : Int32))) else if a1 = (5 : Int32) then (f152_isPerson a2 M).bind fun v8 => (if v8 = 0 then some (0 : Int32) else (f149_isIn a3 (0 : Int32) (99 : Int32)).bind fun v9 => (if v9 = 0 then some (0 : Int32) else some (1 : Int32))) else some (0 : Int32))

def f153_placeOf (a0 : Int32) (a1 : Int32) : Option Int32 :=
  (if a0 = (0 : Int32) then some (1 : Int32) else if a0 = (1 : Int32) then some (49 : Int32) else if a0 = (2 : Int32) then some (50 : Int32) else if a0 = (3 : Int32) then some ((60 : Int32) + a1) else if a0 = (4 : Int32) then some ((70 : Int32) + a1) else some ((17 : Int32) + a1))

def f150_set (a1 : Int32) (a2 : Int32) (a3 : Int32) (M : ZI) : Option (Int32 × ZI) :=
  (f151_canSet a1 a2 a3 M).bind fun v1 => (if v1 = 0 then some ((0 : Int32), M) else (f153_placeOf a1 a2).bind fun v2 => if zin v2 2064 = true then zlet (zs M 149 (zi v2) a3) fun (M3 : ZI) => (f147_forgets M3).bind fun M4 => some ((1 : Int32), M4) else none)

def f154_l18 (a1 : Int32) (a2 : Int32) (a3 : Int32) (a4 : Int32) (a5 : Int32) : Nat → Int32 → ZI → Option (ZI)
  | 0, _, _ => none
  | n + 1, x1, M3 =>
  (if x1 < (20 : Int32) then ((if x1 < (4 : Int32) then some a1 else (if x1 < (8 : Int32) then some a2 else (if x1 < (12 : Int32) then some a3 else (if x1 < (16 : Int32) then some a4 else some a5)))) : Option (Int32)).bind fun v4 =>
  if zin (M3 148 19) 400 = true then zlet (zs M3 158 (zi (M3 148 19)) ((zshr v4 ((24 : Int32) - ((8 : Int32) * (zrem x1 (4 : Int32))))) &&& (255 : Int32))) fun (M5 : ZI) => zlet (zs M5 148 19 ((M5 148 19) + (1 : Int32))) fun (M6 : ZI) => f154_l18 a1 a2 a3 a4 a5 n (x1 + (1 : Int32)) M6 else none else some M3)

def f154_feed (a1 : Int32) (a2 : Int32) (a3 : Int32) (a4 : Int32) (a5 : Int32) (M : ZI) : Option (Int32 × ZI) :=
  (if (400 : Int32) < ((M 148 19) + (20 : Int32)) then some ((-1 : Int32), M) else (f154_l18 a1 a2 a3 a4 a5 zfu (0 : Int32) M).bind fun M7 =>
  some ((M7 148 19), M7))

def f155_end (a1 : Int32) (M : ZI) : Option (Int32 × ZI) :=
  (f149_isIn a1 (0 : Int32) (M 148 19)).bind fun v1 => (if v1 = 0 then some ((0 : Int32), M) else zlet (zs M 148 19 a1) fun (M2 : ZI) => some ((1 : Int32), M2))

def f158_see (a1 : Int32) (M : ZI) : Option Int32 :=
  (if a1 < (M 148 19) then if zin a1 400 = true then some (M 158 (zi a1)) else none else some (-1 : Int32))

def f159_isLetter (a0 : Int32) : Option Int32 :=
  (f149_isIn a0 (97 : Int32) (122 : Int32)).bind fun v1 => (if v1 = 0 then (f149_isIn a0 (65 : Int32) (90 : Int32)).bind fun v2 => (if v2 = 0 then some (0 : Int32) else some (1 : Int32)) else some (1 : Int32))

def f162_l24 (a1 : Nat) (M : ZI) : Nat → Int32 → Int32 → Option (Int32)
  | 0, _, _ => none
  | n + 1, x2, x3 =>
  (if x3 < (zsln a1) then (if x2 = 0 then some x2 else if zin ((M 148 22) + x3) 400 = true then if zin x3 (zsn a1) = true then (if (M 158 (zi ((M 148 22) + x3))) = (zch a1 x3) then f162_l24 a1 M n (1 : Int32) (x3 + (1 : Int32)) else f162_l24 a1 M n (0 : Int32) (x3 + (1 : Int32))) else none else none) else some x2)

def f162_is (a1 : Nat) (M : ZI) : Option Int32 :=
  ((if ((M 148 20) - (M 148 22)) = (zsln a1) then some (1 : Int32) else some (0 : Int32)) : Option (Int32)).bind fun v1 =>
  (f162_l24 a1 M zfu v1 (0 : Int32)).bind fun x4 =>
  if zbl x4 = true then some x4 else none

def f163_asked (M : ZI) : Option Int32 :=
  (f162_is 8 M).bind fun v1 => (if v1 = 0 then (f162_is 9 M).bind fun v2 => (if v2 = 0 then (f162_is 10 M).bind fun v3 => (if v3 = 0 then (f162_is 11 M).bind fun v4 => (if v4 = 0 then (f162_is 12 M).bind fun v5 => (if v5 = 0 then (f162_is 13 M).bind fun v6 => (if v6 = 0 then (f162_is 14 M).bind fun v7 => (if v7 = 0 then (f162_is 15 M).bind fun v8 => (if v8 = 0 then (f162_is 16 M).bind fun v9 => (if v9 = 0 then some (1 : Int32) else some (49 : Int32)) else some (48 : Int32)) else some (47 : Int32)) else some (46 : Int32)) else some (45 : Int32)) else some (44 : Int32)) else some (43 : Int32)) else some (42 : Int32)) else some (41 : Int32))

def f161_lawWord (M : ZI) : Option Int32 :=
  (f162_is 1 M).bind fun v1 => (if v1 = 0 then (f162_is 2 M).bind fun v2 => (if v2 = 0 then (f162_is 3 M).bind fun v3 => (if v3 = 0 then (f162_is 4 M).bind fun v4 => (if v4 = 0 then (f162_is 5 M).bind fun v5 => (if v5 = 0 then (f162_is 6 M).bind fun v6 => (if v6 = 0 then (f162_is 7 M).bind fun v7 => (if v7 = 0 then (f163_asked M).bind fun v8 => some v8 else some (22 : Int32)) else some (21 : Int32)) else some (20 : Int32)) else some (6 : Int32)) else some (5 : Int32)) else some (4 : Int32)) else some (3 : Int32))

def f164_workWord (M : ZI) : Option Int32 :=
  (f162_is 18 M).bind fun v1 => (if v1 = 0 then (f162_is 19 M).bind fun v2 => (if v2 = 0 then (f162_is 20 M).bind fun v3 => (if v3 = 0 then (f162_is 21 M).bind fun v4 => (if v4 = 0 then (f162_is 22 M).bind fun v5 => (if v5 = 0 then (f162_is 23 M).bind fun v6 => (if v6 = 0 then some (1 : Int32) else some (13 : Int32)) else some (12 : Int32)) else some (11 : Int32)) else some (10 : Int32)) else some (9 : Int32)) else some (8 : Int32))

def f165_councilWord (M : ZI) : Option Int32 :=
  (f162_is 2 M).bind fun v1 => (if v1 = 0 then (f162_is 3 M).bind fun v2 => (if v2 = 0 then (f162_is 24 M).bind fun v3 => (if v3 = 0 then some (1 : Int32) else some (14 : Int32)) else some (5 : Int32)) else some (4 : Int32))

def f160_word (M : ZI) : Option Int32 :=
  (if (M 148 14) = (0 : Int32) then (f161_lawWord M).bind fun v1 => some v1 else if (M 148 14) = (1 : Int32) then (f162_is 17 M).bind fun v2 => (if v2 = 0 then some (1 : Int32) else some (7 : Int32)) else if (M 148 14) = (2 : Int32) then (f164_workWord M).bind fun v3 => some v3 else (f165_councilWord M).bind fun v4 => some v4)

def f166_isDigit (a0 : Int32) : Option Int32 :=
  (f149_isIn a0 (48 : Int32) (57 : Int32)).bind fun v1 => if zbl v1 = true then some v1 else none

def f157_l0  : Nat → ZI → Option (ZI)
  | 0, _ => none
  | n + 1, M1 =>
  (f158_see (M1 148 20) M1).bind fun v2 => zlet (fun (_ : Unit) => (zlet (zs M1 148 20 ((M1 148 20) + (1 : Int32))) fun (M3 : ZI) => f157_l0 n M3 : Option (ZI))) fun j4 =>
  (if v2 = (32 : Int32) then j4 () else (f158_see (M1 148 20) M1).bind fun v5 => (if v5 = (10 : Int32) then j4 () else some M1))

def f157_l126  : Nat → ZI → Option (ZI)
  | 0, _ => none
  | n + 1, M16 =>
  (f158_see (M16 148 20) M16).bind fun v17 => (f166_isDigit v17).bind fun v18 => (if v18 = 0 then some M16 else ((if (M16 148 20) < ((M16 148 22) + (4 : Int32)) then (f158_see (M16 148 20) M16).bind fun v19 => zlet (zs M16 148 23 ((((10 : Int32) * (M16 148 23)) + v19) - (48 : Int32))) fun (M20 : ZI) => some M20 else some M16) : Option (ZI)).bind fun M21 =>
  zlet (zs M21 148 20 ((M21 148 20) + (1 : Int32))) fun (M22 : ZI) => f157_l126 n M22)

def f157_l76  : Nat → ZI → Option (ZI)
  | 0, _ => none
  | n + 1, M26 =>
  (f158_see (M26 148 20) M26).bind fun v27 => (f159_isLetter v27).bind fun v28 => (if v28 = 0 then some M26 else zlet (zs M26 148 20 ((M26 148 20) + (1 : Int32))) fun (M29 : ZI) => f157_l76 n M29)

def f157_next0 (M : ZI) : Option ZI :=
  (f157_l0 zfu M).bind fun M6 =>
  zlet (zs M6 148 22 (M6 148 20)) fun (M7 : ZI) => (f158_see (M7 148 20) M7).bind fun v8 => (if v8 = (-1 : Int32) then zlet (zs M7 148 21 (0 : Int32)) fun (M33 : ZI) => some M33 else (f159_isLetter v8).bind fun v9 => (if v9 = 0 then (f166_isDigit v8).bind fun v10 => (if v10 = 0 then zlet (zs M7 148 20 ((M7 148 20) + (1 : Int32))) fun (M11 : ZI) => ((if v8 = (59 : Int32) then some (1 : Int32) else (if v8 = (43 : Int32) then some (1 : Int32) else (if v8 = (45 : Int32) then some (1 : Int32) else (if v8 = (42 : Int32) then some (1 : Int32) else (if v8 = (47 : Int32) then some (1 : Int32) else (if v8 = (40 : Int32) then some (1 : Int32) else (if v8 = (41 : Int32) then some (1 : Int32) else (if v8 = (60 : Int32) then some (1 : Int32) else (if v8 = (61 : Int32) then some (1 : Int32) else (if v8 = (62 : Int32) then some (1 : Int32) else some (0 : Int32))))))))))) : Option (Int32)).bind fun v12 =>
  (if v12 = 0 then zlet (zs M11 148 21 (1 : Int32)) fun (M13 : ZI) => some M13 else zlet (zs M11 148 21 ((100 : Int32) + v8)) fun (M14 : ZI) => some M14) else zlet (zs M7 148 23 (0 : Int32)) fun (M15 : ZI) => (f157_l126 zfu M15).bind fun M23 =>
  (if ((M23 148 20) - (M23 148 22)) < (5 : Int32) then zlet (zs M23 148 21 (2 : Int32)) fun (M25 : ZI) => some M25 else zlet (zs M23 148 21 (1 : Int32)) fun (M24 : ZI) => some M24)) else (f157_l76 zfu M7).bind fun M30 =>
  (f160_word M30).bind fun v31 => zlet (zs M30 148 21 v31) fun (M32 : ZI) => some M32))

def f170_bad (a1 : Int32) (M : ZI) : Option (Int32 × ZI) :=
  zlet (zs M 148 24 a1) fun (M1 : ZI) => zlet (zs M1 148 25 (M1 148 22)) fun (M2 : ZI) => some ((0 : Int32), M2)

def f174_lay (a1 : Int32) (a2 : Int32) (M : ZI) : Option ZI :=
  if zin ((2 : Int32) * (M 148 16)) 820 = true then zlet (zs M 154 (zi ((2 : Int32) * (M 148 16))) a1) fun (M1 : ZI) => if zin (((2 : Int32) * (M1 148 16)) + (1 : Int32)) 820 = true then zlet (zs M1 154 (zi (((2 : Int32) * (M1 148 16)) + (1 : Int32))) a2) fun (M2 : ZI) => zlet (zs M2 148 16 ((M2 148 16) + (1 : Int32))) fun (M3 : ZI) => some M3 else none else none

def f173_unit (M : ZI) : Option (Int32 × ZI) :=
  (f149_isIn (M 148 21) (41 : Int32) (49 : Int32)).bind fun v1 => zlet (fun (M2 : ZI) => (((if v1 = 0 then some (0 : Int32) else some ((M2 148 21) - (40 : Int32))) : Option (Int32)).bind fun v3 =>
  (f174_lay v3 (M2 148 23) M2).bind fun M4 => (f157_next0 M4).bind fun M5 => some ((1 : Int32), M5) : Option (Int32 × ZI))) fun j6 =>
  (if (M 148 21) = (2 : Int32) then j6 M else (if v1 = 0 then (f170_bad (1 : Int32) M).bind fun (v7, M8) => if zbl v7 = true then some (v7, M8) else none else j6 M))

def f172_l9  : Nat → ZI → Option (Int32 × ZI)
  | 0, _ => none
  | n + 1, M5 =>
  zlet (fun (_ : Unit) => (((if (M5 148 21) = (147 : Int32) then some (1 : Int32) else some (0 : Int32)) : Option (Int32)).bind fun v6 =>
  (f157_next0 M5).bind fun M7 => (if v6 = 0 then (f173_unit M7).bind fun (v8, M9) => (if v8 = 0 then some ((0 : Int32), M9) else (f174_lay (25 : Int32) (0 : Int32) M9).bind fun M10 => f172_l9 n M10) else zlet (M7 148 23) fun (x11 : Int32) => (if (M7 148 21) = (2 : Int32) then (if x11 = 0 then (f170_bad (2 : Int32) M7).bind fun (v14, M15) => if zbl v14 = true then some (v14, M15) else none else (f157_next0 M7).bind fun M12 => (f174_lay (26 : Int32) x11 M12).bind fun M13 => f172_l9 n M13) else (f170_bad (1 : Int32) M7).bind fun (v16, M17) => if zbl v16 = true then some (v16, M17) else none)) : Option (Int32 × ZI))) fun j18 =>
  (if (M5 148 21) = (142 : Int32) then j18 () else (if (M5 148 21) = (147 : Int32) then j18 () else some ((1 : Int32), M5)))

def f172_product (M : ZI) : Option (Int32 × ZI) :=
  (f173_unit M).bind fun (v1, M2) => (if v1 = 0 then some ((0 : Int32), M2) else f172_l9 zfu M2)

def f171_l9  : Nat → ZI → Option (Int32 × ZI)
  | 0, _ => none
  | n + 1, M4 =>
  zlet (fun (_ : Unit) => (((if (M4 148 21) = (143 : Int32) then some (23 : Int32) else some (24 : Int32)) : Option (Int32)).bind fun v5 =>
  (f157_next0 M4).bind fun M6 => (f172_product M6).bind fun (v7, M8) => (if v7 = 0 then some ((0 : Int32), M8) else (f174_lay v5 (0 : Int32) M8).bind fun M9 => f171_l9 n M9) : Option (Int32 × ZI))) fun j10 =>
  (if (M4 148 21) = (143 : Int32) then j10 () else (if (M4 148 21) = (145 : Int32) then j10 () else some ((1 : Int32), M4)))

def f171_sumUp (M : ZI) : Option (Int32 × ZI) :=
  (f172_product M).bind fun (v1, M2) => (if v1 = 0 then some ((0 : Int32), M2) else f171_l9 zfu M2)

def f178_opens (M : ZI) : Option (Int32 × ZI) :=
  (if (M 148 27) = (8 : Int32) then (f170_bad (3 : Int32) M).bind fun (v3, M4) => if zbl v3 = true then some (v3, M4) else none else zlet (zs M 148 27 ((M 148 27) + (1 : Int32))) fun (M1 : ZI) => (f157_next0 M1).bind fun M2 => some ((1 : Int32), M2))

def f179_need (a1 : Int32) (M : ZI) : Option (Int32 × ZI) :=
  (if (M 148 21) = a1 then (f157_next0 M).bind fun M1 => some ((1 : Int32), M1) else (f170_bad (1 : Int32) M).bind fun (v2, M3) => if zbl v2 = true then some (v2, M3) else none)

def f177_oneTest_b (g175 : ZI → Option (Int32 × ZI)) (g177 : ZI → Option (Int32 × ZI)) (M : ZI) : Option (Int32 × ZI) :=
  (if (M 148 21) = (6 : Int32) then (f178_opens M).bind fun (v17, M18) => (if v17 = 0 then some ((0 : Int32), M18) else (g177 M18).bind fun (v19, M20) => (if v19 = 0 then some ((0 : Int32), M20) else zlet (zs M20 148 27 ((M20 148 27) - (1 : Int32))) fun (M21 : ZI) => (f174_lay (30 : Int32) (0 : Int32) M21).bind fun M22 => some ((1 : Int32), M22))) else (if (M 148 21) = (140 : Int32) then (f178_opens M).bind fun (v10, M11) => (if v10 = 0 then some ((0 : Int32), M11) else (g175 M11).bind fun (v12, M13) => (if v12 = 0 then some ((0 : Int32), M13) else (f179_need (141 : Int32) M13).bind fun (v14, M15) => (if v14 = 0 then some ((0 : Int32), M15) else zlet (zs M15 148 27 ((M15 148 27) - (1 : Int32))) fun (M16 : ZI) => some ((1 : Int32), M16)))) else (f171_sumUp M).bind fun (v1, M2) => (if v1 = 0 then some ((0 : Int32), M2) else ((if (M2 148 21) = (160 : Int32) then some (27 : Int32) else (if (M2 148 21) = (161 : Int32) then some (28 : Int32) else (if (M2 148 21) = (162 : Int32) then some (29 : Int32) else some (-1 : Int32)))) : Option (Int32)).bind fun v3 =>
  (if v3 = (-1 : Int32) then (f170_bad (1 : Int32) M2).bind fun (v8, M9) => if zbl v8 = true then some (v8, M9) else none else (f157_next0 M2).bind fun M4 => (f171_sumUp M4).bind fun (v5, M6) => (if v5 = 0 then some ((0 : Int32), M6) else (f174_lay v3 (0 : Int32) M6).bind fun M7 => some ((1 : Int32), M7))))))

def f176_l9 (g177 : ZI → Option (Int32 × ZI))  : Nat → ZI → Option (Int32 × ZI)
  | 0, _ => none
  | n + 1, M3 =>
  (if (M3 148 21) = (5 : Int32) then (f157_next0 M3).bind fun M4 => (g177 M4).bind fun (v5, M6) => (if v5 = 0 then some ((0 : Int32), M6) else (f174_lay (31 : Int32) (0 : Int32) M6).bind fun M7 => f176_l9 g177 n M7) else some ((1 : Int32), M3))

def f176_every_b (g177 : ZI → Option (Int32 × ZI)) (M : ZI) : Option (Int32 × ZI) :=
  (g177 M).bind fun (v1, M2) => (if v1 = 0 then some ((0 : Int32), M2) else f176_l9 g177 zfu M2)

def f175_l9 (g176 : ZI → Option (Int32 × ZI))  : Nat → ZI → Option (Int32 × ZI)
  | 0, _ => none
  | n + 1, M3 =>
  (if (M3 148 21) = (4 : Int32) then (f157_next0 M3).bind fun M4 => (g176 M4).bind fun (v5, M6) => (if v5 = 0 then some ((0 : Int32), M6) else (f174_lay (32 : Int32) (0 : Int32) M6).bind fun M7 => f175_l9 g176 n M7) else some ((1 : Int32), M3))

def f175_any_b (g176 : ZI → Option (Int32 × ZI)) (M : ZI) : Option (Int32 × ZI) :=
  (g176 M).bind fun (v1, M2) => (if v1 = 0 then some ((0 : Int32), M2) else f175_l9 g176 zfu M2)

def fgB : Nat → (ZI → Option (Int32 × ZI)) × (ZI → Option (Int32 × ZI)) × (ZI → Option (Int32 × ZI))
  | 0 => (fun _ => none, fun _ => none, fun _ => none)
  | f + 1 => (f177_oneTest_b (fgB f).2.2 (fgB f).1, f176_every_b (fgB f).1, f175_any_b (fgB f).2.1)
def f177_oneTest (f : Nat) : ZI → Option (Int32 × ZI) := (fgB f).1
def f176_every (f : Nat) : ZI → Option (Int32 × ZI) := (fgB f).2.1
def f175_any (f : Nat) : ZI → Option (Int32 × ZI) := (fgB f).2.2
theorem fe177 (f : Nat) : f177_oneTest (f + 1) = f177_oneTest_b (f175_any f) (f177_oneTest f) := by simp only [f177_oneTest, f176_every, f175_any, fgB]
theorem fe176 (f : Nat) : f176_every (f + 1) = f176_every_b (f177_oneTest f) := by simp only [f177_oneTest, f176_every, f175_any, fgB]
theorem fe175 (f : Nat) : f175_any (f + 1) = f175_any_b (f176_every f) := by simp only [f177_oneTest, f176_every, f175_any, fgB]

def f169_aLine (M : ZI) : Option (Int32 × ZI) :=
  (f149_isIn (M 148 21) (20 : Int32) (22 : Int32)).bind fun v1 => (if v1 = 0 then (f170_bad (1 : Int32) M).bind fun (v19, M20) => if zbl v19 = true then some (v19, M20) else none else (if (M 148 15) = (16 : Int32) then (f170_bad (3 : Int32) M).bind fun (v17, M18) => if zbl v17 = true then some (v17, M18) else none else zlet (zs M 148 27 (0 : Int32)) fun (M2 : ZI) => if zin (((4 : Int32) * (M2 148 15)) + (3 : Int32)) 64 = true then zlet (zs M2 153 (zi (((4 : Int32) * (M2 148 15)) + (3 : Int32))) (M2 148 21)) fun (M3 : ZI) => (f157_next0 M3).bind fun M4 => if zin ((4 : Int32) * (M4 148 15)) 64 = true then zlet (zs M4 153 (zi ((4 : Int32) * (M4 148 15))) (M4 148 16)) fun (M5 : ZI) => (f171_sumUp M5).bind fun (v6, M7) => (if v6 = 0 then some ((0 : Int32), M7) else if zin (((4 : Int32) * (M7 148 15)) + (1 : Int32)) 64 = true then zlet (zs M7 153 (zi (((4 : Int32) * (M7 148 15)) + (1 : Int32))) (M7 148 16)) fun (M8 : ZI) => zlet (fun (M9 : ZI) => (if zin (((4 : Int32) * (M9 148 15)) + (2 : Int32)) 64 = true then zlet (zs M9 153 (zi (((4 : Int32) * (M9 148 15)) + (2 : Int32))) (M9 148 16)) fun (M10 : ZI) => (f179_need (159 : Int32) M10).bind fun (v11, M12) => if zbl v11 = true then some (v11, M12) else none else none : Option (Int32 × ZI))) fun j13 =>
  (if (M8 148 21) = (3 : Int32) then (f157_next0 M8).bind fun M14 => (f175_any zgf M14).bind fun (v15, M16) => (if v15 = 0 then some ((0 : Int32), M16) else j13 M16) else j13 M8) else none) else none else none))

def f168_l12  : Nat → Int32 → ZI → Option (Int32 × ZI)
  | 0, _, _ => none
  | n + 1, x3, M4 =>
  (if x3 = 0 then some (x3, M4) else (if (M4 148 21) = 0 then some (x3, M4) else (f169_aLine M4).bind fun (v5, M6) => (if v5 = 0 then zlet (zs M6 148 15 ((M6 148 15) + (0 : Int32))) fun (M7 : ZI) => f168_l12 n v5 M7 else zlet (zs M6 148 15 ((M6 148 15) + (1 : Int32))) fun (M8 : ZI) => f168_l12 n v5 M8)))

def f168_readsLaw (M : ZI) : Option (Int32 × ZI) :=
  zlet (zs M 148 15 (0 : Int32)) fun (M1 : ZI) => zlet (zs M1 148 16 (0 : Int32)) fun (M2 : ZI) => (f168_l12 zfu (1 : Int32) M2).bind fun (x9, M10) =>
  if zbl x9 = true then some (x9, M10) else none

def f182_number (a1 : Int32) (a2 : Int32) (M : ZI) : Option (Int32 × ZI) :=
  (if (M 148 21) = (2 : Int32) then (f149_isIn (M 148 23) a1 a2).bind fun v1 => (if v1 = 0 then (f170_bad (2 : Int32) M).bind fun (v4, M5) => if zbl v4 = true then some (v4, M5) else none else zlet (zs M 148 29 (M 148 23)) fun (M2 : ZI) => (f157_next0 M2).bind fun M3 => some ((1 : Int32), M3)) else (f170_bad (1 : Int32) M).bind fun (v6, M7) => if zbl v6 = true then some (v6, M7) else none)

def f181_aVoice (M : ZI) : Option (Int32 × ZI) :=
  zlet (fun (M1 : ZI) => ((f182_number (0 : Int32) ((M1 149 48) - (1 : Int32)) M1).bind fun (v2, M3) => (if v2 = 0 then some ((0 : Int32), M3) else zlet (M3 148 29) fun (x4 : Int32) => (f179_need (7 : Int32) M3).bind fun (v5, M6) => (if v5 = 0 then some ((0 : Int32), M6) else zlet (fun (M7 : ZI) => ((f182_number (0 : Int32) ((M7 149 48) - (1 : Int32)) M7).bind fun (v8, M9) => (if v8 = 0 then some ((0 : Int32), M9) else if zin x4 10 = true then zlet (zs M9 155 (zi x4) (M9 148 29)) fun (M10 : ZI) => zlet (zs M10 148 17 ((M10 148 17) + (1 : Int32))) fun (M11 : ZI) => (f179_need (159 : Int32) M11).bind fun (v12, M13) => if zbl v12 = true then some (v12, M13) else none else none) : Option (Int32 × ZI))) fun j14 =>
  (if (M6 148 21) = (2 : Int32) then (if (M6 148 23) = x4 then (f170_bad (2 : Int32) M6).bind fun (v15, M16) => if zbl v15 = true then some (v15, M16) else none else j14 M6) else j14 M6))) : Option (Int32 × ZI))) fun j17 =>
  (if (M 148 21) = (2 : Int32) then (f152_isPerson (M 148 23) M).bind fun v18 => (if v18 = 0 then j17 M else if zin (M 148 23) 10 = true then (if (M 155 (zi (M 148 23))) = (-1 : Int32) then j17 M else (f170_bad (2 : Int32) M).bind fun (v19, M20) => if zbl v19 = true then some (v19, M20) else none) else none) else j17 M)

def f180_l7  : Nat → Int32 → ZI → Option (ZI)
  | 0, _, _ => none
  | n + 1, x2, M3 =>
  (if x2 < (10 : Int32) then if zin x2 10 = true then zlet (zs M3 155 (zi x2) (-1 : Int32)) fun (M4 : ZI) => f180_l7 n (x2 + (1 : Int32)) M4 else none else some M3)

def f180_l28  : Nat → Int32 → ZI → Option (Int32 × ZI)
  | 0, _, _ => none
  | n + 1, x7, M8 =>
  (if x7 = 0 then some (x7, M8) else (if (M8 148 21) = 0 then some (x7, M8) else (f181_aVoice M8).bind fun (v9, M10) => f180_l28 n v9 M10))

def f180_readsVoices (M : ZI) : Option (Int32 × ZI) :=
  zlet (zs M 148 17 (0 : Int32)) fun (M1 : ZI) => (f180_l7 zfu (0 : Int32) M1).bind fun M5 =>
  (f180_l28 zfu (1 : Int32) M5).bind fun (x11, M12) =>
  if zbl x11 = true then some (x11, M12) else none

def f185_told (a1 : Int32) (a2 : Int32) (a3 : Int32) (a4 : Int32) (M : ZI) : Option (Int32 × ZI) :=
  (f179_need a2 M).bind fun (v1, M2) => (if v1 = 0 then some ((0 : Int32), M2) else (f182_number a3 a4 M2).bind fun (v3, M4) => (if v3 = 0 then some ((0 : Int32), M4) else if zin (((6 : Int32) * (M4 148 17)) + a1) 72 = true then zlet (zs M4 156 (zi (((6 : Int32) * (M4 148 17)) + a1)) (M4 148 29)) fun (M5 : ZI) => some ((1 : Int32), M5) else none))

def f186_anAfter (M : ZI) : Option (Int32 × ZI) :=
  if zin (((6 : Int32) * (M 148 17)) + (5 : Int32)) 72 = true then zlet (zs M 156 (zi (((6 : Int32) * (M 148 17)) + (5 : Int32))) (-1 : Int32)) fun (M1 : ZI) => (if (M1 148 21) = (13 : Int32) then (f157_next0 M1).bind fun M2 => zlet (fun (M3 : ZI) => ((f182_number (0 : Int32) ((M3 148 17) - (1 : Int32)) M3).bind fun (v4, M5) => (if v4 = 0 then some ((0 : Int32), M5) else if zin (((6 : Int32) * (M5 148 17)) + (5 : Int32)) 72 = true then zlet (zs M5 156 (zi (((6 : Int32) * (M5 148 17)) + (5 : Int32))) (M5 148 29)) fun (M6 : ZI) => some ((1 : Int32), M6) else none) : Option (Int32 × ZI))) fun j7 =>
  (if (M2 148 21) = (2 : Int32) then (if (M2 148 23) < (M2 148 17) then if zin (((6 : Int32) * (M2 148 23)) + (0 : Int32)) 72 = true then if zin (((6 : Int32) * (M2 148 17)) + (0 : Int32)) 72 = true then (if (M2 156 (zi (((6 : Int32) * (M2 148 23)) + (0 : Int32)))) = (M2 156 (zi (((6 : Int32) * (M2 148 17)) + (0 : Int32)))) then j7 M2 else (f170_bad (2 : Int32) M2).bind fun (v8, M9) => if zbl v8 = true then some (v8, M9) else none) else none else none else j7 M2) else j7 M2) else some ((1 : Int32), M1)) else none

def f184_aWork (M : ZI) : Option (Int32 × ZI) :=
  (if (M 148 21) = (8 : Int32) then (if (M 148 17) = (12 : Int32) then (f170_bad (3 : Int32) M).bind fun (v16, M17) => if zbl v16 = true then some (v16, M17) else none else (f185_told (0 : Int32) (8 : Int32) (0 : Int32) ((M 149 48) - (1 : Int32)) M).bind fun (v1, M2) => (if v1 = 0 then some ((0 : Int32), M2) else (f185_told (1 : Int32) (9 : Int32) (1 : Int32) (24 : Int32) M2).bind fun (v3, M4) => (if v3 = 0 then some ((0 : Int32), M4) else (f185_told (2 : Int32) (10 : Int32) (0 : Int32) (99 : Int32) M4).bind fun (v5, M6) => (if v5 = 0 then some ((0 : Int32), M6) else (f185_told (3 : Int32) (11 : Int32) (0 : Int32) (9 : Int32) M6).bind fun (v7, M8) => (if v7 = 0 then some ((0 : Int32), M8) else (f185_told (4 : Int32) (12 : Int32) (0 : Int32) (9 : Int32) M8).bind fun (v9, M10) => (if v9 = 0 then some ((0 : Int32), M10) else (f186_anAfter M10).bind fun (v11, M12) => (if v11 = 0 then some ((0 : Int32), M12) else zlet (zs M12 148 17 ((M12 148 17) + (1 : Int32))) fun (M13 : ZI) => (f179_need (159 : Int32) M13).bind fun (v14, M15) => if zbl v14 = true then some (v14, M15) else none))))))) else (f170_bad (1 : Int32) M).bind fun (v18, M19) => if zbl v18 = true then some (v18, M19) else none)

def f183_l7  : Nat → Int32 → ZI → Option (Int32 × ZI)
  | 0, _, _ => none
  | n + 1, x2, M3 =>
  (if x2 = 0 then some (x2, M3) else (if (M3 148 21) = 0 then some (x2, M3) else (f184_aWork M3).bind fun (v4, M5) => f183_l7 n v4 M5))

def f183_readsWorks (M : ZI) : Option (Int32 × ZI) :=
  zlet (zs M 148 17 (0 : Int32)) fun (M1 : ZI) => (f183_l7 zfu (1 : Int32) M1).bind fun (x6, M7) =>
  if zbl x6 = true then some (x6, M7) else none

def f191_rules (a1 : Int32) (M : ZI) : Option ZI :=
  if zin (M 148 18) 400 = true then zlet (zs M 157 (zi (M 148 18)) a1) fun (M1 : ZI) => zlet (zs M1 148 18 ((M1 148 18) + (1 : Int32))) fun (M2 : ZI) => some M2 else none

def f190_oneOf_b (g188 : ZI → Option (Int32 × ZI)) (M : ZI) : Option (Int32 × ZI) :=
  (if (M 148 21) = (140 : Int32) then (if (M 148 27) = (8 : Int32) then (f170_bad (3 : Int32) M).bind fun (v18, M19) => if zbl v18 = true then some (v18, M19) else none else zlet (zs M 148 27 ((M 148 27) + (1 : Int32))) fun (M11 : ZI) => (f157_next0 M11).bind fun M12 => (g188 M12).bind fun (v13, M14) => (if v13 = 0 then some ((0 : Int32), M14) else (f179_need (141 : Int32) M14).bind fun (v15, M16) => (if v15 = 0 then some ((0 : Int32), M16) else zlet (zs M16 148 27 ((M16 148 27) - (1 : Int32))) fun (M17 : ZI) => some ((1 : Int32), M17)))) else ((if (M 148 21) = (14 : Int32) then some (1 : Int32) else some (0 : Int32)) : Option (Int32)).bind fun v1 =>
  ((if v1 = 0 then some M else (f157_next0 M).bind fun M2 => some M2) : Option (ZI)).bind fun M3 =>
  ((if v1 = 0 then some (0 : Int32) else some (1 : Int32)) : Option (Int32)).bind fun v4 =>
  ((if v1 = 0 then some ((M3 149 48) - (1 : Int32)) else some (10 : Int32)) : Option (Int32)).bind fun v5 =>
  (f182_number v4 v5 M3).bind fun (v6, M7) => (if v6 = 0 then some ((0 : Int32), M7) else ((if v1 = 0 then some (0 : Int32) else some (20 : Int32)) : Option (Int32)).bind fun v8 =>
  (f191_rules (v8 + (M7 148 29)) M7).bind fun M9 => zlet (zs M9 148 17 ((M9 148 17) + (1 : Int32))) fun (M10 : ZI) => some ((1 : Int32), M10)))

def f189_l9 (g190 : ZI → Option (Int32 × ZI))  : Nat → ZI → Option (Int32 × ZI)
  | 0, _ => none
  | n + 1, M3 =>
  (if (M3 148 21) = (5 : Int32) then (f157_next0 M3).bind fun M4 => (g190 M4).bind fun (v5, M6) => (if v5 = 0 then some ((0 : Int32), M6) else (f191_rules (40 : Int32) M6).bind fun M7 => f189_l9 g190 n M7) else some ((1 : Int32), M3))

def f189_anyOf_b (g190 : ZI → Option (Int32 × ZI)) (M : ZI) : Option (Int32 × ZI) :=
  (g190 M).bind fun (v1, M2) => (if v1 = 0 then some ((0 : Int32), M2) else f189_l9 g190 zfu M2)

def f188_l9 (g189 : ZI → Option (Int32 × ZI))  : Nat → ZI → Option (Int32 × ZI)
  | 0, _ => none
  | n + 1, M3 =>
  (if (M3 148 21) = (4 : Int32) then (f157_next0 M3).bind fun M4 => (g189 M4).bind fun (v5, M6) => (if v5 = 0 then some ((0 : Int32), M6) else (f191_rules (41 : Int32) M6).bind fun M7 => f188_l9 g189 n M7) else some ((1 : Int32), M3))

def f188_aRule_b (g189 : ZI → Option (Int32 × ZI)) (M : ZI) : Option (Int32 × ZI) :=
  (g189 M).bind fun (v1, M2) => (if v1 = 0 then some ((0 : Int32), M2) else f188_l9 g189 zfu M2)

def fgC : Nat → (ZI → Option (Int32 × ZI)) × (ZI → Option (Int32 × ZI)) × (ZI → Option (Int32 × ZI))
  | 0 => (fun _ => none, fun _ => none, fun _ => none)
  | f + 1 => (f190_oneOf_b (fgC f).2.2, f189_anyOf_b (fgC f).1, f188_aRule_b (fgC f).2.1)
def f190_oneOf (f : Nat) : ZI → Option (Int32 × ZI) := (fgC f).1
def f189_anyOf (f : Nat) : ZI → Option (Int32 × ZI) := (fgC f).2.1
def f188_aRule (f : Nat) : ZI → Option (Int32 × ZI) := (fgC f).2.2
theorem fe190 (f : Nat) : f190_oneOf (f + 1) = f190_oneOf_b (f188_aRule f) := by simp only [f190_oneOf, f189_anyOf, f188_aRule, fgC]
theorem fe189 (f : Nat) : f189_anyOf (f + 1) = f189_anyOf_b (f190_oneOf f) := by simp only [f190_oneOf, f189_anyOf, f188_aRule, fgC]
theorem fe188 (f : Nat) : f188_aRule (f + 1) = f188_aRule_b (f189_anyOf f) := by simp only [f190_oneOf, f189_anyOf, f188_aRule, fgC]

def f187_readsCouncil (M : ZI) : Option (Int32 × ZI) :=
  zlet (zs M 148 17 (0 : Int32)) fun (M1 : ZI) => zlet (zs M1 148 18 (0 : Int32)) fun (M2 : ZI) => zlet (zs M2 148 27 (0 : Int32)) fun (M3 : ZI) => (if (M3 148 21) = 0 then some ((1 : Int32), M3) else (f188_aRule zgf M3).bind fun (v4, M5) => (if v4 = 0 then some ((0 : Int32), M5) else (if (M5 148 21) = 0 then some ((1 : Int32), M5) else (f170_bad (1 : Int32) M5).bind fun (v6, M7) => (if v6 = 0 then some ((0 : Int32), M7) else some ((1 : Int32), M7)))))

def f167_reads (a1 : Int32) (M : ZI) : Option (Int32 × ZI) :=
  (if a1 = (0 : Int32) then (f168_readsLaw M).bind fun (v1, M2) => if zbl v1 = true then some (v1, M2) else none else if a1 = (1 : Int32) then (f180_readsVoices M).bind fun (v3, M4) => if zbl v3 = true then some (v3, M4) else none else if a1 = (2 : Int32) then (f183_readsWorks M).bind fun (v5, M6) => if zbl v5 = true then some (v5, M6) else none else (f187_readsCouncil M).bind fun (v7, M8) => if zbl v7 = true then some (v7, M8) else none)

def f193_l13  : Nat → Int32 → ZI → Option (ZI)
  | 0, _, _ => none
  | n + 1, x2, M3 =>
  (if x2 < (M3 148 15) then if zin ((4 : Int32) * x2) 64 = true then if zin ((1178 : Int32) + x2) 2064 = true then zlet (zs M3 149 (zi ((1178 : Int32) + x2)) (M3 153 (zi ((4 : Int32) * x2)))) fun (M4 : ZI) => if zin (((4 : Int32) * x2) + (1 : Int32)) 64 = true then if zin ((1194 : Int32) + x2) 2064 = true then zlet (zs M4 149 (zi ((1194 : Int32) + x2)) (M4 153 (zi (((4 : Int32) * x2) + (1 : Int32))))) fun (M5 : ZI) => if zin (((4 : Int32) * x2) + (2 : Int32)) 64 = true then if zin ((1210 : Int32) + x2) 2064 = true then zlet (zs M5 149 (zi ((1210 : Int32) + x2)) (M5 153 (zi (((4 : Int32) * x2) + (2 : Int32))))) fun (M6 : ZI) => if zin (((4 : Int32) * x2) + (3 : Int32)) 64 = true then if zin ((1226 : Int32) + x2) 2064 = true then zlet (zs M6 149 (zi ((1226 : Int32) + x2)) (M6 153 (zi (((4 : Int32) * x2) + (3 : Int32))))) fun (M7 : ZI) => f193_l13 n (x2 + (1 : Int32)) M7 else none else none else none else none else none else none else none else none else some M3)

def f193_l107  : Nat → Int32 → ZI → Option (ZI)
  | 0, _, _ => none
  | n + 1, x10, M11 =>
  (if x10 < ((2 : Int32) * (M11 148 16)) then if zin x10 820 = true then if zin ((1244 : Int32) + x10) 2064 = true then zlet (zs M11 149 (zi ((1244 : Int32) + x10)) (M11 154 (zi x10))) fun (M12 : ZI) => f193_l107 n (x10 + (1 : Int32)) M12 else none else none else some M11)

def f193_putsLaw (M : ZI) : Option (Int32 × ZI) :=
  zlet (zs M 149 58 (M 148 15)) fun (M1 : ZI) => (f193_l13 zfu (0 : Int32) M1).bind fun M8 =>
  (f193_l107 zfu (0 : Int32) M8).bind fun M13 =>
  some ((M13 148 15), M13)

def f194_l13  : Nat → Int32 → ZI → Option (ZI)
  | 0, _, _ => none
  | n + 1, x2, M3 =>
  (if x2 < (10 : Int32) then if zin x2 10 = true then if zin ((80 : Int32) + x2) 2064 = true then zlet (zs M3 149 (zi ((80 : Int32) + x2)) (M3 155 (zi x2))) fun (M4 : ZI) => f194_l13 n (x2 + (1 : Int32)) M4 else none else none else some M3)

def f194_putsVoices (M : ZI) : Option (Int32 × ZI) :=
  zlet (zs M 149 51 (M 148 17)) fun (M1 : ZI) => (f194_l13 zfu (0 : Int32) M1).bind fun M5 =>
  (f147_forgets M5).bind fun M7 => some ((M7 148 17), M7)

def f195_l21  : Nat → Int32 → ZI → Option (ZI)
  | 0, _, _ => none
  | n + 1, x3, M4 =>
  (if x3 < ((6 : Int32) * (M4 148 17)) then if zin x3 72 = true then if zin ((90 : Int32) + x3) 2064 = true then zlet (zs M4 149 (zi ((90 : Int32) + x3)) (M4 156 (zi x3))) fun (M5 : ZI) => f195_l21 n (x3 + (1 : Int32)) M5 else none else none else some M4)

def f195_putsWorks (M : ZI) : Option (Int32 × ZI) :=
  zlet (zs M 149 52 (M 148 17)) fun (M1 : ZI) => zlet (zs M1 149 6 (0 : Int32)) fun (M2 : ZI) => (f195_l21 zfu (0 : Int32) M2).bind fun M6 =>
  (f147_forgets M6).bind fun M8 => some ((M8 148 17), M8)

def f196_l24  : Nat → Int32 → ZI → Option (ZI)
  | 0, _, _ => none
  | n + 1, x3, M4 =>
  (if x3 < (M4 148 18) then if zin x3 400 = true then if zin ((162 : Int32) + x3) 2064 = true then zlet (zs M4 149 (zi ((162 : Int32) + x3)) (M4 157 (zi x3))) fun (M5 : ZI) => f196_l24 n (x3 + (1 : Int32)) M5 else none else none else some M4)

def f196_putsCouncil (M : ZI) : Option (Int32 × ZI) :=
  zlet (zs M 149 53 (M 148 17)) fun (M1 : ZI) => zlet (zs M1 149 54 (M1 148 18)) fun (M2 : ZI) => (f196_l24 zfu (0 : Int32) M2).bind fun M6 =>
  some ((M6 148 17), M6)

def f192_putsText (a1 : Int32) (M : ZI) : Option (Int32 × ZI) :=
  (if a1 = (0 : Int32) then (f193_putsLaw M).bind fun (v1, M2) => some (v1, M2) else if a1 = (1 : Int32) then (f194_putsVoices M).bind fun (v3, M4) => some (v3, M4) else if a1 = (2 : Int32) then (f195_putsWorks M).bind fun (v5, M6) => some (v5, M6) else (f196_putsCouncil M).bind fun (v7, M8) => some (v7, M8))

def f156_text (a1 : Int32) (M : ZI) : Option (Int32 × ZI) :=
  zlet (zs M 148 26 (0 : Int32)) fun (M1 : ZI) => zlet (zs M1 148 28 (-1 : Int32)) fun (M2 : ZI) => (f149_isIn a1 (0 : Int32) (3 : Int32)).bind fun v3 => (if v3 = 0 then zlet (zs M2 148 19 (0 : Int32)) fun (M15 : ZI) => some ((-1 : Int32), M15) else zlet (zs M2 148 24 (0 : Int32)) fun (M4 : ZI) => zlet (zs M4 148 20 (0 : Int32)) fun (M5 : ZI) => zlet (zs M5 148 14 a1) fun (M6 : ZI) => (f157_next0 M6).bind fun M7 => (f167_reads a1 M7).bind fun (v8, M9) => zlet (zs M9 148 19 (0 : Int32)) fun (M10 : ZI) => (if v8 = 0 then zlet (zs M10 148 26 (M10 148 24)) fun (M11 : ZI) => zlet (zs M11 148 28 (M11 148 25)) fun (M12 : ZI) => some ((-1 : Int32), M12) else (f192_putsText a1 M10).bind fun (v13, M14) => some (v13, M14)))

def f197_fault (a1 : Int32) (M : ZI) : Option Int32 :=
  (if a1 = 0 then some (M 148 26) else (if a1 = (1 : Int32) then some (M 148 28) else some (-1 : Int32)))

def f198_l21  : Nat → Int32 → ZI → Option (ZI)
  | 0, _, _ => none
  | n + 1, x2, M3 =>
  (if x2 < (48 : Int32) then if zin (((48 : Int32) * (M3 148 4)) + x2) 288 = true then if zin x2 2064 = true then zlet (zs M3 149 (zi x2) (M3 151 (zi (((48 : Int32) * (M3 148 4)) + x2)))) fun (M4 : ZI) => f198_l21 n (x2 + (1 : Int32)) M4 else none else none else some M3)

def f198_undo (M : ZI) : Option (Int32 × ZI) :=
  (if (M 148 4) = 0 then some ((0 : Int32), M) else zlet (zs M 148 4 ((M 148 4) - (1 : Int32))) fun (M1 : ZI) => (f198_l21 zfu (0 : Int32) M1).bind fun M5 =>
  some ((1 : Int32), M5))

def f200_l51  : Nat → Int32 → ZI → Option (ZI)
  | 0, _, _ => none
  | n + 1, x3, M4 =>
  (if x3 < (48 : Int32) then if zin x3 2064 = true then if zin (((48 : Int32) * (M4 148 4)) + x3) 288 = true then zlet (zs M4 151 (zi (((48 : Int32) * (M4 148 4)) + x3)) (M4 149 (zi x3))) fun (M5 : ZI) => f200_l51 n (x3 + (1 : Int32)) M5 else none else none else some M4)

def f200_l11  : Nat → Int32 → ZI → Option (ZI)
  | 0, _, _ => none
  | n + 1, x10, M11 =>
  (if x10 < (240 : Int32) then if zin (x10 + (48 : Int32)) 288 = true then if zin x10 288 = true then zlet (zs M11 151 (zi x10) (M11 151 (zi (x10 + (48 : Int32))))) fun (M12 : ZI) => f200_l11 n (x10 + (1 : Int32)) M12 else none else none else some M11)

def f200_keeps (M : ZI) : Option ZI :=
  zlet (fun (M1 : ZI) => ((f200_l51 zfu (0 : Int32) M1).bind fun M6 =>
  zlet (zs M6 148 4 ((M6 148 4) + (1 : Int32))) fun (M8 : ZI) => some M8 : Option ZI)) fun j9 =>
  (if (M 148 4) = (6 : Int32) then (f200_l11 zfu (0 : Int32) M).bind fun M13 =>
  zlet (zs M13 148 4 ((M13 148 4) - (1 : Int32))) fun (M15 : ZI) => j9 M15 else j9 M)

def f199_tie (a1 : Int32) (a2 : Int32) (a3 : Int32) (M : ZI) : Option (Int32 × ZI) :=
  (f152_isPerson a1 M).bind fun v1 => (if v1 = 0 then some ((0 : Int32), M) else (f152_isPerson a2 M).bind fun v2 => (if v2 = 0 then some ((0 : Int32), M) else (if a1 = a2 then some ((0 : Int32), M) else if zin ((7 : Int32) + a1) 2064 = true then ((if ((zshr (M 149 (zi ((7 : Int32) + a1))) a2) &&& (1 : Int32)) = (1 : Int32) then some (1 : Int32) else some (0 : Int32)) : Option (Int32)).bind fun v3 =>
  (if v3 = a3 then some ((0 : Int32), M) else (f200_keeps M).bind fun M4 => if zin ((7 : Int32) + a1) 2064 = true then if zin ((7 : Int32) + a1) 2064 = true then zlet (zs M4 149 (zi ((7 : Int32) + a1)) ((M4 149 (zi ((7 : Int32) + a1))) ^^^ (zshl (1 : Int32) a2))) fun (M5 : ZI) => if zin ((7 : Int32) + a2) 2064 = true then if zin ((7 : Int32) + a2) 2064 = true then zlet (zs M5 149 (zi ((7 : Int32) + a2)) ((M5 149 (zi ((7 : Int32) + a2))) ^^^ (zshl (1 : Int32) a1))) fun (M6 : ZI) => some ((1 : Int32), M6) else none else none else none else none) else none)))

def f202_lesser (a0 : Int32) (a1 : Int32) : Option Int32 :=
  (if a0 < a1 then some a0 else some a1)

def f201_sit (a1 : Int32) (M : ZI) : Option (Int32 × ZI) :=
  (f149_isIn a1 (1 : Int32) (24 : Int32)).bind fun v1 => (if v1 = 0 then some ((-1 : Int32), M) else (f200_keeps M).bind fun M2 => (f202_lesser (24 : Int32) ((M2 149 1) + a1)).bind fun v3 => zlet (zs M2 149 1 v3) fun (M4 : ZI) => some ((M4 149 1), M4))

def f209_l4 (a0 : Int32) : Nat → Int32 → Int32 → Option (Int32)
  | 0, _, _ => none
  | n + 1, x1, x2 =>
  (if x2 < (16 : Int32) then zlet (x1 + ((zshr a0 x2) &&& (1 : Int32))) fun (x3 : Int32) => f209_l4 a0 n x3 (x2 + (1 : Int32)) else some x1)

def f209_count (a0 : Int32) : Option Int32 :=
  (f209_l4 a0 zfu (0 : Int32) (0 : Int32)).bind fun x4 =>
  some x4

def f212_both (a0 : Int32) (a1 : Int32) (a2 : Int32) : Option Int32 :=
  (if a0 = (23 : Int32) then some (a1 + a2) else if a0 = (24 : Int32) then some (a1 - a2) else if a0 = (25 : Int32) then some (a1 * a2) else if a0 = (26 : Int32) then some (a1 ||| a2) else if a0 = (27 : Int32) then (if a1 < a2 then some (1 : Int32) else some (0 : Int32)) else if a0 = (28 : Int32) then (if a1 = a2 then some (1 : Int32) else some (0 : Int32)) else if a0 = (29 : Int32) then (if a2 < a1 then some (1 : Int32) else some (0 : Int32)) else if a0 = (30 : Int32) then some (a1 ||| a2) else if a0 = (31 : Int32) then some (a1 &&& a2) else some (a1 ||| a2))

def f211_l6 (a1 : Int32) (a3 : Int32) : Nat → Int32 → Int32 → ZI → Option (ZI)
  | 0, _, _, _ => none
  | n + 1, x1, x2, M5 =>
  (if x2 < a3 then if zin (((1244 : Int32) + ((820 : Int32) * a1)) + ((2 : Int32) * x2)) 2064 = true then zlet (M5 149 (zi (((1244 : Int32) + ((820 : Int32) * a1)) + ((2 : Int32) * x2)))) fun (x6 : Int32) => if zin ((((1244 : Int32) + ((820 : Int32) * a1)) + ((2 : Int32) * x2)) + (1 : Int32)) 2064 = true then zlet (M5 149 (zi ((((1244 : Int32) + ((820 : Int32) * a1)) + ((2 : Int32) * x2)) + (1 : Int32)))) fun (x7 : Int32) => (if x6 < (23 : Int32) then (if x6 = 0 then if zin x1 420 = true then zlet (zs M5 159 (zi x1) x7) fun (M13 : ZI) => f211_l6 a1 a3 n (x1 + (1 : Int32)) (x2 + (1 : Int32)) M13 else none else if zin x6 10 = true then if zin x1 420 = true then zlet (zs M5 159 (zi x1) (M5 160 (zi x6))) fun (M12 : ZI) => f211_l6 a1 a3 n (x1 + (1 : Int32)) (x2 + (1 : Int32)) M12 else none else none) else (if x6 = (26 : Int32) then if zin (x1 - (1 : Int32)) 420 = true then if x7 = 0 then none else if zin (x1 - (1 : Int32)) 420 = true then zlet (zs M5 159 (zi (x1 - (1 : Int32))) ((M5 159 (zi (x1 - (1 : Int32)))) / x7)) fun (M11 : ZI) => f211_l6 a1 a3 n x1 (x2 + (1 : Int32)) M11 else none else none else (if x6 = (30 : Int32) then if zin (x1 - (1 : Int32)) 420 = true then if zin (x1 - (1 : Int32)) 420 = true then zlet (zs M5 159 (zi (x1 - (1 : Int32))) ((1 : Int32) - (M5 159 (zi (x1 - (1 : Int32)))))) fun (M10 : ZI) => f211_l6 a1 a3 n x1 (x2 + (1 : Int32)) M10 else none else none else if zin ((x1 + (-1 : Int32)) - (1 : Int32)) 420 = true then if zin (x1 + (-1 : Int32)) 420 = true then (f212_both x6 (M5 159 (zi ((x1 + (-1 : Int32)) - (1 : Int32)))) (M5 159 (zi (x1 + (-1 : Int32))))).bind fun v8 => if zin ((x1 + (-1 : Int32)) - (1 : Int32)) 420 = true then zlet (zs M5 159 (zi ((x1 + (-1 : Int32)) - (1 : Int32))) v8) fun (M9 : ZI) => f211_l6 a1 a3 n (x1 + (-1 : Int32)) (x2 + (1 : Int32)) M9 else none else none else none))) else none else none else some M5)

def f211_comesTo (a1 : Int32) (a2 : Int32) (a3 : Int32) (M : ZI) : Option (Int32 × ZI) :=
  (f211_l6 a1 a3 zfu (0 : Int32) a2 M).bind fun M14 =>
  some ((M14 159 0), M14)

def f210_isSo (a1 : Int32) (M : ZI) : Option (Int32 × ZI) :=
  if zin ((1210 : Int32) + a1) 2064 = true then if zin ((1194 : Int32) + a1) 2064 = true then (if (M 149 (zi ((1210 : Int32) + a1))) = (M 149 (zi ((1194 : Int32) + a1))) then some ((1 : Int32), M) else if zin ((1194 : Int32) + a1) 2064 = true then if zin ((1210 : Int32) + a1) 2064 = true then (f211_comesTo (0 : Int32) (M 149 (zi ((1194 : Int32) + a1))) (M 149 (zi ((1210 : Int32) + a1))) M).bind fun (v1, M2) => (if v1 = (1 : Int32) then some ((1 : Int32), M2) else some ((0 : Int32), M2)) else none else none) else none else none

def f213_greater (a0 : Int32) (a1 : Int32) : Option Int32 :=
  (if a1 < a0 then some a0 else some a1)

def f208_l123 (a1 : Int32) (a4 : Int32) (a5 : Int32) : Nat → Int32 → ZI → Option (Int32 × ZI)
  | 0, _, _ => none
  | n + 1, x11, M12 =>
  (if x11 < (M12 149 58) then if zin ((1226 : Int32) + x11) 2064 = true then (if (M12 149 (zi ((1226 : Int32) + x11))) = a1 then (f210_isSo x11 M12).bind fun (v13, M14) => (if v13 = 0 then f208_l123 a1 a4 a5 n (x11 + (1 : Int32)) M14 else if zin ((1178 : Int32) + x11) 2064 = true then if zin ((1194 : Int32) + x11) 2064 = true then (f211_comesTo (0 : Int32) (M14 149 (zi ((1178 : Int32) + x11))) (M14 149 (zi ((1194 : Int32) + x11))) M14).bind fun (v15, M16) => (f202_lesser a5 v15).bind fun v17 => (f213_greater (0 : Int32) v17).bind fun v18 => some (v18, M16) else none else none) else f208_l123 a1 a4 a5 n (x11 + (1 : Int32)) M12) else none else some (a4, M12))

def f208_says (a1 : Int32) (a2 : Int32) (a3 : Int32) (a4 : Int32) (a5 : Int32) (M : ZI) : Option (Int32 × ZI) :=
  zlet (zs M 160 1 a2) fun (M1 : ZI) => if zin ((17 : Int32) + a2) 2064 = true then zlet (zs M1 160 2 (M1 149 (zi ((17 : Int32) + a2)))) fun (M2 : ZI) => if zin ((60 : Int32) + a2) 2064 = true then zlet (zs M2 160 3 (M2 149 (zi ((60 : Int32) + a2)))) fun (M3 : ZI) => if zin ((27 : Int32) + a2) 2064 = true then zlet (zs M3 160 4 (M3 149 (zi ((27 : Int32) + a2)))) fun (M4 : ZI) => if zin ((37 : Int32) + a2) 2064 = true then zlet (zs M4 160 5 (M4 149 (zi ((37 : Int32) + a2)))) fun (M5 : ZI) => zlet (zs M5 160 6 (M5 149 1)) fun (M6 : ZI) => zlet (zs M6 160 7 (M6 149 0)) fun (M7 : ZI) => if zin ((7 : Int32) + a2) 2064 = true then (f209_count (M7 149 (zi ((7 : Int32) + a2)))).bind fun v8 => zlet (zs M7 160 8 v8) fun (M9 : ZI) => zlet (zs M9 160 9 a3) fun (M10 : ZI) => f208_l123 a1 a4 a5 zfu (0 : Int32) M10 else none else none else none else none else none

def f207_weightOf (a1 : Int32) (M : ZI) : Option (Int32 × ZI) :=
  (f208_says (20 : Int32) a1 (0 : Int32) (1 : Int32) (24 : Int32) M).bind fun (v1, M2) => some (v1, M2)

def f206_l4 (a1 : Int32) : Nat → Int32 → Int32 → ZI → Option (Int32 × ZI)
  | 0, _, _, _ => none
  | n + 1, x1, x2, M3 =>
  (if x2 < (M3 149 48) then if zin ((80 : Int32) + x2) 2064 = true then (if (M3 149 (zi ((80 : Int32) + x2))) = a1 then (f207_weightOf x2 M3).bind fun (v5, M6) => zlet (x1 + v5) fun (x7 : Int32) => f206_l4 a1 n x7 (x2 + (1 : Int32)) M6 else zlet (x1 + (0 : Int32)) fun (x4 : Int32) => f206_l4 a1 n x4 (x2 + (1 : Int32)) M3) else none else some (x1, M3))

def f206_sumFor (a1 : Int32) (M : ZI) : Option (Int32 × ZI) :=
  (f206_l4 a1 zfu (0 : Int32) (0 : Int32) M).bind fun (x8, M9) =>
  some (x8, M9)

def f214_l4 (a1 : Int32) (M : ZI) : Nat → Int32 → Int32 → Option (Int32)
  | 0, _, _ => none
  | n + 1, x1, x2 =>
  (if x2 < (M 149 48) then if zin ((80 : Int32) + x2) 2064 = true then (if (M 149 (zi ((80 : Int32) + x2))) = a1 then zlet (x1 ||| (zshl (1 : Int32) x2)) fun (x4 : Int32) => f214_l4 a1 M n x4 (x2 + (1 : Int32)) else zlet (x1 ||| (0 : Int32)) fun (x3 : Int32) => f214_l4 a1 M n x3 (x2 + (1 : Int32))) else none else some x1)

def f214_voicesFor (a1 : Int32) (M : ZI) : Option Int32 :=
  (f214_l4 a1 M zfu (0 : Int32) (0 : Int32)).bind fun x5 =>
  some x5

def f215_l4 (a1 : Int32) : Nat → Int32 → Int32 → ZI → Option (Int32 × ZI)
  | 0, _, _, _ => none
  | n + 1, x1, x2, M4 =>
  (if x2 < (M4 149 54) then if zin ((162 : Int32) + x2) 2064 = true then zlet (M4 149 (zi ((162 : Int32) + x2))) fun (x5 : Int32) => (if x5 < (40 : Int32) then (if x5 < (20 : Int32) then if zin x1 420 = true then zlet (zs M4 159 (zi x1) ((zshr a1 x5) &&& (1 : Int32))) fun (M11 : ZI) => f215_l4 a1 n (x1 + (1 : Int32)) (x2 + (1 : Int32)) M11 else none else (f209_count a1).bind fun v8 => (if v8 < (x5 - (20 : Int32)) then if zin x1 420 = true then zlet (zs M4 159 (zi x1) (0 : Int32)) fun (M9 : ZI) => f215_l4 a1 n (x1 + (1 : Int32)) (x2 + (1 : Int32)) M9 else none else if zin x1 420 = true then zlet (zs M4 159 (zi x1) (1 : Int32)) fun (M10 : ZI) => f215_l4 a1 n (x1 + (1 : Int32)) (x2 + (1 : Int32)) M10 else none)) else (if x5 = (40 : Int32) then if zin ((x1 + (-1 : Int32)) - (1 : Int32)) 420 = true then if zin (x1 + (-1 : Int32)) 420 = true then if zin ((x1 + (-1 : Int32)) - (1 : Int32)) 420 = true then zlet (zs M4 159 (zi ((x1 + (-1 : Int32)) - (1 : Int32))) ((M4 159 (zi ((x1 + (-1 : Int32)) - (1 : Int32)))) &&& (M4 159 (zi (x1 + (-1 : Int32)))))) fun (M7 : ZI) => f215_l4 a1 n (x1 + (-1 : Int32)) (x2 + (1 : Int32)) M7 else none else none else none else if zin ((x1 + (-1 : Int32)) - (1 : Int32)) 420 = true then if zin (x1 + (-1 : Int32)) 420 = true then if zin ((x1 + (-1 : Int32)) - (1 : Int32)) 420 = true then zlet (zs M4 159 (zi ((x1 + (-1 : Int32)) - (1 : Int32))) ((M4 159 (zi ((x1 + (-1 : Int32)) - (1 : Int32)))) ||| (M4 159 (zi (x1 + (-1 : Int32)))))) fun (M6 : ZI) => f215_l4 a1 n (x1 + (-1 : Int32)) (x2 + (1 : Int32)) M6 else none else none else none)) else none else some (x1, M4))

def f215_satisfies (a1 : Int32) (M : ZI) : Option (Int32 × ZI) :=
  (f215_l4 a1 zfu (0 : Int32) (0 : Int32) M).bind fun (x12, M13) =>
  (if x12 = 0 then some ((1 : Int32), M13) else (if (M13 159 0) = (1 : Int32) then some ((1 : Int32), M13) else some ((0 : Int32), M13)))

def f216_isBefore (a1 : Int32) (a2 : Int32) (M : ZI) : Option (Int32 × ZI) :=
  (if a2 = (-1 : Int32) then some ((1 : Int32), M) else (f206_sumFor a1 M).bind fun (v1, M2) => (f206_sumFor a2 M2).bind fun (v3, M4) => zlet (v1 - v3) fun (x5 : Int32) => (if 0 < x5 then some ((1 : Int32), M4) else (if x5 = 0 then if zin ((60 : Int32) + a1) 2064 = true then if zin ((60 : Int32) + a2) 2064 = true then (if (M4 149 (zi ((60 : Int32) + a2))) < (M4 149 (zi ((60 : Int32) + a1))) then some ((1 : Int32), M4) else some ((0 : Int32), M4)) else none else none else some ((0 : Int32), M4))))

def f205_l4  : Nat → Int32 → Int32 → ZI → Option (Int32 × ZI)
  | 0, _, _, _ => none
  | n + 1, x1, x2, M3 =>
  (if x2 < (M3 149 48) then (f206_sumFor x2 M3).bind fun (v4, M5) => (if 0 < v4 then (f214_voicesFor x2 M5).bind fun v6 => (f215_satisfies v6 M5).bind fun (v7, M8) => (if v7 = 0 then f205_l4 n x1 (x2 + (1 : Int32)) M8 else (f216_isBefore x2 x1 M8).bind fun (v9, M10) => (if v9 = 0 then f205_l4 n x1 (x2 + (1 : Int32)) M10 else f205_l4 n x2 (x2 + (1 : Int32)) M10)) else f205_l4 n x1 (x2 + (1 : Int32)) M5) else some (x1, M3))

def f205_givenNow (M : ZI) : Option (Int32 × ZI) :=
  (f205_l4 zfu (-1 : Int32) (0 : Int32) M).bind fun (x11, M12) =>
  some (x11, M12)

def f217_notes (a1 : Int32) (a2 : Int32) (a3 : Int32) (M : ZI) : Option ZI :=
  (if (M 148 30) = 0 then some M else (if (M 149 5) = (150 : Int32) then some M else zlet ((578 : Int32) + ((4 : Int32) * (M 149 5))) fun (x1 : Int32) => if zin x1 2064 = true then zlet (zs M 149 (zi x1) (M 149 0)) fun (M2 : ZI) => if zin (x1 + (1 : Int32)) 2064 = true then zlet (zs M2 149 (zi (x1 + (1 : Int32))) a1) fun (M3 : ZI) => if zin (x1 + (2 : Int32)) 2064 = true then zlet (zs M3 149 (zi (x1 + (2 : Int32))) a2) fun (M4 : ZI) => if zin (x1 + (3 : Int32)) 2064 = true then zlet (zs M4 149 (zi (x1 + (3 : Int32))) a3) fun (M5 : ZI) => zlet (zs M5 149 5 ((M5 149 5) + (1 : Int32))) fun (M6 : ZI) => some M6 else none else none else none else none))

def f219_hoursNow (M : ZI) : Option Int32 :=
  some ((24 : Int32) - (M 149 1))

def f222_ofWork (a1 : Int32) (a2 : Int32) (M : ZI) : Option Int32 :=
  if zin (((90 : Int32) + ((6 : Int32) * a1)) + a2) 2064 = true then some (M 149 (zi (((90 : Int32) + ((6 : Int32) * a1)) + a2))) else none

def f221_l5 (a1 : Int32) (a2 : Int32) (M : ZI) : Nat → Int32 → Int32 → Option (Int32)
  | 0, _, _ => none
  | n + 1, x1, x2 =>
  (if x2 < (M 149 52) then (if ((zshr a1 x2) &&& (1 : Int32)) = (1 : Int32) then (f222_ofWork x2 a2 M).bind fun v4 => zlet (x1 + v4) fun (x5 : Int32) => f221_l5 a1 a2 M n x5 (x2 + (1 : Int32)) else zlet (x1 + (0 : Int32)) fun (x3 : Int32) => f221_l5 a1 a2 M n x3 (x2 + (1 : Int32))) else some x1)

def f221_sumOf (a1 : Int32) (a2 : Int32) (M : ZI) : Option Int32 :=
  (f221_l5 a1 a2 M zfu (0 : Int32) (0 : Int32)).bind fun x6 =>
  some x6

def f224_isDone (a1 : Int32) (M : ZI) : Option Int32 :=
  (if ((zshr (M 149 6) a1) &&& (1 : Int32)) = (1 : Int32) then some (1 : Int32) else some (0 : Int32))

def f223_l2 (a1 : Int32) (a2 : Int32) (M : ZI) : Nat → Int32 → Option Int32
  | 0, _ => none
  | n + 1, x1 =>
  (if x1 < (M 149 52) then (if ((zshr a1 x1) &&& (1 : Int32)) = 0 then f223_l2 a1 a2 M n (x1 + (1 : Int32)) else (f222_ofWork x1 (5 : Int32) M).bind fun v3 => (f222_ofWork x1 (0 : Int32) M).bind fun v4 => (if v4 = a2 then (if v3 = (-1 : Int32) then f223_l2 a1 a2 M n (x1 + (1 : Int32)) else (f224_isDone v3 M).bind fun v5 => (if v5 = 0 then (if ((zshr a1 v3) &&& (1 : Int32)) = 0 then some (0 : Int32) else f223_l2 a1 a2 M n (x1 + (1 : Int32))) else f223_l2 a1 a2 M n (x1 + (1 : Int32)))) else some (0 : Int32))) else some (1 : Int32))

def f223_goTogether (a1 : Int32) (a2 : Int32) (M : ZI) : Option Int32 :=
  f223_l2 a1 a2 M zfu (0 : Int32)

def f220_l5 (a1 : Int32) (a2 : Int32) (M : ZI) : Nat → Int32 → Int32 → Option (Int32)
  | 0, _, _ => none
  | n + 1, x1, x2 =>
  (if x2 < (zshl (1 : Int32) (M 149 52)) then (if (x2 &&& (M 149 6)) = 0 then (f221_sumOf x2 (1 : Int32) M).bind fun v4 => (if a2 < v4 then f220_l5 a1 a2 M n x1 (x2 + (1 : Int32)) else (f223_goTogether x2 a1 M).bind fun v5 => (if v5 = 0 then f220_l5 a1 a2 M n x1 (x2 + (1 : Int32)) else (f221_sumOf x2 (2 : Int32) M).bind fun v6 => (f221_sumOf x1 (2 : Int32) M).bind fun v7 => zlet (v6 - v7) fun (x8 : Int32) => (if 0 < x8 then f220_l5 a1 a2 M n x2 (x2 + (1 : Int32)) else (if x8 = 0 then (f221_sumOf x2 (1 : Int32) M).bind fun v9 => (f221_sumOf x1 (1 : Int32) M).bind fun v10 => (if v9 < v10 then f220_l5 a1 a2 M n x2 (x2 + (1 : Int32)) else f220_l5 a1 a2 M n x1 (x2 + (1 : Int32))) else f220_l5 a1 a2 M n x1 (x2 + (1 : Int32)))))) else f220_l5 a1 a2 M n x1 (x2 + (1 : Int32))) else some x1)

def f220_planOf (a1 : Int32) (a2 : Int32) (M : ZI) : Option Int32 :=
  (f220_l5 a1 a2 M zfu (0 : Int32) (1 : Int32)).bind fun x11 =>
  some x11

def f225_wearOf (a1 : Int32) (a2 : Int32) (M : ZI) : Option (Int32 × ZI) :=
  (f208_says (21 : Int32) a1 a2 (a2 / (8 : Int32)) (24 : Int32) M).bind fun (v1, M2) => some (v1, M2)

def f226_noticeOf (a1 : Int32) (a2 : Int32) (M : ZI) : Option (Int32 × ZI) :=
  (f208_says (22 : Int32) a1 a2 (100 : Int32) (1000 : Int32) M).bind fun (v1, M2) => some (v1, M2)

def f227_draw (a1 : Int32) (M : ZI) : Option (Int32 × ZI) :=
  zlet (zs M 149 4 (((1664525 : Int32) * (M 149 4)) + (1013904223 : Int32))) fun (M1 : ZI) => if a1 = 0 then none else some ((zrem (zushr (M1 149 4) (8 : Int32)) a1), M1)

def f218_l69 (v2 : Int32) : Nat → Int32 → ZI → Option (ZI)
  | 0, _, _ => none
  | n + 1, x12, M13 =>
  (if x12 < (M13 149 52) then (if ((zshr v2 x12) &&& (1 : Int32)) = (1 : Int32) then (f222_ofWork x12 (1 : Int32) M13).bind fun v14 => (f217_notes (3 : Int32) x12 v14 M13).bind fun M15 => f218_l69 v2 n (x12 + (1 : Int32)) M15 else f218_l69 v2 n (x12 + (1 : Int32)) M13) else some M13)

def f218_gets (a1 : Int32) (M : ZI) : Option ZI :=
  (f219_hoursNow M).bind fun v1 => (f220_planOf a1 v1 M).bind fun v2 => (f221_sumOf v2 (1 : Int32) M).bind fun v3 => zlet (zs M 149 6 ((M 149 6) ||| v2)) fun (M4 : ZI) => (f221_sumOf v2 (2 : Int32) M4).bind fun v5 => zlet (zs M4 149 3 ((M4 149 3) + v5)) fun (M6 : ZI) => (f225_wearOf a1 v3 M6).bind fun (v7, M8) => (f226_noticeOf a1 v3 M8).bind fun (v9, M10) => (f217_notes (0 : Int32) a1 v3 M10).bind fun M11 => (f218_l69 v2 zfu (0 : Int32) M11).bind fun M16 =>
  if zin ((27 : Int32) + a1) 2064 = true then if zin ((27 : Int32) + a1) 2064 = true then zlet (zs M16 149 (zi ((27 : Int32) + a1)) ((M16 149 (zi ((27 : Int32) + a1))) + (1 : Int32))) fun (M18 : ZI) => if zin ((37 : Int32) + a1) 2064 = true then zlet (zs M18 149 (zi ((37 : Int32) + a1)) (-1 : Int32)) fun (M19 : ZI) => (f202_lesser (24 : Int32) ((M19 149 1) + v7)).bind fun v20 => zlet (zs M19 149 1 v20) fun (M21 : ZI) => (if (M21 148 30) = 0 then some M21 else (f227_draw (1000 : Int32) M21).bind fun (v22, M23) => (if v22 < v9 then zlet (zs M23 149 2 ((M23 149 2) + (1 : Int32))) fun (M24 : ZI) => (f217_notes (4 : Int32) a1 (0 : Int32) M24).bind fun M25 => some M25 else some M23)) else none else none else none

def f204_l93  : Nat → Int32 → ZI → Option (ZI)
  | 0, _, _ => none
  | n + 1, x13, M14 =>
  (if x13 < (M14 149 48) then if zin ((37 : Int32) + x13) 2064 = true then if zin ((37 : Int32) + x13) 2064 = true then zlet (zs M14 149 (zi ((37 : Int32) + x13)) ((M14 149 (zi ((37 : Int32) + x13))) + (1 : Int32))) fun (M15 : ZI) => if zin ((17 : Int32) + x13) 2064 = true then (f202_lesser (99 : Int32) ((M15 149 (zi ((17 : Int32) + x13))) + (1 : Int32))).bind fun v16 => if zin ((17 : Int32) + x13) 2064 = true then zlet (zs M15 149 (zi ((17 : Int32) + x13)) v16) fun (M17 : ZI) => f204_l93 n (x13 + (1 : Int32)) M17 else none else none else none else none else some M14)

def f204_aYear (M : ZI) : Option (Int32 × ZI) :=
  ((if (M 149 1) < (M 149 50) then some (0 : Int32) else some (1 : Int32)) : Option (Int32)).bind fun v1 =>
  ((if v1 = 0 then (f205_givenNow M).bind fun (v2, M3) => some (v2, M3) else some ((-1 : Int32), M)) : Option (Int32 × ZI)).bind fun (v4, M5) =>
  ((if v1 = 0 then some M5 else (f213_greater (0 : Int32) ((M5 149 1) - (M5 149 49))).bind fun v6 => zlet (zs M5 149 1 v6) fun (M7 : ZI) => some M7) : Option (ZI)).bind fun M8 =>
  ((if v4 = (-1 : Int32) then ((if v1 = 0 then some (2 : Int32) else some (1 : Int32)) : Option (Int32)).bind fun v10 =>
  (f217_notes v10 (-1 : Int32) (0 : Int32) M8).bind fun M11 => some M11 else (f218_gets v4 M8).bind fun M9 => some M9) : Option (ZI)).bind fun M12 =>
  (f204_l93 zfu (0 : Int32) M12).bind fun M18 =>
  zlet (zs M18 149 0 ((M18 149 0) + (1 : Int32))) fun (M20 : ZI) => some (v4, M20)

def f203_l35 (a1 : Int32) : Nat → Int32 → Int32 → ZI → Option (Int32 × ZI)
  | 0, _, _, _ => none
  | n + 1, x3, x4, M5 =>
  (if x4 < a1 then (f200_keeps M5).bind fun M6 => (f204_aYear M6).bind fun (v7, M8) => (if v7 = (-1 : Int32) then zlet (x3 + (0 : Int32)) fun (x9 : Int32) => f203_l35 a1 n x9 (x4 + (1 : Int32)) M8 else zlet (x3 + (1 : Int32)) fun (x10 : Int32) => f203_l35 a1 n x10 (x4 + (1 : Int32)) M8) else some (x3, M5))

def f203_years (a1 : Int32) (M : ZI) : Option (Int32 × ZI) :=
  (f149_isIn a1 (1 : Int32) (40 : Int32)).bind fun v1 => (if v1 = 0 then some ((-1 : Int32), M) else (if (999 : Int32) < ((M 149 0) + a1) then some ((-1 : Int32), M) else zlet (zs M 148 30 (1 : Int32)) fun (M2 : ZI) => (f203_l35 a1 zfu (0 : Int32) (0 : Int32) M2).bind fun (x11, M12) =>
  some (x11, M12)))

def f228_plan (a1 : Int32) (a2 : Int32) (a3 : Int32) (M : ZI) : Option Int32 :=
  (f152_isPerson a1 M).bind fun v1 => (if v1 = 0 then some (-1 : Int32) else (f149_isIn a2 (0 : Int32) (24 : Int32)).bind fun v2 => (if v2 = 0 then some (-1 : Int32) else (f149_isIn a3 (0 : Int32) (2 : Int32)).bind fun v3 => (if v3 = 0 then some (-1 : Int32) else (f220_planOf a1 a2 M).bind fun v4 => (if a3 = 0 then (f221_sumOf v4 (2 : Int32) M).bind fun v6 => some v6 else (if a3 = (1 : Int32) then (f221_sumOf v4 (1 : Int32) M).bind fun v5 => some v5 else some v4)))))

def f229_of (a1 : Int32) (a2 : Int32) (M : ZI) : Option (Int32 × ZI) :=
  (f152_isPerson a1 M).bind fun v1 => (if v1 = 0 then some ((-2 : Int32), M) else (if a2 = (0 : Int32) then if zin ((17 : Int32) + a1) 2064 = true then some ((M 149 (zi ((17 : Int32) + a1))), M) else none else if a2 = (1 : Int32) then if zin ((60 : Int32) + a1) 2064 = true then some ((M 149 (zi ((60 : Int32) + a1))), M) else none else if a2 = (2 : Int32) then if zin ((70 : Int32) + a1) 2064 = true then some ((M 149 (zi ((70 : Int32) + a1))), M) else none else if a2 = (3 : Int32) then if zin ((27 : Int32) + a1) 2064 = true then some ((M 149 (zi ((27 : Int32) + a1))), M) else none else if a2 = (4 : Int32) then if zin ((37 : Int32) + a1) 2064 = true then some ((M 149 (zi ((37 : Int32) + a1))), M) else none else if a2 = (5 : Int32) then if zin ((80 : Int32) + a1) 2064 = true then some ((M 149 (zi ((80 : Int32) + a1))), M) else none else if a2 = (6 : Int32) then if zin ((7 : Int32) + a1) 2064 = true then some ((M 149 (zi ((7 : Int32) + a1))), M) else none else if a2 = (7 : Int32) then (f207_weightOf a1 M).bind fun (v2, M3) => some (v2, M3) else if a2 = (8 : Int32) then (f206_sumFor a1 M).bind fun (v4, M5) => some (v4, M5) else some ((-2 : Int32), M)))

def f230_after (a1 : Int32) (a2 : Int32) (a3 : Int32) (M : ZI) : Option (Int32 × ZI) :=
  (f152_isPerson a1 M).bind fun v1 => (if v1 = 0 then some ((-1 : Int32), M) else (f149_isIn a2 (0 : Int32) (24 : Int32)).bind fun v2 => (if v2 = 0 then some ((-1 : Int32), M) else (if a3 = 0 then (f225_wearOf a1 a2 M).bind fun (v3, M4) => some (v3, M4) else (f226_noticeOf a1 a2 M).bind fun (v5, M6) => some (v5, M6))))

def f231_work (a1 : Int32) (a2 : Int32) (M : ZI) : Option Int32 :=
  (f149_isIn a1 (0 : Int32) ((M 149 52) - (1 : Int32))).bind fun v1 => (if v1 = 0 then some (-2 : Int32) else (f149_isIn a2 (0 : Int32) (6 : Int32)).bind fun v2 => (if v2 = 0 then some (-2 : Int32) else (if a2 < (6 : Int32) then (f222_ofWork a1 a2 M).bind fun v4 => some v4 else (f224_isDone a1 M).bind fun v3 => (if v3 = 0 then some (0 : Int32) else some (1 : Int32)))))

def f232_book (a1 : Int32) (a2 : Int32) (M : ZI) : Option Int32 :=
  (f149_isIn a1 (0 : Int32) ((M 149 5) - (1 : Int32))).bind fun v1 => (if v1 = 0 then some (-2 : Int32) else (f149_isIn a2 (0 : Int32) (3 : Int32)).bind fun v2 => (if v2 = 0 then some (-2 : Int32) else if zin (((578 : Int32) + ((4 : Int32) * a1)) + a2) 2064 = true then some (M 149 (zi (((578 : Int32) + ((4 : Int32) * a1)) + a2))) else none))

def f234_all (M : ZI) : Option Int32 :=
  some ((zshl (1 : Int32) (M 149 48)) - (1 : Int32))

def f233_does (a1 : Int32) (M : ZI) : Option (Int32 × ZI) :=
  (f234_all M).bind fun v1 => (f215_satisfies (a1 &&& v1) M).bind fun (v2, M3) => if zbl v2 = true then some (v2, M3) else none

def f235_l24  : Nat → Int32 → ZI → Option (ZI)
  | 0, _, _ => none
  | n + 1, x3, M4 =>
  (if x3 < (48 : Int32) then if zin x3 2064 = true then if zin x3 48 = true then zlet (zs M4 152 (zi x3) (M4 149 (zi x3))) fun (M5 : ZI) => f235_l24 n (x3 + (1 : Int32)) M5 else none else none else some M4)

def f235_l61 (a1 : Int32) : Nat → Int32 → Int32 → Int32 → ZI → Option (Int32 × Int32 × ZI)
  | 0, _, _, _, _ => none
  | n + 1, x9, x10, x11, M12 =>
  (if x11 < a1 then ((if (M12 149 1) < (M12 149 50) then some (0 : Int32) else some (1 : Int32)) : Option (Int32)).bind fun v13 =>
  zlet (x9 + v13) fun (x14 : Int32) => (f204_aYear M12).bind fun (v15, M16) => f235_l61 a1 n x14 v15 (x11 + (1 : Int32)) M16 else some (x9, x10, M12))

def f235_l121  : Nat → Int32 → ZI → Option (ZI)
  | 0, _, _ => none
  | n + 1, x22, M23 =>
  (if x22 < (48 : Int32) then if zin x22 48 = true then if zin x22 2064 = true then zlet (zs M23 149 (zi x22) (M23 152 (zi x22))) fun (M24 : ZI) => f235_l121 n (x22 + (1 : Int32)) M24 else none else none else some M23)

def f235_given (a1 : Int32) (a2 : Int32) (M : ZI) : Option (Int32 × ZI) :=
  (f149_isIn a1 (1 : Int32) (40 : Int32)).bind fun v1 => (if v1 = 0 then some ((-2 : Int32), M) else (f149_isIn a2 (0 : Int32) (2 : Int32)).bind fun v2 => (if v2 = 0 then some ((-2 : Int32), M) else (f235_l24 zfu (0 : Int32) M).bind fun M6 =>
  zlet (zs M6 148 30 (0 : Int32)) fun (M8 : ZI) => (f235_l61 a1 zfu (0 : Int32) (-1 : Int32) (0 : Int32) M8).bind fun (x17, x18, M19) =>
  zlet ((M19 149 3) - (M19 152 3)) fun (x21 : Int32) => (f235_l121 zfu (0 : Int32) M19).bind fun M25 =>
  (if a2 = 0 then some (x18, M25) else (if a2 = (1 : Int32) then some (x17, M25) else some (x21, M25)))))

def f236_l12  : Nat → Int32 → ZI → Option (ZI)
  | 0, _, _ => none
  | n + 1, x2, M3 =>
  (if x2 < (48 : Int32) then if zin x2 2064 = true then if zin x2 48 = true then zlet (zs M3 152 (zi x2) (M3 149 (zi x2))) fun (M4 : ZI) => f236_l12 n (x2 + (1 : Int32)) M4 else none else none else some M3)

def f236_l45 (a1 : Int32) : Nat → Int32 → Int32 → ZI → Option (Int32 × ZI)
  | 0, _, _, _ => none
  | n + 1, x8, x9, M10 =>
  (if x9 < (40 : Int32) then (if x8 = (-1 : Int32) then (f204_aYear M10).bind fun (v11, M12) => (if v11 = a1 then f236_l45 a1 n x9 (x9 + (1 : Int32)) M12 else f236_l45 a1 n (-1 : Int32) (x9 + (1 : Int32)) M12) else some (x8, M10)) else some (x8, M10))

def f236_l78  : Nat → Int32 → ZI → Option (ZI)
  | 0, _, _ => none
  | n + 1, x16, M17 =>
  (if x16 < (48 : Int32) then if zin x16 48 = true then if zin x16 2064 = true then zlet (zs M17 149 (zi x16) (M17 152 (zi x16))) fun (M18 : ZI) => f236_l78 n (x16 + (1 : Int32)) M18 else none else none else some M17)

def f236_soonest (a1 : Int32) (M : ZI) : Option (Int32 × ZI) :=
  (f152_isPerson a1 M).bind fun v1 => (if v1 = 0 then some ((-1 : Int32), M) else (f236_l12 zfu (0 : Int32) M).bind fun M5 =>
  zlet (zs M5 148 30 (0 : Int32)) fun (M7 : ZI) => (f236_l45 a1 zfu (-1 : Int32) (0 : Int32) M7).bind fun (x13, M14) =>
  (f236_l78 zfu (0 : Int32) M14).bind fun M19 =>
  some (x13, M19))

def f238_isNeedier (a1 : Int32) (a2 : Int32) (M : ZI) : Option Int32 :=
  (if a2 = (-1 : Int32) then some (1 : Int32) else if zin ((60 : Int32) + a1) 2064 = true then if zin ((60 : Int32) + a2) 2064 = true then zlet ((M 149 (zi ((60 : Int32) + a1))) - (M 149 (zi ((60 : Int32) + a2)))) fun (x1 : Int32) => (if 0 < x1 then some (1 : Int32) else (if x1 = 0 then if zin ((17 : Int32) + a1) 2064 = true then if zin ((17 : Int32) + a2) 2064 = true then (if (M 149 (zi ((17 : Int32) + a2))) < (M 149 (zi ((17 : Int32) + a1))) then some (1 : Int32) else some (0 : Int32)) else none else none else some (0 : Int32))) else none else none)

def f237_l4 (M : ZI) : Nat → Int32 → Int32 → Option (Int32)
  | 0, _, _ => none
  | n + 1, x1, x2 =>
  (if x2 < (M 149 48) then if zin ((27 : Int32) + x2) 2064 = true then (if (M 149 (zi ((27 : Int32) + x2))) = 0 then (f238_isNeedier x2 x1 M).bind fun v3 => (if v3 = 0 then f237_l4 M n x1 (x2 + (1 : Int32)) else f237_l4 M n x2 (x2 + (1 : Int32))) else f237_l4 M n x1 (x2 + (1 : Int32))) else none else some x1)

def f237_next (M : ZI) : Option Int32 :=
  (f237_l4 M zfu (-1 : Int32) (0 : Int32)).bind fun x4 =>
  some x4

def f239_l20 (M : ZI) : Nat → Int32 → Int32 → Int32 → Option (Int32 × Int32)
  | 0, _, _, _ => none
  | n + 1, x2, x3, x4 =>
  (if x4 < (M 149 48) then if zin ((27 : Int32) + x4) 2064 = true then (if 0 < (M 149 (zi ((27 : Int32) + x4))) then f239_l20 M n x2 x3 (x4 + (1 : Int32)) else if zin ((60 : Int32) + x4) 2064 = true then zlet (x2 + (M 149 (zi ((60 : Int32) + x4)))) fun (x5 : Int32) => if zin ((70 : Int32) + x4) 2064 = true then (if (M 149 (zi ((70 : Int32) + x4))) < (M 149 0) then f239_l20 M n x5 x3 (x4 + (1 : Int32)) else if zin ((70 : Int32) + x4) 2064 = true then (f202_lesser x3 ((M 149 (zi ((70 : Int32) + x4))) - (M 149 0))).bind fun v6 => f239_l20 M n x5 v6 (x4 + (1 : Int32)) else none) else none else none) else none else some (x2, x3))

def f239_due (a1 : Int32) (M : ZI) : Option Int32 :=
  (f149_isIn a1 (0 : Int32) (1 : Int32)).bind fun v1 => (if v1 = 0 then some (-1 : Int32) else (f239_l20 M zfu (0 : Int32) (100000 : Int32) (0 : Int32)).bind fun (x7, x8) =>
  (if a1 = 0 then some x7 else (if x8 = (100000 : Int32) then some (-1 : Int32) else some x8)))

def f240_l23 (M : ZI) : Nat → Int32 → Int32 → Int32 → Int32 → Option (Int32 × Int32 × Int32)
  | 0, _, _, _, _ => none
  | n + 1, x2, x3, x4, x5 =>
  (if x5 < (M 149 48) then if zin ((27 : Int32) + x5) 2064 = true then (f202_lesser x2 (M 149 (zi ((27 : Int32) + x5)))).bind fun v6 => if zin ((27 : Int32) + x5) 2064 = true then (f213_greater x3 (M 149 (zi ((27 : Int32) + x5)))).bind fun v7 => if zin ((27 : Int32) + x5) 2064 = true then (if 0 < (M 149 (zi ((27 : Int32) + x5))) then (if x4 = (-1 : Int32) then f240_l23 M n v6 v7 x5 (x5 + (1 : Int32)) else if zin ((37 : Int32) + x5) 2064 = true then if zin ((37 : Int32) + x4) 2064 = true then (if (M 149 (zi ((37 : Int32) + x5))) < (M 149 (zi ((37 : Int32) + x4))) then f240_l23 M n v6 v7 x5 (x5 + (1 : Int32)) else f240_l23 M n v6 v7 x4 (x5 + (1 : Int32))) else none else none) else f240_l23 M n v6 v7 x4 (x5 + (1 : Int32))) else none else none else none else some (x2, x3, x4))

def f240_spread (a1 : Int32) (M : ZI) : Option Int32 :=
  (f149_isIn a1 (0 : Int32) (1 : Int32)).bind fun v1 => (if v1 = 0 then some (-1 : Int32) else (f240_l23 M zfu (100000 : Int32) (0 : Int32) (-1 : Int32) (0 : Int32)).bind fun (x8, x9, x10) =>
  (if a1 = (1 : Int32) then some x10 else (if (M 149 48) = 0 then some (0 : Int32) else some (x9 - x8))))

def f241_l25 (a1 : Int32) : Nat → Int32 → Int32 → ZI → Option (Int32 × ZI)
  | 0, _, _, _ => none
  | n + 1, x3, x4, M6 =>
  (if x4 < (M6 149 48) then (if x4 = a1 then f241_l25 a1 n x3 (x4 + (1 : Int32)) M6 else if zin ((80 : Int32) + a1) 2064 = true then zlet (zs M6 149 (zi ((80 : Int32) + a1)) x4) fun (M7 : ZI) => (f205_givenNow M7).bind fun (v8, M9) => (if v8 = (-1 : Int32) then zlet (x3 ||| (0 : Int32)) fun (x11 : Int32) => f241_l25 a1 n x11 (x4 + (1 : Int32)) M9 else zlet (x3 ||| (zshl (1 : Int32) v8)) fun (x10 : Int32) => f241_l25 a1 n x10 (x4 + (1 : Int32)) M9) else none) else some (x3, M6))

def f241_can (a1 : Int32) (M : ZI) : Option (Int32 × ZI) :=
  (f152_isPerson a1 M).bind fun v1 => (if v1 = 0 then some ((-1 : Int32), M) else if zin ((80 : Int32) + a1) 2064 = true then zlet (M 149 (zi ((80 : Int32) + a1))) fun (x2 : Int32) => (f241_l25 a1 zfu (0 : Int32) (-1 : Int32) M).bind fun (x12, M13) =>
  if zin ((80 : Int32) + a1) 2064 = true then zlet (zs M13 149 (zi ((80 : Int32) + a1)) x2) fun (M16 : ZI) => some (x12, M16) else none else none)

def f242_l24 (a1 : Int32) : Nat → Int32 → Int32 → ZI → Option (Int32 × ZI)
  | 0, _, _, _ => none
  | n + 1, x3, x4, M5 =>
  (f234_all M5).bind fun v6 => (if v6 < x4 then some (x3, M5) else (if ((zshr x4 a1) &&& (1 : Int32)) = 0 then (f215_satisfies x4 M5).bind fun (v7, M8) => (if v7 = 0 then f242_l24 a1 n x3 (x4 + (1 : Int32)) M8 else (if x3 = (-1 : Int32) then f242_l24 a1 n x4 (x4 + (1 : Int32)) M8 else (f209_count x4).bind fun v9 => (f209_count x3).bind fun v10 => (if v9 < v10 then f242_l24 a1 n x4 (x4 + (1 : Int32)) M8 else f242_l24 a1 n x3 (x4 + (1 : Int32)) M8))) else f242_l24 a1 n x3 (x4 + (1 : Int32)) M5))

def f242_fewest (a1 : Int32) (a2 : Int32) (M : ZI) : Option (Int32 × ZI) :=
  (f152_isPerson a1 M).bind fun v1 => (if v1 = 0 then some ((-1 : Int32), M) else (f149_isIn a2 (0 : Int32) (1 : Int32)).bind fun v2 => (if v2 = 0 then some ((-1 : Int32), M) else (f242_l24 a1 zfu (-1 : Int32) (0 : Int32) M).bind fun (x11, M12) =>
  (if x11 = (-1 : Int32) then some (x11, M12) else (if a2 = (1 : Int32) then some (x11, M12) else (f209_count x11).bind fun v14 => some (v14, M12)))))

def f244_l2 (a1 : Int32) : Nat → Int32 → ZI → Option (Int32 × ZI)
  | 0, _, _ => none
  | n + 1, x1, M2 =>
  (if x1 < (M2 149 48) then (if ((zshr a1 x1) &&& (1 : Int32)) = (1 : Int32) then (f215_satisfies (a1 &&& ((zshl (1 : Int32) x1) ^^^ (-1 : Int32))) M2).bind fun (v3, M4) => (if v3 = 0 then f244_l2 a1 n (x1 + (1 : Int32)) M4 else some ((0 : Int32), M4)) else f244_l2 a1 n (x1 + (1 : Int32)) M2) else some ((1 : Int32), M2))

def f244_needsAll (a1 : Int32) (M : ZI) : Option (Int32 × ZI) :=
  f244_l2 a1 zfu (0 : Int32) M

def f243_l24  : Nat → Int32 → Int32 → Int32 → Int32 → ZI → Option (Int32 × Int32 × Int32 × ZI)
  | 0, _, _, _, _, _ => none
  | n + 1, x3, x4, x5, x6, M7 =>
  (f234_all M7).bind fun v8 => (if v8 < x6 then some (x3, x4, x5, M7) else (f215_satisfies x6 M7).bind fun (v9, M10) => (if v9 = 0 then f243_l24 n x3 x4 x5 (x6 + (1 : Int32)) M10 else (f244_needsAll x6 M10).bind fun (v11, M12) => ((if v11 = 0 then some (0 : Int32) else some (1 : Int32)) : Option (Int32)).bind fun v13 =>
  zlet (x4 + v13) fun (x14 : Int32) => zlet (x5 &&& x6) fun (x15 : Int32) => f243_l24 n (x3 + (1 : Int32)) x14 x15 (x6 + (1 : Int32)) M12))

def f243_doers (a1 : Int32) (M : ZI) : Option (Int32 × ZI) :=
  (f149_isIn a1 (0 : Int32) (2 : Int32)).bind fun v1 => (if v1 = 0 then some ((-1 : Int32), M) else (f234_all M).bind fun v2 => (f243_l24 zfu (0 : Int32) (0 : Int32) v2 (0 : Int32) M).bind fun (x16, x17, x18, M19) =>
  (if a1 = 0 then some (x16, M19) else (if a1 = (1 : Int32) then some (x17, M19) else some (x18, M19))))

def f245_l14 (a1 : Int32) : Nat → Int32 → Int32 → ZI → Option (Int32 × ZI)
  | 0, _, _, _ => none
  | n + 1, x2, x3, M4 =>
  (f234_all M4).bind fun v5 => (if v5 < x3 then some (x2, M4) else (if ((zshr x3 a1) &&& (1 : Int32)) = 0 then (f215_satisfies x3 M4).bind fun (v7, M8) => (if v7 = 0 then (f215_satisfies (x3 ||| (zshl (1 : Int32) a1)) M8).bind fun (v10, M11) => (if v10 = 0 then zlet (x2 + (0 : Int32)) fun (x12 : Int32) => f245_l14 a1 n x12 (x3 + (1 : Int32)) M11 else zlet (x2 + (1 : Int32)) fun (x13 : Int32) => f245_l14 a1 n x13 (x3 + (1 : Int32)) M11) else zlet (x2 + (0 : Int32)) fun (x9 : Int32) => f245_l14 a1 n x9 (x3 + (1 : Int32)) M8) else zlet (x2 + (0 : Int32)) fun (x6 : Int32) => f245_l14 a1 n x6 (x3 + (1 : Int32)) M4))

def f245_hinge (a1 : Int32) (M : ZI) : Option (Int32 × ZI) :=
  (f152_isPerson a1 M).bind fun v1 => (if v1 = 0 then some ((-1 : Int32), M) else (f245_l14 a1 zfu (0 : Int32) (0 : Int32) M).bind fun (x14, M15) =>
  some (x14, M15))

def f248_isInTime (a1 : Int32) (a2 : Int32) (M : ZI) : Option Int32 :=
  if zin ((70 : Int32) + a1) 2064 = true then (if (M 149 (zi ((70 : Int32) + a1))) < ((M 149 0) + a2) then some (0 : Int32) else some (1 : Int32)) else none

def f247_l44 (a1 : Int32) (x1 : Int32) (x6 : Int32) (M9 : ZI) : Nat → Int32 → Int32 → Option (Int32)
  | 0, _, _ => none
  | n + 1, x12, x13 =>
  (if x13 < (M9 149 48) then (if x1 < a1 then (if ((zshr x6 x13) &&& (1 : Int32)) = (1 : Int32) then (f248_isInTime x13 x1 M9).bind fun v14 => (if v14 = 0 then f247_l44 a1 x1 x6 M9 n x12 (x13 + (1 : Int32)) else if zin (((1024 : Int32) * (x1 + (1 : Int32))) + (x6 &&& ((zshl (1 : Int32) x13) ^^^ (-1 : Int32)))) 11264 = true then (f213_greater x12 ((1 : Int32) + (M9 161 (zi (((1024 : Int32) * (x1 + (1 : Int32))) + (x6 &&& ((zshl (1 : Int32) x13) ^^^ (-1 : Int32)))))))).bind fun v15 => f247_l44 a1 x1 x6 M9 n v15 (x13 + (1 : Int32)) else none) else f247_l44 a1 x1 x6 M9 n x12 (x13 + (1 : Int32))) else some x12) else some x12)

def f247_l8 (a1 : Int32) (x1 : Int32) : Nat → Int32 → ZI → Option (ZI)
  | 0, _, _ => none
  | n + 1, x6, M9 =>
  (f234_all M9).bind fun v10 => (if v10 < x6 then some M9 else ((if x1 = a1 then some (0 : Int32) else if zin (((1024 : Int32) * (x1 + (1 : Int32))) + x6) 11264 = true then some (M9 161 (zi (((1024 : Int32) * (x1 + (1 : Int32))) + x6))) else none) : Option (Int32)).bind fun v11 =>
  (f247_l44 a1 x1 x6 M9 zfu v11 (0 : Int32)).bind fun x16 =>
  if zin (((1024 : Int32) * x1) + x6) 11264 = true then zlet (zs M9 161 (zi (((1024 : Int32) * x1) + x6)) x16) fun (M18 : ZI) => f247_l8 a1 x1 n (x6 + (1 : Int32)) M18 else none)

def f247_l2 (a1 : Int32) : Nat → Int32 → ZI → Option (ZI)
  | 0, _, _ => none
  | n + 1, x1, M5 =>
  (if x1 < 0 then some M5 else (f247_l8 a1 x1 zfu (0 : Int32) M5).bind fun M19 =>
  f247_l2 a1 n (x1 + (-1 : Int32)) M19)

def f247_laysTurns (a1 : Int32) (M : ZI) : Option ZI :=
  (f247_l2 a1 zfu a1 M).bind fun M23 =>
  some M23

def f249_l2 (a1 : Int32) (a2 : Int32) (M : ZI) : Nat → Int32 → Option Int32
  | 0, _ => none
  | n + 1, x1 =>
  (if x1 < (M 149 48) then (if ((zshr a2 x1) &&& (1 : Int32)) = (1 : Int32) then (f248_isInTime x1 a1 M).bind fun v2 => (if v2 = 0 then f249_l2 a1 a2 M n (x1 + (1 : Int32)) else if zin (((1024 : Int32) * (a1 + (1 : Int32))) + (a2 &&& ((zshl (1 : Int32) x1) ^^^ (-1 : Int32)))) 11264 = true then if zin (((1024 : Int32) * a1) + a2) 11264 = true then (if ((1 : Int32) + (M 161 (zi (((1024 : Int32) * (a1 + (1 : Int32))) + (a2 &&& ((zshl (1 : Int32) x1) ^^^ (-1 : Int32))))))) = (M 161 (zi (((1024 : Int32) * a1) + a2))) then some x1 else f249_l2 a1 a2 M n (x1 + (1 : Int32))) else none else none) else f249_l2 a1 a2 M n (x1 + (1 : Int32))) else some (-1 : Int32))

def f249_takerIn (a1 : Int32) (a2 : Int32) (M : ZI) : Option Int32 :=
  f249_l2 a1 a2 M zfu (0 : Int32)

def f246_l60 (a2 : Int32) (M2 : ZI) : Nat → Int32 → Int32 → Int32 → Option (Int32)
  | 0, _, _, _ => none
  | n + 1, x4, x5, x6 =>
  (if (a2 - (10 : Int32)) < x6 then some x5 else (f249_takerIn x6 x4 M2).bind fun v7 => (if v7 = (-1 : Int32) then zlet (x4 &&& x4) fun (x9 : Int32) => f246_l60 a2 M2 n x9 v7 (x6 + (1 : Int32)) else zlet (x4 &&& ((zshl (1 : Int32) v7) ^^^ (-1 : Int32))) fun (x8 : Int32) => f246_l60 a2 M2 n x8 v7 (x6 + (1 : Int32))))

def f246_turnsOf (a1 : Int32) (a2 : Int32) (M : ZI) : Option (Int32 × ZI) :=
  (f149_isIn a1 (1 : Int32) (10 : Int32)).bind fun v1 => (if v1 = 0 then some ((-2 : Int32), M) else zlet (fun (_ : Unit) => ((f247_laysTurns a1 M).bind fun M2 => (if a2 = 0 then (f234_all M2).bind fun v13 => if zin v13 11264 = true then some ((M2 161 (zi v13)), M2) else none else (f234_all M2).bind fun v3 => (f246_l60 a2 M2 zfu v3 (-1 : Int32) (0 : Int32)).bind fun x10 =>
  some (x10, M2)) : Option (Int32 × ZI))) fun j14 =>
  (if a2 = 0 then j14 () else (f149_isIn a2 (10 : Int32) ((9 : Int32) + a1)).bind fun v15 => (if v15 = 0 then some ((-2 : Int32), M) else j14 ())))

def f250_traces (a1 : Int32) (a2 : Int32) (M : ZI) : Option (Int32 × ZI) :=
  (f149_isIn a1 (0 : Int32) (200 : Int32)).bind fun v1 => (if v1 = 0 then some ((0 : Int32), M) else (f149_isIn a2 (0 : Int32) (200 : Int32)).bind fun v2 => (if v2 = 0 then some ((0 : Int32), M) else zlet (zs M 149 56 a1) fun (M3 : ZI) => zlet (zs M3 149 57 a2) fun (M4 : ZI) => (f147_forgets M4).bind fun M5 => some ((1 : Int32), M5)))

def f253_fitsTraces (a1 : Int32) (a2 : Int32) (M : ZI) : Option Int32 :=
  (f221_sumOf a1 (3 : Int32) M).bind fun v1 => (if v1 = (M 149 56) then (f221_sumOf a1 (4 : Int32) M).bind fun v2 => (if v2 = (M 149 57) then (f221_sumOf a1 (1 : Int32) M).bind fun v3 => (if (24 : Int32) < v3 then some (0 : Int32) else (f223_goTogether a1 a2 M).bind fun v4 => (if v4 = 0 then some (0 : Int32) else some (1 : Int32))) else some (0 : Int32)) else some (0 : Int32))

def f252_l5 (a1 : Int32) (a2 : Int32) (M : ZI) : Nat → Int32 → Int32 → Option (Int32)
  | 0, _, _ => none
  | n + 1, x1, x2 =>
  (if x2 < (zshl (1 : Int32) (M 149 52)) then (if (x2 &&& a2) = a2 then (f253_fitsTraces x2 a1 M).bind fun v4 => (if v4 = 0 then zlet (x1 + (0 : Int32)) fun (x5 : Int32) => f252_l5 a1 a2 M n x5 (x2 + (1 : Int32)) else zlet (x1 + (1 : Int32)) fun (x6 : Int32) => f252_l5 a1 a2 M n x6 (x2 + (1 : Int32))) else zlet (x1 + (0 : Int32)) fun (x3 : Int32) => f252_l5 a1 a2 M n x3 (x2 + (1 : Int32))) else some x1)

def f252_fitsWith (a1 : Int32) (a2 : Int32) (M : ZI) : Option Int32 :=
  (f252_l5 a1 a2 M zfu (0 : Int32) (0 : Int32)).bind fun x7 =>
  some x7

def f251_l32 (a1 : Int32) (M : ZI) : Nat → Int32 → Option Int32
  | 0, _ => none
  | n + 1, x3 =>
  (if x3 < (zshl (1 : Int32) (M 149 52)) then (f253_fitsTraces x3 a1 M).bind fun v4 => (if v4 = 0 then f251_l32 a1 M n (x3 + (1 : Int32)) else some x3) else some (-1 : Int32))

def f251_fits (a1 : Int32) (a2 : Int32) (M : ZI) : Option Int32 :=
  (f152_isPerson a1 M).bind fun v1 => (if v1 = 0 then some (-1 : Int32) else (f149_isIn a2 (0 : Int32) (1 : Int32)).bind fun v2 => (if v2 = 0 then some (-1 : Int32) else (if a2 = 0 then (f252_fitsWith a1 (0 : Int32) M).bind fun v5 => some v5 else f251_l32 a1 M zfu (0 : Int32))))

def f254_l4 (M : ZI) : Nat → Int32 → Int32 → Option (Int32)
  | 0, _, _ => none
  | n + 1, x1, x2 =>
  (if x2 < (M 149 48) then (f251_fits x2 (1 : Int32) M).bind fun v3 => (if v3 = (-1 : Int32) then zlet (x1 ||| (0 : Int32)) fun (x4 : Int32) => f254_l4 M n x4 (x2 + (1 : Int32)) else zlet (x1 ||| (zshl (1 : Int32) x2)) fun (x5 : Int32) => f254_l4 M n x5 (x2 + (1 : Int32))) else some x1)

def f254_thieves (M : ZI) : Option Int32 :=
  (f254_l4 M zfu (0 : Int32) (0 : Int32)).bind fun x6 =>
  some x6

def f255_l27 (a1 : Int32) (M : ZI) (v2 : Int32) : Nat → Int32 → Int32 → Int32 → Option (Int32)
  | 0, _, _, _ => none
  | n + 1, x3, x4, x5 =>
  (if x5 < (M 149 52) then (if (1 : Int32) < v2 then (f252_fitsWith a1 (zshl (1 : Int32) x5) M).bind fun v7 => (f213_greater v7 (v2 - v7)).bind fun v8 => (if v8 < x4 then (f213_greater v7 (v2 - v7)).bind fun v9 => f255_l27 a1 M v2 n x5 v9 (x5 + (1 : Int32)) else f255_l27 a1 M v2 n x3 x4 (x5 + (1 : Int32))) else some x3) else some x3)

def f255_lookAt (a1 : Int32) (M : ZI) : Option Int32 :=
  (f152_isPerson a1 M).bind fun v1 => (if v1 = 0 then some (-1 : Int32) else (f252_fitsWith a1 (0 : Int32) M).bind fun v2 => (f255_l27 a1 M v2 zfu (-1 : Int32) (100000 : Int32) (0 : Int32)).bind fun x10 =>
  some x10)

def f257_ownOf (a0 : Int32) (a1 : Int32) (a2 : Int32) : Option Int32 :=
  (f213_greater (0 : Int32) (a0 - a2)).bind fun v1 => (f202_lesser a1 v1).bind fun v2 => some v2

def f256_share (a1 : Int32) (a2 : Int32) (a3 : Int32) (M : ZI) : Option Int32 :=
  (f149_isIn a1 (0 : Int32) (48 : Int32)).bind fun v1 => (if v1 = 0 then some (-1 : Int32) else (f149_isIn a2 (0 : Int32) (48 : Int32)).bind fun v2 => (if v2 = 0 then some (-1 : Int32) else (f149_isIn a3 (0 : Int32) (1 : Int32)).bind fun v3 => (if v3 = 0 then some (-1 : Int32) else (f219_hoursNow M).bind fun v4 => (if v4 < (a1 + a2) then (f257_ownOf v4 a1 a2).bind fun v5 => (f257_ownOf v4 a2 a1).bind fun v6 => zlet ((v4 - v5) - v6) fun (x7 : Int32) => (if a3 = 0 then (f202_lesser ((2 : Int32) * a1) (((2 : Int32) * v5) + x7)).bind fun v9 => some v9 else (f202_lesser ((2 : Int32) * a2) (((2 : Int32) * v6) + x7)).bind fun v8 => some v8) else (if a3 = 0 then some ((2 : Int32) * a1) else some ((2 : Int32) * a2))))))

def f258_bid (a1 : Int32) (a2 : Int32) (M : ZI) : Option (Int32 × ZI) :=
  (if a1 = (-1 : Int32) then zlet (zs M 149 55 (0 : Int32)) fun (M6 : ZI) => some ((0 : Int32), M6) else (f152_isPerson a1 M).bind fun v1 => (if v1 = 0 then some ((-1 : Int32), M) else (f149_isIn a2 (0 : Int32) (9999 : Int32)).bind fun v2 => (if v2 = 0 then some ((-1 : Int32), M) else (if (M 149 55) = (8 : Int32) then some ((-1 : Int32), M) else if zin ((562 : Int32) + ((2 : Int32) * (M 149 55))) 2064 = true then zlet (zs M 149 (zi ((562 : Int32) + ((2 : Int32) * (M 149 55)))) a1) fun (M3 : ZI) => if zin (((562 : Int32) + ((2 : Int32) * (M3 149 55))) + (1 : Int32)) 2064 = true then zlet (zs M3 149 (zi (((562 : Int32) + ((2 : Int32) * (M3 149 55))) + (1 : Int32))) a2) fun (M4 : ZI) => zlet (zs M4 149 55 ((M4 149 55) + (1 : Int32))) fun (M5 : ZI) => some ((M5 149 55), M5) else none else none))))

def f259_l25 (M : ZI) : Nat → Int32 → Int32 → Option (Int32)
  | 0, _, _ => none
  | n + 1, x2, x3 =>
  (if x3 < (M 149 55) then if zin (((562 : Int32) + ((2 : Int32) * x3)) + (1 : Int32)) 2064 = true then if zin (((562 : Int32) + ((2 : Int32) * x2)) + (1 : Int32)) 2064 = true then (if (M 149 (zi (((562 : Int32) + ((2 : Int32) * x2)) + (1 : Int32)))) < (M 149 (zi (((562 : Int32) + ((2 : Int32) * x3)) + (1 : Int32)))) then f259_l25 M n x3 (x3 + (1 : Int32)) else f259_l25 M n x2 (x3 + (1 : Int32))) else none else none else some x2)

def f259_l80 (M : ZI) (x4 : Int32) : Nat → Int32 → Int32 → Option (Int32)
  | 0, _, _ => none
  | n + 1, x6, x7 =>
  (if x7 < (M 149 55) then (if x7 = x4 then f259_l80 M x4 n x6 (x7 + (1 : Int32)) else if zin (((562 : Int32) + ((2 : Int32) * x7)) + (1 : Int32)) 2064 = true then (f213_greater x6 (M 149 (zi (((562 : Int32) + ((2 : Int32) * x7)) + (1 : Int32))))).bind fun v8 => f259_l80 M x4 n v8 (x7 + (1 : Int32)) else none) else some x6)

def f259_sold (a1 : Int32) (M : ZI) : Option Int32 :=
  (if (M 149 55) = 0 then some (-1 : Int32) else (f149_isIn a1 (0 : Int32) (1 : Int32)).bind fun v1 => (if v1 = 0 then some (-1 : Int32) else (f259_l25 M zfu (0 : Int32) (1 : Int32)).bind fun x4 =>
  (f259_l80 M x4 zfu (0 : Int32) (0 : Int32)).bind fun x9 =>
  (if a1 = 0 then if zin ((562 : Int32) + ((2 : Int32) * x4)) 2064 = true then some (M 149 (zi ((562 : Int32) + ((2 : Int32) * x4)))) else none else some x9)))

def f260_rests (a1 : Int32) (M : ZI) : Option Int32 :=
  (f149_isIn a1 (1 : Int32) (24 : Int32)).bind fun v1 => (if v1 = 0 then some (-1 : Int32) else (f213_greater (0 : Int32) ((M 149 50) - (M 149 1))).bind fun v2 => if a1 = 0 then none else some (((v2 + a1) - (1 : Int32)) / a1))

def f261_weekday (a1 : Int32) (a2 : Int32) (a3 : Int32) (a4 : Int32) : Option Int32 :=
  (f149_isIn a1 (0 : Int32) (364 : Int32)).bind fun v1 => (if v1 = 0 then some (-1 : Int32) else (f149_isIn a2 (0 : Int32) (999 : Int32)).bind fun v2 => (if v2 = 0 then some (-1 : Int32) else (f149_isIn a3 (0 : Int32) (1 : Int32)).bind fun v3 => (if v3 = 0 then some (-1 : Int32) else (f149_isIn a4 (0 : Int32) (364 : Int32)).bind fun v4 => (if v4 = 0 then some (-1 : Int32) else (if a1 < a4 then some (zrem (((((365 : Int32) * a2) + a1) + (a3 * a2)) + (0 : Int32)) (7 : Int32)) else some (zrem (((((365 : Int32) * a2) + a1) + (a3 * a2)) + a3) (7 : Int32)))))))

def f262_l50 (M : ZI) (x4 : Int32) : Nat → Int32 → Int32 → Option (Int32)
  | 0, _, _ => none
  | n + 1, x8, x9 =>
  (if x9 < (M 149 48) then (if ((zshr x4 x9) &&& (1 : Int32)) = (1 : Int32) then if zin ((7 : Int32) + x9) 2064 = true then zlet (x8 ||| (M 149 (zi ((7 : Int32) + x9)))) fun (x11 : Int32) => f262_l50 M x4 n x11 (x9 + (1 : Int32)) else none else zlet (x8 ||| (0 : Int32)) fun (x10 : Int32) => f262_l50 M x4 n x10 (x9 + (1 : Int32))) else some x8)

def f262_l25 (a2 : Int32) (M : ZI) : Nat → Int32 → Int32 → Option Int32
  | 0, _, _ => none
  | n + 1, x4, x5 =>
  (if x5 < (10 : Int32) then (if ((zshr x4 a2) &&& (1 : Int32)) = (1 : Int32) then some x5 else (f262_l50 M x4 zfu x4 (0 : Int32)).bind fun x12 =>
  f262_l25 a2 M n x12 (x5 + (1 : Int32))) else some (-1 : Int32))

def f262_way (a1 : Int32) (a2 : Int32) (M : ZI) : Option Int32 :=
  (f152_isPerson a1 M).bind fun v1 => (if v1 = 0 then some (-1 : Int32) else (f152_isPerson a2 M).bind fun v2 => (if v2 = 0 then some (-1 : Int32) else zlet (zshl (1 : Int32) a1) fun (x3 : Int32) => f262_l25 a2 M zfu x3 (0 : Int32)))

def f264_l2 (a1 : Int32) (M : ZI) : Nat → Int32 → Option Int32
  | 0, _ => none
  | n + 1, x1 =>
  (if x1 < (M 149 48) then (if ((zshr a1 x1) &&& (1 : Int32)) = (1 : Int32) then if zin ((7 : Int32) + x1) 2064 = true then (if ((a1 &&& ((zshl (1 : Int32) x1) ^^^ (-1 : Int32))) &&& ((M 149 (zi ((7 : Int32) + x1))) ^^^ (-1 : Int32))) = 0 then f264_l2 a1 M n (x1 + (1 : Int32)) else some (0 : Int32)) else none else f264_l2 a1 M n (x1 + (1 : Int32))) else some (1 : Int32))

def f264_isClique (a1 : Int32) (M : ZI) : Option Int32 :=
  f264_l2 a1 M zfu (0 : Int32)

def f263_l15 (M : ZI) : Nat → Int32 → Int32 → Option (Int32)
  | 0, _, _ => none
  | n + 1, x2, x3 =>
  (f234_all M).bind fun v4 => (if v4 < x3 then some x2 else (f209_count x3).bind fun v5 => (f209_count x2).bind fun v6 => (if v6 < v5 then (f264_isClique x3 M).bind fun v7 => (if v7 = 0 then f263_l15 M n x2 (x3 + (1 : Int32)) else f263_l15 M n x3 (x3 + (1 : Int32))) else f263_l15 M n x2 (x3 + (1 : Int32))))

def f263_clique (a1 : Int32) (M : ZI) : Option Int32 :=
  (f149_isIn a1 (0 : Int32) (1 : Int32)).bind fun v1 => (if v1 = 0 then some (-1 : Int32) else (f263_l15 M zfu (0 : Int32) (1 : Int32)).bind fun x8 =>
  (if a1 = 0 then (f209_count x8).bind fun v10 => some v10 else some x8))

def f265_l15 (a1 : Int32) : Nat → Int32 → ZI → Option (ZI)
  | 0, _, _ => none
  | n + 1, x1, M2 =>
  (if x1 < (2064 : Int32) then (if a1 = 0 then if zin x1 2064 = true then if zin x1 2064 = true then zlet (zs M2 149 (zi x1) (M2 150 (zi x1))) fun (M3 : ZI) => f265_l15 a1 n (x1 + (1 : Int32)) M3 else none else none else if zin x1 2064 = true then if zin x1 2064 = true then zlet (zs M2 150 (zi x1) (M2 149 (zi x1))) fun (M4 : ZI) => f265_l15 a1 n (x1 + (1 : Int32)) M4 else none else none) else some M2)

def f265_image (a1 : Int32) (M : ZI) : Option (Int32 × ZI) :=
  zlet (fun (_ : Unit) => ((f265_l15 a1 zfu (0 : Int32) M).bind fun M5 =>
  (if a1 = 0 then (f147_forgets M5).bind fun M8 => zlet (zs M8 148 5 (1 : Int32)) fun (M9 : ZI) => some ((1 : Int32), M9) else zlet (zs M5 148 5 (1 : Int32)) fun (M7 : ZI) => some ((1 : Int32), M7)) : Option (Int32 × ZI))) fun j10 =>
  (if a1 = 0 then (if (M 148 5) = 0 then some ((0 : Int32), M) else j10 ()) else j10 ())

def f266_look (a1 : Int32) (M : ZI) : Option (Int32 × ZI) :=
  (if a1 = (0 : Int32) then some ((M 149 48), M) else if a1 = (1 : Int32) then some ((M 149 0), M) else if a1 = (2 : Int32) then some ((M 149 1), M) else if a1 = (3 : Int32) then some ((M 149 49), M) else if a1 = (4 : Int32) then some ((M 149 50), M) else if a1 = (5 : Int32) then some ((M 149 2), M) else if a1 = (6 : Int32) then some ((M 149 3), M) else if a1 = (7 : Int32) then some ((M 149 5), M) else if a1 = (8 : Int32) then some ((M 149 4), M) else if a1 = (9 : Int32) then some ((M 149 58), M) else if a1 = (10 : Int32) then some ((M 149 51), M) else if a1 = (11 : Int32) then some ((M 149 52), M) else if a1 = (12 : Int32) then some ((M 149 53), M) else if a1 = (13 : Int32) then some ((M 149 55), M) else if a1 = (14 : Int32) then some ((M 148 4), M) else if a1 = (15 : Int32) then (f205_givenNow M).bind fun (v1, M2) => some (v1, M2) else if a1 = (16 : Int32) then some ((M 149 56), M) else if a1 = (17 : Int32) then some ((M 149 57), M) else some ((-1 : Int32), M))
def zIL : List (Nat × Nat × Int32) := [(1, 11, 0), (1, 12, 2), (1, 13, 12), (1, 14, 0), (1, 15, 0), (2, 4, 0), (2, 5, 0), (2, 6, 0), (2, 7, 0), (2, 8, 0), (2, 9, 0), (2, 10, 0), (12, 5, 0), (13, 3, 0), (21, 6, 0), (29, 1, 0), (30, 3, 0), (34, 2, 0), (0, 2, 0), (0, 4, 0), (0, 5, 0), (119, 1, 0), (119, 5, 0), (119, 10, 0), (119, 11, -1), (148, 4, 0), (148, 5, 0), (148, 19, 0), (148, 26, 0), (148, 28, -1), (149, 0, 0), (149, 1, 0), (149, 2, 0), (149, 3, 0), (149, 4, 0), (149, 5, 0), (149, 6, 0), (149, 7, 0), (149, 48, 0), (149, 49, 2), (149, 50, 12), (149, 51, 0), (149, 52, 0), (149, 53, 0), (149, 54, 0), (149, 55, 0), (149, 56, 0), (149, 57, 0), (149, 58, 0), (149, 59, 0)]
def zI0 (M : ZI) : Prop := ∀ z ∈ zIL, M z.1 z.2.1 = z.2.2
def f267_l18 (q : ZQ) : Nat → Int32 → ZI → Option (Int32 × ZI)
  | 0, _, _ => none
  | n + 1, x1, M2 =>
  (if ((Int32.ofNat q.1.1) - (6 : Int32)) < x1 then some ((1 : Int32), M2) else if zin x1 q.1.1 = true then (if ((q.1.2 (zi x1)) &&& (63 : Int32)) = (0 : Int32) then if zin (x1 + (1 : Int32)) q.1.1 = true then (f10_state (q.1.2 (zi (x1 + (1 : Int32)))) M2).bind fun (v3, M4) => if zin (x1 + (1 : Int32)) q.1.1 = true then (f146_state (q.1.2 (zi (x1 + (1 : Int32)))) M4).bind fun (v5, M6) => (if v3 = v5 then f267_l18 q n (x1 + (6 : Int32)) M6 else some ((0 : Int32), M6)) else none else none else if ((q.1.2 (zi x1)) &&& (63 : Int32)) = (1 : Int32) then if zin (x1 + (1 : Int32)) q.1.1 = true then if zin (x1 + (2 : Int32)) q.1.1 = true then (f12_person (q.1.2 (zi (x1 + (1 : Int32)))) (q.1.2 (zi (x1 + (2 : Int32)))) M2).bind fun (v7, M8) => if zin (x1 + (1 : Int32)) q.1.1 = true then if zin (x1 + (2 : Int32)) q.1.1 = true then (f148_person (q.1.2 (zi (x1 + (1 : Int32)))) (q.1.2 (zi (x1 + (2 : Int32)))) M8).bind fun (v9, M10) => (if v7 = v9 then f267_l18 q n (x1 + (6 : Int32)) M10 else some ((0 : Int32), M10)) else none else none else none else none else if ((q.1.2 (zi x1)) &&& (63 : Int32)) = (2 : Int32) then if zin (x1 + (1 : Int32)) q.1.1 = true then if zin (x1 + (2 : Int32)) q.1.1 = true then if zin (x1 + (3 : Int32)) q.1.1 = true then (f15_set (q.1.2 (zi (x1 + (1 : Int32)))) (q.1.2 (zi (x1 + (2 : Int32)))) (q.1.2 (zi (x1 + (3 : Int32)))) M2).bind fun (v11, M12) => if zin (x1 + (1 : Int32)) q.1.1 = true then if zin (x1 + (2 : Int32)) q.1.1 = true then if zin (x1 + (3 : Int32)) q.1.1 = true then (f150_set (q.1.2 (zi (x1 + (1 : Int32)))) (q.1.2 (zi (x1 + (2 : Int32)))) (q.1.2 (zi (x1 + (3 : Int32)))) M12).bind fun (v13, M14) => (if v11 = v13 then f267_l18 q n (x1 + (6 : Int32)) M14 else some ((0 : Int32), M14)) else none else none else none else none else none else none else if ((q.1.2 (zi x1)) &&& (63 : Int32)) = (3 : Int32) then if zin (x1 + (1 : Int32)) q.1.1 = true then if zin (x1 + (2 : Int32)) q.1.1 = true then if zin (x1 + (3 : Int32)) q.1.1 = true then ((if (q.1.2 (zi (x1 + (3 : Int32)))) = 0 then some (0 : Int32) else some (1 : Int32)) : Option (Int32)).bind fun v15 =>
  (f18_tie (q.1.2 (zi (x1 + (1 : Int32)))) (q.1.2 (zi (x1 + (2 : Int32)))) v15 M2).bind fun (v16, M17) => if zin (x1 + (1 : Int32)) q.1.1 = true then if zin (x1 + (2 : Int32)) q.1.1 = true then if zin (x1 + (3 : Int32)) q.1.1 = true then ((if (q.1.2 (zi (x1 + (3 : Int32)))) = 0 then some (0 : Int32) else some (1 : Int32)) : Option (Int32)).bind fun v18 =>
  (f199_tie (q.1.2 (zi (x1 + (1 : Int32)))) (q.1.2 (zi (x1 + (2 : Int32)))) v18 M17).bind fun (v19, M20) => (if v16 = v19 then f267_l18 q n (x1 + (6 : Int32)) M20 else some ((0 : Int32), M20)) else none else none else none else none else none else none else if ((q.1.2 (zi x1)) &&& (63 : Int32)) = (4 : Int32) then if zin (x1 + (1 : Int32)) q.1.1 = true then (f22_sit (q.1.2 (zi (x1 + (1 : Int32)))) M2).bind fun (v21, M22) => if zin (x1 + (1 : Int32)) q.1.1 = true then (f201_sit (q.1.2 (zi (x1 + (1 : Int32)))) M22).bind fun (v23, M24) => (if v21 = v23 then f267_l18 q n (x1 + (6 : Int32)) M24 else some ((0 : Int32), M24)) else none else none else if ((q.1.2 (zi x1)) &&& (63 : Int32)) = (5 : Int32) then if zin (x1 + (1 : Int32)) q.1.1 = true then (f24_years (q.1.2 (zi (x1 + (1 : Int32)))) M2).bind fun (v25, M26) => if zin (x1 + (1 : Int32)) q.1.1 = true then (f203_years (q.1.2 (zi (x1 + (1 : Int32)))) M26).bind fun (v27, M28) => (if v25 = v27 then f267_l18 q n (x1 + (6 : Int32)) M28 else some ((0 : Int32), M28)) else none else none else if ((q.1.2 (zi x1)) &&& (63 : Int32)) = (6 : Int32) then if zin (x1 + (1 : Int32)) q.1.1 = true then if zin (x1 + (2 : Int32)) q.1.1 = true then if zin (x1 + (3 : Int32)) q.1.1 = true then if zin (x1 + (4 : Int32)) q.1.1 = true then if zin (x1 + (5 : Int32)) q.1.1 = true then (f48_feed (q.1.2 (zi (x1 + (1 : Int32)))) (q.1.2 (zi (x1 + (2 : Int32)))) (q.1.2 (zi (x1 + (3 : Int32)))) (q.1.2 (zi (x1 + (4 : Int32)))) (q.1.2 (zi (x1 + (5 : Int32)))) M2).bind fun (v29, M30) => if zin (x1 + (1 : Int32)) q.1.1 = true then if zin (x1 + (2 : Int32)) q.1.1 = true then if zin (x1 + (3 : Int32)) q.1.1 = true then if zin (x1 + (4 : Int32)) q.1.1 = true then if zin (x1 + (5 : Int32)) q.1.1 = true then (f154_feed (q.1.2 (zi (x1 + (1 : Int32)))) (q.1.2 (zi (x1 + (2 : Int32)))) (q.1.2 (zi (x1 + (3 : Int32)))) (q.1.2 (zi (x1 + (4 : Int32)))) (q.1.2 (zi (x1 + (5 : Int32)))) M30).bind fun (v31, M32) => (if v29 = v31 then f267_l18 q n (x1 + (6 : Int32)) M32 else some ((0 : Int32), M32)) else none else none else none else none else none else none else none else none else none else none else if ((q.1.2 (zi x1)) &&& (63 : Int32)) = (7 : Int32) then if zin (x1 + (1 : Int32)) q.1.1 = true then (f51_end (q.1.2 (zi (x1 + (1 : Int32)))) M2).bind fun (v33, M34) => if zin (x1 + (1 : Int32)) q.1.1 = true then (f155_end (q.1.2 (zi (x1 + (1 : Int32)))) M34).bind fun (v35, M36) => (if v33 = v35 then f267_l18 q n (x1 + (6 : Int32)) M36 else some ((0 : Int32), M36)) else none else none else if ((q.1.2 (zi x1)) &&& (63 : Int32)) = (8 : Int32) then if zin (x1 + (1 : Int32)) q.1.1 = true then (f52_text (q.1.2 (zi (x1 + (1 : Int32)))) M2).bind fun (v37, M38) => if zin (x1 + (1 : Int32)) q.1.1 = true then (f156_text (q.1.2 (zi (x1 + (1 : Int32)))) M38).bind fun (v39, M40) => (if v37 = v39 then f267_l18 q n (x1 + (6 : Int32)) M40 else some ((0 : Int32), M40)) else none else none else if ((q.1.2 (zi x1)) &&& (63 : Int32)) = (9 : Int32) then if zin (x1 + (1 : Int32)) q.1.1 = true then (f91_fault (q.1.2 (zi (x1 + (1 : Int32)))) M2).bind fun v41 => if zin (x1 + (1 : Int32)) q.1.1 = true then (f197_fault (q.1.2 (zi (x1 + (1 : Int32)))) M2).bind fun v42 => (if v41 = v42 then f267_l18 q n (x1 + (6 : Int32)) M2 else some ((0 : Int32), M2)) else none else none else if ((q.1.2 (zi x1)) &&& (63 : Int32)) = (10 : Int32) then if zin (x1 + (1 : Int32)) q.1.1 = true then if zin (x1 + (2 : Int32)) q.1.1 = true then (f92_of (q.1.2 (zi (x1 + (1 : Int32)))) (q.1.2 (zi (x1 + (2 : Int32)))) M2).bind fun (v43, M44) => if zin (x1 + (1 : Int32)) q.1.1 = true then if zin (x1 + (2 : Int32)) q.1.1 = true then (f229_of (q.1.2 (zi (x1 + (1 : Int32)))) (q.1.2 (zi (x1 + (2 : Int32)))) M44).bind fun (v45, M46) => (if v43 = v45 then f267_l18 q n (x1 + (6 : Int32)) M46 else some ((0 : Int32), M46)) else none else none else none else none else if ((q.1.2 (zi x1)) &&& (63 : Int32)) = (11 : Int32) then if zin (x1 + (1 : Int32)) q.1.1 = true then if zin (x1 + (2 : Int32)) q.1.1 = true then if zin (x1 + (3 : Int32)) q.1.1 = true then ((if (q.1.2 (zi (x1 + (3 : Int32)))) = 0 then some (0 : Int32) else some (1 : Int32)) : Option (Int32)).bind fun v47 =>
  (f94_after (q.1.2 (zi (x1 + (1 : Int32)))) (q.1.2 (zi (x1 + (2 : Int32)))) v47 M2).bind fun (v48, M49) => if zin (x1 + (1 : Int32)) q.1.1 = true then if zin (x1 + (2 : Int32)) q.1.1 = true then if zin (x1 + (3 : Int32)) q.1.1 = true then ((if (q.1.2 (zi (x1 + (3 : Int32)))) = 0 then some (0 : Int32) else some (1 : Int32)) : Option (Int32)).bind fun v50 =>
  (f230_after (q.1.2 (zi (x1 + (1 : Int32)))) (q.1.2 (zi (x1 + (2 : Int32)))) v50 M49).bind fun (v51, M52) => (if v48 = v51 then f267_l18 q n (x1 + (6 : Int32)) M52 else some ((0 : Int32), M52)) else none else none else none else none else none else none else if ((q.1.2 (zi x1)) &&& (63 : Int32)) = (12 : Int32) then if zin (x1 + (1 : Int32)) q.1.1 = true then if zin (x1 + (2 : Int32)) q.1.1 = true then (f95_work (q.1.2 (zi (x1 + (1 : Int32)))) (q.1.2 (zi (x1 + (2 : Int32)))) M2).bind fun v53 => if zin (x1 + (1 : Int32)) q.1.1 = true then if zin (x1 + (2 : Int32)) q.1.1 = true then (f231_work (q.1.2 (zi (x1 + (1 : Int32)))) (q.1.2 (zi (x1 + (2 : Int32)))) M2).bind fun v54 => (if v53 = v54 then f267_l18 q n (x1 + (6 : Int32)) M2 else some ((0 : Int32), M2)) else none else none else none else none else if ((q.1.2 (zi x1)) &&& (63 : Int32)) = (13 : Int32) then if zin (x1 + (1 : Int32)) q.1.1 = true then if zin (x1 + (2 : Int32)) q.1.1 = true then (f96_book (q.1.2 (zi (x1 + (1 : Int32)))) (q.1.2 (zi (x1 + (2 : Int32)))) M2).bind fun v55 => if zin (x1 + (1 : Int32)) q.1.1 = true then if zin (x1 + (2 : Int32)) q.1.1 = true then (f232_book (q.1.2 (zi (x1 + (1 : Int32)))) (q.1.2 (zi (x1 + (2 : Int32)))) M2).bind fun v56 => (if v55 = v56 then f267_l18 q n (x1 + (6 : Int32)) M2 else some ((0 : Int32), M2)) else none else none else none else none else if ((q.1.2 (zi x1)) &&& (63 : Int32)) = (14 : Int32) then if zin (x1 + (1 : Int32)) q.1.1 = true then (f97_does (q.1.2 (zi (x1 + (1 : Int32)))) M2).bind fun (v57, M58) => if zin (x1 + (1 : Int32)) q.1.1 = true then (f233_does (q.1.2 (zi (x1 + (1 : Int32)))) M58).bind fun (v59, M60) => (if v57 = v59 then f267_l18 q n (x1 + (6 : Int32)) M60 else some ((0 : Int32), M60)) else none else none else if ((q.1.2 (zi x1)) &&& (63 : Int32)) = (15 : Int32) then if zin (x1 + (1 : Int32)) q.1.1 = true then if zin (x1 + (2 : Int32)) q.1.1 = true then if zin (x1 + (3 : Int32)) q.1.1 = true then (f99_plan (q.1.2 (zi (x1 + (1 : Int32)))) (q.1.2 (zi (x1 + (2 : Int32)))) (q.1.2 (zi (x1 + (3 : Int32)))) M2).bind fun v61 => if zin (x1 + (1 : Int32)) q.1.1 = true then if zin (x1 + (2 : Int32)) q.1.1 = true then if zin (x1 + (3 : Int32)) q.1.1 = true then (f228_plan (q.1.2 (zi (x1 + (1 : Int32)))) (q.1.2 (zi (x1 + (2 : Int32)))) (q.1.2 (zi (x1 + (3 : Int32)))) M2).bind fun v62 => (if v61 = v62 then f267_l18 q n (x1 + (6 : Int32)) M2 else some ((0 : Int32), M2)) else none else none else none else none else none else none else if ((q.1.2 (zi x1)) &&& (63 : Int32)) = (16 : Int32) then if zin (x1 + (1 : Int32)) q.1.1 = true then if zin (x1 + (2 : Int32)) q.1.1 = true then (f100_given (q.1.2 (zi (x1 + (1 : Int32)))) (q.1.2 (zi (x1 + (2 : Int32)))) M2).bind fun (v63, M64) => if zin (x1 + (1 : Int32)) q.1.1 = true then if zin (x1 + (2 : Int32)) q.1.1 = true then (f235_given (q.1.2 (zi (x1 + (1 : Int32)))) (q.1.2 (zi (x1 + (2 : Int32)))) M64).bind fun (v65, M66) => (if v63 = v65 then f267_l18 q n (x1 + (6 : Int32)) M66 else some ((0 : Int32), M66)) else none else none else none else none else if ((q.1.2 (zi x1)) &&& (63 : Int32)) = (17 : Int32) then if zin (x1 + (1 : Int32)) q.1.1 = true then (f101_can (q.1.2 (zi (x1 + (1 : Int32)))) M2).bind fun (v67, M68) => if zin (x1 + (1 : Int32)) q.1.1 = true then (f241_can (q.1.2 (zi (x1 + (1 : Int32)))) M68).bind fun (v69, M70) => (if v67 = v69 then f267_l18 q n (x1 + (6 : Int32)) M70 else some ((0 : Int32), M70)) else none else none else if ((q.1.2 (zi x1)) &&& (63 : Int32)) = (18 : Int32) then if zin (x1 + (1 : Int32)) q.1.1 = true then if zin (x1 + (2 : Int32)) q.1.1 = true then (f102_fewest (q.1.2 (zi (x1 + (1 : Int32)))) (q.1.2 (zi (x1 + (2 : Int32)))) M2).bind fun (v71, M72) => if zin (x1 + (1 : Int32)) q.1.1 = true then if zin (x1 + (2 : Int32)) q.1.1 = true then (f242_fewest (q.1.2 (zi (x1 + (1 : Int32)))) (q.1.2 (zi (x1 + (2 : Int32)))) M72).bind fun (v73, M74) => (if v71 = v73 then f267_l18 q n (x1 + (6 : Int32)) M74 else some ((0 : Int32), M74)) else none else none else none else none else if ((q.1.2 (zi x1)) &&& (63 : Int32)) = (19 : Int32) then if zin (x1 + (1 : Int32)) q.1.1 = true then (f104_hinge (q.1.2 (zi (x1 + (1 : Int32)))) M2).bind fun (v75, M76) => if zin (x1 + (1 : Int32)) q.1.1 = true then (f245_hinge (q.1.2 (zi (x1 + (1 : Int32)))) M76).bind fun (v77, M78) => (if v75 = v77 then f267_l18 q n (x1 + (6 : Int32)) M78 else some ((0 : Int32), M78)) else none else none else if ((q.1.2 (zi x1)) &&& (63 : Int32)) = (20 : Int32) then if zin (x1 + (1 : Int32)) q.1.1 = true then if zin (x1 + (2 : Int32)) q.1.1 = true then (f105_turnsOf (q.1.2 (zi (x1 + (1 : Int32)))) (q.1.2 (zi (x1 + (2 : Int32)))) M2).bind fun v79 => if zin (x1 + (1 : Int32)) q.1.1 = true then if zin (x1 + (2 : Int32)) q.1.1 = true then (f246_turnsOf (q.1.2 (zi (x1 + (1 : Int32)))) (q.1.2 (zi (x1 + (2 : Int32)))) M2).bind fun (v80, M81) => (if v79 = v80 then f267_l18 q n (x1 + (6 : Int32)) M81 else some ((0 : Int32), M81)) else none else none else none else none else if ((q.1.2 (zi x1)) &&& (63 : Int32)) = (21 : Int32) then if zin (x1 + (1 : Int32)) q.1.1 = true then if zin (x1 + (2 : Int32)) q.1.1 = true then (f108_traces (q.1.2 (zi (x1 + (1 : Int32)))) (q.1.2 (zi (x1 + (2 : Int32)))) M2).bind fun (v82, M83) => if zin (x1 + (1 : Int32)) q.1.1 = true then if zin (x1 + (2 : Int32)) q.1.1 = true then (f250_traces (q.1.2 (zi (x1 + (1 : Int32)))) (q.1.2 (zi (x1 + (2 : Int32)))) M83).bind fun (v84, M85) => (if v82 = v84 then f267_l18 q n (x1 + (6 : Int32)) M85 else some ((0 : Int32), M85)) else none else none else none else none else if ((q.1.2 (zi x1)) &&& (63 : Int32)) = (22 : Int32) then if zin (x1 + (1 : Int32)) q.1.1 = true then if zin (x1 + (2 : Int32)) q.1.1 = true then (f109_fits (q.1.2 (zi (x1 + (1 : Int32)))) (q.1.2 (zi (x1 + (2 : Int32)))) M2).bind fun (v86, M87) => if zin (x1 + (1 : Int32)) q.1.1 = true then if zin (x1 + (2 : Int32)) q.1.1 = true then (f251_fits (q.1.2 (zi (x1 + (1 : Int32)))) (q.1.2 (zi (x1 + (2 : Int32)))) M87).bind fun v88 => (if v86 = v88 then f267_l18 q n (x1 + (6 : Int32)) M87 else some ((0 : Int32), M87)) else none else none else none else none else if ((q.1.2 (zi x1)) &&& (63 : Int32)) = (23 : Int32) then if zin (x1 + (1 : Int32)) q.1.1 = true then (f113_lookAt (q.1.2 (zi (x1 + (1 : Int32)))) M2).bind fun (v89, M90) => if zin (x1 + (1 : Int32)) q.1.1 = true then (f255_lookAt (q.1.2 (zi (x1 + (1 : Int32)))) M90).bind fun v91 => (if v89 = v91 then f267_l18 q n (x1 + (6 : Int32)) M90 else some ((0 : Int32), M90)) else none else none else if ((q.1.2 (zi x1)) &&& (63 : Int32)) = (24 : Int32) then if zin (x1 + (1 : Int32)) q.1.1 = true then if zin (x1 + (2 : Int32)) q.1.1 = true then if zin (x1 + (3 : Int32)) q.1.1 = true then (f115_share (q.1.2 (zi (x1 + (1 : Int32)))) (q.1.2 (zi (x1 + (2 : Int32)))) (q.1.2 (zi (x1 + (3 : Int32)))) M2).bind fun v92 => if zin (x1 + (1 : Int32)) q.1.1 = true then if zin (x1 + (2 : Int32)) q.1.1 = true then if zin (x1 + (3 : Int32)) q.1.1 = true then (f256_share (q.1.2 (zi (x1 + (1 : Int32)))) (q.1.2 (zi (x1 + (2 : Int32)))) (q.1.2 (zi (x1 + (3 : Int32)))) M2).bind fun v93 => (if v92 = v93 then f267_l18 q n (x1 + (6 : Int32)) M2 else some ((0 : Int32), M2)) else none else none else none else none else none else none else if ((q.1.2 (zi x1)) &&& (63 : Int32)) = (25 : Int32) then if zin (x1 + (1 : Int32)) q.1.1 = true then if zin (x1 + (2 : Int32)) q.1.1 = true then (f116_bid (q.1.2 (zi (x1 + (1 : Int32)))) (q.1.2 (zi (x1 + (2 : Int32)))) M2).bind fun (v94, M95) => if zin (x1 + (1 : Int32)) q.1.1 = true then if zin (x1 + (2 : Int32)) q.1.1 = true then (f258_bid (q.1.2 (zi (x1 + (1 : Int32)))) (q.1.2 (zi (x1 + (2 : Int32)))) M95).bind fun (v96, M97) => (if v94 = v96 then f267_l18 q n (x1 + (6 : Int32)) M97 else some ((0 : Int32), M97)) else none else none else none else none else if ((q.1.2 (zi x1)) &&& (63 : Int32)) = (26 : Int32) then if zin (x1 + (1 : Int32)) q.1.1 = true then (f118_sold (q.1.2 (zi (x1 + (1 : Int32)))) M2).bind fun v98 => if zin (x1 + (1 : Int32)) q.1.1 = true then (f259_sold (q.1.2 (zi (x1 + (1 : Int32)))) M2).bind fun v99 => (if v98 = v99 then f267_l18 q n (x1 + (6 : Int32)) M2 else some ((0 : Int32), M2)) else none else none else if ((q.1.2 (zi x1)) &&& (63 : Int32)) = (27 : Int32) then if zin (x1 + (1 : Int32)) q.1.1 = true then (f122_rests (q.1.2 (zi (x1 + (1 : Int32)))) M2).bind fun v100 => if zin (x1 + (1 : Int32)) q.1.1 = true then (f260_rests (q.1.2 (zi (x1 + (1 : Int32)))) M2).bind fun v101 => (if v100 = v101 then f267_l18 q n (x1 + (6 : Int32)) M2 else some ((0 : Int32), M2)) else none else none else if ((q.1.2 (zi x1)) &&& (63 : Int32)) = (28 : Int32) then if zin (x1 + (1 : Int32)) q.1.1 = true then if zin (x1 + (2 : Int32)) q.1.1 = true then if zin (x1 + (3 : Int32)) q.1.1 = true then if zin (x1 + (4 : Int32)) q.1.1 = true then (f123_weekday (q.1.2 (zi (x1 + (1 : Int32)))) (q.1.2 (zi (x1 + (2 : Int32)))) (q.1.2 (zi (x1 + (3 : Int32)))) (q.1.2 (zi (x1 + (4 : Int32))))).bind fun v102 => if zin (x1 + (1 : Int32)) q.1.1 = true then if zin (x1 + (2 : Int32)) q.1.1 = true then if zin (x1 + (3 : Int32)) q.1.1 = true then if zin (x1 + (4 : Int32)) q.1.1 = true then (f261_weekday (q.1.2 (zi (x1 + (1 : Int32)))) (q.1.2 (zi (x1 + (2 : Int32)))) (q.1.2 (zi (x1 + (3 : Int32)))) (q.1.2 (zi (x1 + (4 : Int32))))).bind fun v103 => (if v102 = v103 then f267_l18 q n (x1 + (6 : Int32)) M2 else some ((0 : Int32), M2)) else none else none else none else none else none else none else none else none else if ((q.1.2 (zi x1)) &&& (63 : Int32)) = (29 : Int32) then (f124_next M2).bind fun v104 => (f237_next M2).bind fun v105 => (if v104 = v105 then f267_l18 q n (x1 + (6 : Int32)) M2 else some ((0 : Int32), M2)) else if ((q.1.2 (zi x1)) &&& (63 : Int32)) = (30 : Int32) then if zin (x1 + (1 : Int32)) q.1.1 = true then (f126_due (q.1.2 (zi (x1 + (1 : Int32)))) M2).bind fun v106 => if zin (x1 + (1 : Int32)) q.1.1 = true then (f239_due (q.1.2 (zi (x1 + (1 : Int32)))) M2).bind fun v107 => (if v106 = v107 then f267_l18 q n (x1 + (6 : Int32)) M2 else some ((0 : Int32), M2)) else none else none else if ((q.1.2 (zi x1)) &&& (63 : Int32)) = (31 : Int32) then if zin (x1 + (1 : Int32)) q.1.1 = true then (f127_doers (q.1.2 (zi (x1 + (1 : Int32)))) M2).bind fun (v108, M109) => if zin (x1 + (1 : Int32)) q.1.1 = true then (f243_doers (q.1.2 (zi (x1 + (1 : Int32)))) M109).bind fun (v110, M111) => (if v108 = v110 then f267_l18 q n (x1 + (6 : Int32)) M111 else some ((0 : Int32), M111)) else none else none else if ((q.1.2 (zi x1)) &&& (63 : Int32)) = (32 : Int32) then (f129_thieves M2).bind fun (v112, M113) => (f254_thieves M113).bind fun v114 => (if v112 = v114 then f267_l18 q n (x1 + (6 : Int32)) M113 else some ((0 : Int32), M113)) else if ((q.1.2 (zi x1)) &&& (63 : Int32)) = (33 : Int32) then if zin (x1 + (1 : Int32)) q.1.1 = true then (f130_soonest (q.1.2 (zi (x1 + (1 : Int32)))) M2).bind fun (v115, M116) => if zin (x1 + (1 : Int32)) q.1.1 = true then (f236_soonest (q.1.2 (zi (x1 + (1 : Int32)))) M116).bind fun (v117, M118) => (if v115 = v117 then f267_l18 q n (x1 + (6 : Int32)) M118 else some ((0 : Int32), M118)) else none else none else if ((q.1.2 (zi x1)) &&& (63 : Int32)) = (34 : Int32) then if zin (x1 + (1 : Int32)) q.1.1 = true then (f131_spread (q.1.2 (zi (x1 + (1 : Int32)))) M2).bind fun v119 => if zin (x1 + (1 : Int32)) q.1.1 = true then (f240_spread (q.1.2 (zi (x1 + (1 : Int32)))) M2).bind fun v120 => (if v119 = v120 then f267_l18 q n (x1 + (6 : Int32)) M2 else some ((0 : Int32), M2)) else none else none else if ((q.1.2 (zi x1)) &&& (63 : Int32)) = (35 : Int32) then if zin (x1 + (1 : Int32)) q.1.1 = true then if zin (x1 + (2 : Int32)) q.1.1 = true then (f134_way (q.1.2 (zi (x1 + (1 : Int32)))) (q.1.2 (zi (x1 + (2 : Int32)))) M2).bind fun v121 => if zin (x1 + (1 : Int32)) q.1.1 = true then if zin (x1 + (2 : Int32)) q.1.1 = true then (f262_way (q.1.2 (zi (x1 + (1 : Int32)))) (q.1.2 (zi (x1 + (2 : Int32)))) M2).bind fun v122 => (if v121 = v122 then f267_l18 q n (x1 + (6 : Int32)) M2 else some ((0 : Int32), M2)) else none else none else none else none else if ((q.1.2 (zi x1)) &&& (63 : Int32)) = (36 : Int32) then if zin (x1 + (1 : Int32)) q.1.1 = true then (f136_clique (q.1.2 (zi (x1 + (1 : Int32)))) M2).bind fun v123 => if zin (x1 + (1 : Int32)) q.1.1 = true then (f263_clique (q.1.2 (zi (x1 + (1 : Int32)))) M2).bind fun v124 => (if v123 = v124 then f267_l18 q n (x1 + (6 : Int32)) M2 else some ((0 : Int32), M2)) else none else none else if ((q.1.2 (zi x1)) &&& (63 : Int32)) = (37 : Int32) then (f138_undo M2).bind fun (v125, M126) => (f198_undo M126).bind fun (v127, M128) => (if v125 = v127 then f267_l18 q n (x1 + (6 : Int32)) M128 else some ((0 : Int32), M128)) else if ((q.1.2 (zi x1)) &&& (63 : Int32)) = (38 : Int32) then if zin (x1 + (1 : Int32)) q.1.1 = true then ((if (q.1.2 (zi (x1 + (1 : Int32)))) = 0 then some (0 : Int32) else some (1 : Int32)) : Option (Int32)).bind fun v129 =>
  (f139_image v129 M2).bind fun (v130, M131) => if zin (x1 + (1 : Int32)) q.1.1 = true then ((if (q.1.2 (zi (x1 + (1 : Int32)))) = 0 then some (0 : Int32) else some (1 : Int32)) : Option (Int32)).bind fun v132 =>
  (f265_image v132 M131).bind fun (v133, M134) => (if v130 = v133 then f267_l18 q n (x1 + (6 : Int32)) M134 else some ((0 : Int32), M134)) else none else none else if ((q.1.2 (zi x1)) &&& (63 : Int32)) = (39 : Int32) then if zin (x1 + (1 : Int32)) q.1.1 = true then (f143_look (q.1.2 (zi (x1 + (1 : Int32)))) M2).bind fun (v135, M136) => if zin (x1 + (1 : Int32)) q.1.1 = true then (f266_look (q.1.2 (zi (x1 + (1 : Int32)))) M136).bind fun (v137, M138) => (if v135 = v137 then f267_l18 q n (x1 + (6 : Int32)) M138 else some ((0 : Int32), M138)) else none else none else f267_l18 q n (x1 + (6 : Int32)) M2) else none)
end
section
-- ===== ARITH: small ints as naturals; loops; memory =====
def zn (k : Nat) : Int32 := Int32.ofNat k
theorem zl0 : (0 : Int32) = zn 0 := id rfl
theorem zl1 : (1 : Int32) = zn 1 := id rfl
theorem zl2 : (2 : Int32) = zn 2 := id rfl
theorem zl3 : (3 : Int32) = zn 3 := id rfl
theorem zl4 : (4 : Int32) = zn 4 := id rfl
theorem zl5 : (5 : Int32) = zn 5 := id rfl
theorem zl6 : (6 : Int32) = zn 6 := id rfl
theorem zl7 : (7 : Int32) = zn 7 := id rfl
theorem zl8 : (8 : Int32) = zn 8 := id rfl
theorem zl9 : (9 : Int32) = zn 9 := id rfl
theorem zl10 : (10 : Int32) = zn 10 := id rfl
theorem zl11 : (11 : Int32) = zn 11 := id rfl
theorem zl12 : (12 : Int32) = zn 12 := id rfl
theorem zl13 : (13 : Int32) = zn 13 := id rfl
theorem zl14 : (14 : Int32) = zn 14 := id rfl
theorem zl15 : (15 : Int32) = zn 15 := id rfl
theorem zl16 : (16 : Int32) = zn 16 := id rfl
theorem zl17 : (17 : Int32) = zn 17 := id rfl
theorem zl18 : (18 : Int32) = zn 18 := id rfl
theorem zl19 : (19 : Int32) = zn 19 := id rfl
theorem zl20 : (20 : Int32) = zn 20 := id rfl
theorem zl21 : (21 : Int32) = zn 21 := id rfl
theorem zl22 : (22 : Int32) = zn 22 := id rfl
theorem zl23 : (23 : Int32) = zn 23 := id rfl
theorem zl24 : (24 : Int32) = zn 24 := id rfl
theorem zl25 : (25 : Int32) = zn 25 := id rfl
theorem zl26 : (26 : Int32) = zn 26 := id rfl
theorem zl27 : (27 : Int32) = zn 27 := id rfl
theorem zl28 : (28 : Int32) = zn 28 := id rfl
theorem zl29 : (29 : Int32) = zn 29 := id rfl
theorem zl30 : (30 : Int32) = zn 30 := id rfl
theorem zl31 : (31 : Int32) = zn 31 := id rfl
theorem zl32 : (32 : Int32) = zn 32 := id rfl
theorem zl33 : (33 : Int32) = zn 33 := id rfl
theorem zl34 : (34 : Int32) = zn 34 := id rfl
theorem zl35 : (35 : Int32) = zn 35 := id rfl
theorem zl36 : (36 : Int32) = zn 36 := id rfl
theorem zl37 : (37 : Int32) = zn 37 := id rfl
theorem zl38 : (38 : Int32) = zn 38 := id rfl
theorem zl39 : (39 : Int32) = zn 39 := id rfl
theorem zl40 : (40 : Int32) = zn 40 := id rfl
theorem zl41 : (41 : Int32) = zn 41 := id rfl
theorem zl42 : (42 : Int32) = zn 42 := id rfl
theorem zl43 : (43 : Int32) = zn 43 := id rfl
theorem zl44 : (44 : Int32) = zn 44 := id rfl
theorem zl45 : (45 : Int32) = zn 45 := id rfl
theorem zl46 : (46 : Int32) = zn 46 := id rfl
theorem zl47 : (47 : Int32) = zn 47 := id rfl
theorem zl48 : (48 : Int32) = zn 48 := id rfl
theorem zl49 : (49 : Int32) = zn 49 := id rfl
theorem zl50 : (50 : Int32) = zn 50 := id rfl
theorem zl52 : (52 : Int32) = zn 52 := id rfl
theorem zl53 : (53 : Int32) = zn 53 := id rfl
theorem zl54 : (54 : Int32) = zn 54 := id rfl
theorem zl55 : (55 : Int32) = zn 55 := id rfl
theorem zl56 : (56 : Int32) = zn 56 := id rfl
theorem zl57 : (57 : Int32) = zn 57 := id rfl
theorem zl58 : (58 : Int32) = zn 58 := id rfl
theorem zl59 : (59 : Int32) = zn 59 := id rfl
theorem zl60 : (60 : Int32) = zn 60 := id rfl
theorem zl61 : (61 : Int32) = zn 61 := id rfl
theorem zl62 : (62 : Int32) = zn 62 := id rfl
theorem zl63 : (63 : Int32) = zn 63 := id rfl
theorem zl64 : (64 : Int32) = zn 64 := id rfl
theorem zl65 : (65 : Int32) = zn 65 := id rfl
theorem zl69 : (69 : Int32) = zn 69 := id rfl
theorem zl70 : (70 : Int32) = zn 70 := id rfl
theorem zl72 : (72 : Int32) = zn 72 := id rfl
theorem zl79 : (79 : Int32) = zn 79 := id rfl
theorem zl80 : (80 : Int32) = zn 80 := id rfl
theorem zl90 : (90 : Int32) = zn 90 := id rfl
theorem zl97 : (97 : Int32) = zn 97 := id rfl
theorem zl99 : (99 : Int32) = zn 99 := id rfl
theorem zl100 : (100 : Int32) = zn 100 := id rfl
theorem zl122 : (122 : Int32) = zn 122 := id rfl
theorem zl140 : (140 : Int32) = zn 140 := id rfl
theorem zl141 : (141 : Int32) = zn 141 := id rfl
theorem zl142 : (142 : Int32) = zn 142 := id rfl
theorem zl143 : (143 : Int32) = zn 143 := id rfl
theorem zl145 : (145 : Int32) = zn 145 := id rfl
theorem zl147 : (147 : Int32) = zn 147 := id rfl
theorem zl150 : (150 : Int32) = zn 150 := id rfl
theorem zl159 : (159 : Int32) = zn 159 := id rfl
theorem zl160 : (160 : Int32) = zn 160 := id rfl
theorem zl161 : (161 : Int32) = zn 161 := id rfl
theorem zl162 : (162 : Int32) = zn 162 := id rfl
theorem zl200 : (200 : Int32) = zn 200 := id rfl
theorem zl240 : (240 : Int32) = zn 240 := id rfl
theorem zl255 : (255 : Int32) = zn 255 := id rfl
theorem zl256 : (256 : Int32) = zn 256 := id rfl
theorem zl257 : (257 : Int32) = zn 257 := id rfl
theorem zl258 : (258 : Int32) = zn 258 := id rfl
theorem zl259 : (259 : Int32) = zn 259 := id rfl
theorem zl260 : (260 : Int32) = zn 260 := id rfl
theorem zl261 : (261 : Int32) = zn 261 := id rfl
theorem zl262 : (262 : Int32) = zn 262 := id rfl
theorem zl263 : (263 : Int32) = zn 263 := id rfl
theorem zl271 : (271 : Int32) = zn 271 := id rfl
theorem zl272 : (272 : Int32) = zn 272 := id rfl
theorem zl273 : (273 : Int32) = zn 273 := id rfl
theorem zl274 : (274 : Int32) = zn 274 := id rfl
theorem zl275 : (275 : Int32) = zn 275 := id rfl
theorem zl276 : (276 : Int32) = zn 276 := id rfl
theorem zl277 : (277 : Int32) = zn 277 := id rfl
theorem zl278 : (278 : Int32) = zn 278 := id rfl
theorem zl279 : (279 : Int32) = zn 279 := id rfl
theorem zl288 : (288 : Int32) = zn 288 := id rfl
theorem zl300 : (300 : Int32) = zn 300 := id rfl
theorem zl301 : (301 : Int32) = zn 301 := id rfl
theorem zl364 : (364 : Int32) = zn 364 := id rfl
theorem zl365 : (365 : Int32) = zn 365 := id rfl
theorem zl400 : (400 : Int32) = zn 400 := id rfl
theorem zl401 : (401 : Int32) = zn 401 := id rfl
theorem zl420 : (420 : Int32) = zn 420 := id rfl
theorem zl562 : (562 : Int32) = zn 562 := id rfl
theorem zl578 : (578 : Int32) = zn 578 := id rfl
theorem zl820 : (820 : Int32) = zn 820 := id rfl
theorem zl999 : (999 : Int32) = zn 999 := id rfl
theorem zl1000 : (1000 : Int32) = zn 1000 := id rfl
theorem zl1024 : (1024 : Int32) = zn 1024 := id rfl
theorem zl1178 : (1178 : Int32) = zn 1178 := id rfl
theorem zl1194 : (1194 : Int32) = zn 1194 := id rfl
theorem zl1210 : (1210 : Int32) = zn 1210 := id rfl
theorem zl1226 : (1226 : Int32) = zn 1226 := id rfl
theorem zl1244 : (1244 : Int32) = zn 1244 := id rfl
theorem zl2064 : (2064 : Int32) = zn 2064 := id rfl
theorem zl4096 : (4096 : Int32) = zn 4096 := id rfl
theorem zl9999 : (9999 : Int32) = zn 9999 := id rfl
theorem zl11264 : (11264 : Int32) = zn 11264 := id rfl
theorem zl100000 : (100000 : Int32) = zn 100000 := id rfl
theorem zn_toInt {k : Nat} (h : k < 2147483648) : (zn k).toInt = k := Int32.toInt_ofNat_of_lt h
theorem zn_lt {i j : Nat} (hi : i < 2147483648) (hj : j < 2147483648) : zn i < zn j ↔ i < j := Int32.ofNat_lt_iff_lt hi hj
theorem zn_eq {i j : Nat} (hi : i < 2147483648) (hj : j < 2147483648) : zn i = zn j ↔ i = j := by
  constructor
  · intro h
    have := congrArg Int32.toInt h
    rw [zn_toInt hi, zn_toInt hj] at this
    omega
  · rintro rfl; rfl
theorem zn_zi {k : Nat} (h : k < 2147483648) : zi (zn k) = k := Int32.toNatClampNeg_ofNat_of_lt h
theorem zi_zn {x : Int32} (h : ¬ x < 0) : zn (zi x) = x := Int32.ofNat_toNatClampNeg x (by simpa using h)
theorem zn_add (i j : Nat) : zn i + zn j = zn (i + j) := (Int32.ofNat_add i j).symm
theorem zn_mul (i j : Nat) : zn i * zn j = zn (i * j) := (Int32.ofNat_mul i j).symm
theorem zn_sub {i j : Nat} (h : j ≤ i) : zn i - zn j = zn (i - j) := (Int32.ofNat_sub i j h).symm
theorem zn_nneg {k : Nat} (h : k < 2147483648) : ¬ zn k < 0 := by
  rw [zl0, zn_lt h (by decide)]; omega
theorem zn_zin {i n : Nat} (h : i < 2147483648) : zin (zn i) n = true ↔ i < n := by
  have h1 := zn_nneg h
  have h2 : (zn i).toNatClampNeg = i := zn_zi h
  simp only [zin, decide_eq_true_eq, h2]
  constructor
  · intro h3; omega
  · intro h3 h4
    rcases h4 with h4 | h4
    · exact h1 h4
    · omega
theorem zin_ex {x : Int32} {n : Nat} (h : zin x n = true) : ∃ i, i < n ∧ i < 2147483648 ∧ x = zn i := by
  have h := of_decide_eq_true h
  have h1 : ¬ x < 0 := fun h1 => h (Or.inl h1)
  refine ⟨zi x, ?_, ?_, (zi_zn h1).symm⟩
  · exact Nat.lt_of_not_le fun h2 => h (Or.inr h2)
  · exact Int32.toNatClampNeg_lt x
theorem zn_ne_neg {k : Nat} (h : k < 2147483648) : zn k ≠ -1 := by
  intro h1
  have := congrArg Int32.toInt h1
  rw [zn_toInt h] at this
  have h2 : Int32.toInt (-1) = -1 := rfl
  rw [h2] at this
  omega
theorem zn_ne_neg' {k : Nat} (h : k < 2147483648) : ¬ (-1 : Int32) = zn k := fun e => zn_ne_neg h e.symm
theorem neg_lt_zn {k : Nat} (h : k < 2147483648) : (-1 : Int32) < zn k := by
  rw [Int32.lt_iff_toInt_lt, zn_toInt h]
  have h2 : Int32.toInt (-1) = -1 := rfl
  omega
def zm1 : Int32 := -1
def zm2 : Int32 := -2
def zm3 : Int32 := -3
theorem zng1 : -zn 1 = zm1 := id rfl
theorem zng2 : -zn 2 = zm2 := id rfl
theorem zng3 : -zn 3 = zm3 := id rfl
theorem zn_dec {k : Nat} (h : 1 ≤ k) : zn k + zm1 = zn (k - 1) := by
  rw [← zn_sub h, Int32.sub_eq_add_neg, zng1]
theorem zng8 {k : Nat} (h : 8 ≤ k) : zn k + -zn 8 = zn (k - 8) := by
  rw [← zn_sub h, Int32.sub_eq_add_neg]
theorem zn_shl {k : Nat} (h : k < 31) : zshl (zn 1) (zn k) = zn (2 ^ k) := by
  have : ∀ k : Fin 31, zshl (zn 1) (zn k.val) = zn (2 ^ k.val) := by decide +kernel
  exact this ⟨k, h⟩
theorem zs_ap (M : ZI) (o k : Nat) (v : Int32) (o' : Nat) : (zs M o k v) o' = if o' = o then upd (M o) k v else M o' := rfl
theorem upd_ap (f : Nat → Int32) (k : Nat) (x : Int32) (j : Nat) : upd f k x j = if j = k then x else f j := rfl
theorem zc_ap (M : ZI) (a b s d n o' : Nat) : (zc M a b s d n) o' = if o' = a then va_cpy (M b) (M a) s d n else M o' := rfl
theorem cpy_ap (f g : Nat → Int32) (n k : Nat) : va_cpy f g 0 0 n k = if k < n then f k else g k := by
  unfold va_cpy
  by_cases h : k < n
  · simp [h]
  · simp [h]
theorem zloop {α β : Type} (F : Nat → α → Int32 → Option β) (N : Nat) (P : Nat → α → Prop) (Q : β → Prop)
    (h1 : ∀ n i a, i < N → P i a → (∃ a', P (i + 1) a' ∧ F (n + 1) a (zn i) = F n a' (zn (i + 1))) ∨ (∃ b, Q b ∧ F (n + 1) a (zn i) = some b))
    (h2 : ∀ n a, P N a → ∃ b, Q b ∧ F (n + 1) a (zn N) = some b) :
    ∀ (fuel i : Nat) (a : α), i ≤ N → N - i < fuel → P i a → ∃ b, F fuel a (zn i) = some b ∧ Q b := by
  intro fuel
  induction fuel with
  | zero => intro i a _ h _; omega
  | succ n ih =>
    intro i a hi hf hP
    by_cases h : i < N
    · rcases h1 n i a h hP with ⟨a', hP', he⟩ | ⟨b, hQ, he⟩
      · rw [he]
        exact ih (i + 1) a' (by omega) (by omega) hP'
      · exact ⟨b, he, hQ⟩
    · obtain rfl : i = N := by omega
      obtain ⟨b, hQ, he⟩ := h2 n a hP
      exact ⟨b, he, hQ⟩
/-- n steps of a counted loop -/
def zit {α : Type} (step : Nat → α → α) (a : α) : Nat → α
  | 0 => a
  | n + 1 => step n (zit step a n)
/-- a loop without a way out -/
theorem zfor {α β : Type} (F : Nat → α → Int32 → Option β) (N : Nat) (step : Nat → α → α) (fin : α → β) (a0 : α)
    (h1 : ∀ n i, i < N → F (n + 1) (zit step a0 i) (zn i) = F n (step i (zit step a0 i)) (zn (i + 1)))
    (h2 : ∀ n, F (n + 1) (zit step a0 N) (zn N) = some (fin (zit step a0 N)))
    (fuel : Nat) (hf : N < fuel) : F fuel a0 (zn 0) = some (fin (zit step a0 N)) := by
  obtain ⟨b, hb, hQ⟩ := zloop F N (fun i a => a = zit step a0 i) (fun b => b = fin (zit step a0 N)) (fun n i a hi ha => by
    subst ha
    exact Or.inl ⟨_, rfl, h1 n i hi⟩) (fun n a ha => by
    subst ha
    exact ⟨_, rfl, h2 n⟩) fuel 0 a0 (Nat.zero_le _) (by omega) rfl
  rw [hb, hQ]
theorem zfu_eq : zfu = 100000 := rfl
def zle (x : Int32) (m : Nat) : Prop := ∃ k, k ≤ m ∧ x = zn k
theorem zle_of {x : Int32} {m : Nat} (h1 : ¬ x < 0) (h2 : ¬ zn m < x) (hm : m < 2147483648) : zle x m := by
  refine ⟨zi x, ?_, (zi_zn h1).symm⟩
  have h3 : zi x < 2147483648 := Int32.toNatClampNeg_lt x
  rw [← zi_zn h1, zn_lt hm h3] at h2
  omega
theorem within_eq (a b c : Int32) : f13_within a b c = some (if a < b ∨ c < a then 0 else 1) := by
  unfold f13_within
  by_cases h1 : a < b
  · simp [h1]
  · by_cases h2 : c < a
    · simp [h1, h2]
    · simp [h1, h2]
theorem isIn_eq (a b c : Int32) : f149_isIn a b c = some (if a < b ∨ c < a then 0 else 1) := within_eq a b c
theorem zbl_0 : zbl 0 = true := rfl
theorem zbl_1 : zbl 1 = true := rfl
theorem zpair {α γ β δ : Type} (F : Nat → α → Int32 → Option β) (G : Nat → γ → Int32 → Option δ) (N : Nat) (P : Nat → α → γ → Prop) (R : β → δ → Prop)
    (h1 : ∀ n i a c, i < N → P i a c → (∃ a' c', P (i + 1) a' c' ∧ F (n + 1) a (zn i) = F n a' (zn (i + 1)) ∧ G (n + 1) c (zn i) = G n c' (zn (i + 1))) ∨ (∃ b d, R b d ∧ F (n + 1) a (zn i) = some b ∧ G (n + 1) c (zn i) = some d))
    (h2 : ∀ n a c, P N a c → ∃ b d, R b d ∧ F (n + 1) a (zn N) = some b ∧ G (n + 1) c (zn N) = some d) :
    ∀ (fuel i : Nat) (a : α) (c : γ), i ≤ N → N - i < fuel → P i a c → ∃ b d, F fuel a (zn i) = some b ∧ G fuel c (zn i) = some d ∧ R b d := by
  intro fuel
  induction fuel with
  | zero => intro i a c _ h _; omega
  | succ n ih =>
    intro i a c hi hf hP
    by_cases h : i < N
    · rcases h1 n i a c h hP with ⟨a', c', hP', e1, e2⟩ | ⟨b, d, hR, e1, e2⟩
      · rw [e1, e2]
        exact ih (i + 1) a' c' (by omega) (by omega) hP'
      · exact ⟨b, d, e1, e2, hR⟩
    · obtain rfl : i = N := by omega
      obtain ⟨b, d, hR, e1, e2⟩ := h2 n a c hP
      exact ⟨b, d, e1, e2, hR⟩
theorem zlt0 {k : Nat} (h : 0 < k) (h2 : k < 2147483648) : (0 : Int32) < zn k := (zn_lt (by decide) h2).mpr h
theorem zlt1 {k : Nat} (h : 1 < k) (h2 : k < 2147483648) : (1 : Int32) < zn k := (zn_lt (by decide) h2).mpr h
end
section
-- ===== EVAL: what a text's steps come to =====
def stk (m : Nat → Int32) : List Int32 → Prop
  | [] => True
  | x :: r => m r.length = x ∧ stk m r
theorem stk_upd {m : Nat → Int32} {x : Int32} : ∀ {r : List Int32} {k : Nat}, r.length ≤ k → stk m r → stk (upd m k x) r
  | [], _, _, _ => trivial
  | y :: r, k, hk, h => by
    simp only [List.length_cons] at hk
    refine ⟨?_, stk_upd (by omega) h.2⟩
    rw [upd_ap, if_neg (by omega)]
    exact h.1
theorem stk_push {m : Nat → Int32} {x : Int32} {r : List Int32} (h : stk m r) : stk (upd m r.length x) (x :: r) :=
  ⟨by rw [upd_ap, if_pos rfl], stk_upd (Nat.le_refl _) h⟩
/-- one step of THE LAW, as the row has it -/
def sStep (F : Nat → Int32) (s v : Int32) (st : List Int32) : Option (List Int32) :=
  if s < 23 then
    if st.length < 64 then
      if s = 0 then some (v :: st) else if zin s 10 = true then some (F (zi s - 1) :: st) else none
    else none
  else match st with
  | [] => none
  | b :: r =>
    if s = 26 then (if v = 0 then none else some ((b / v) :: r))
    else if s = 30 then some (((1 : Int32) - b) :: r)
    else match r with
    | [] => none
    | a :: q => (f212_both s a b).bind fun x => some (x :: q)
def sRun (F w : Nat → Int32) : Nat → Nat → List Int32 → Option (List Int32)
  | 0, _, st => some st
  | k + 1, i, st => (sStep F (w (1244 + 2 * i)) (w (1245 + 2 * i)) st).bind (sRun F w k (i + 1))
theorem sStep_len {F : Nat → Int32} {s v : Int32} {st st' : List Int32} (h : sStep F s v st = some st') (hl : st.length ≤ 64) : st'.length ≤ 64 := by
  unfold sStep at h
  split at h
  · split at h
    · split at h
      · cases h; simp only [List.length_cons]; omega
      · split at h
        · cases h; simp only [List.length_cons]; omega
        · cases h
    · cases h
  · cases st with
    | nil => cases h
    | cons b r =>
      simp only at h
      split at h
      · split at h
        · cases h
        · cases h; exact hl
      · split at h
        · cases h; exact hl
        · cases r with
          | nil => cases h
          | cons a q =>
            simp only at h
            cases hb : f212_both s a b with
            | none => rw [hb] at h; cases h
            | some x => rw [hb] at h; cases h; simp only [List.length_cons] at hl ⊢; omega
theorem ref_run {F w : Nat → Int32} : ∀ (k i : Nat) (st st' : List Int32) (M : ZI) (fuel : Nat), sRun F w k i st = some st' → k < fuel → st.length ≤ 64 → i + k ≤ 410 → M 149 = w → (∀ j, j < 9 → M 160 (j + 1) = F j) → stk (M 159) st →
    ∃ M', f211_l6 0 (zn (i + k)) fuel (zn st.length) (zn i) M = some M' ∧ stk (M' 159) st' ∧ ∀ o, o ≠ 159 → M' o = M o := by
  intro k
  induction k with
  | zero =>
    intro i st st' M fuel h hf _ hi _ _ hs
    obtain ⟨n, rfl⟩ : ∃ n, fuel = n + 1 := ⟨fuel - 1, by omega⟩
    cases h
    refine ⟨M, ?_, hs, fun _ _ => rfl⟩
    simp (disch := omega) only [f211_l6, zl0, zl1, zl2, zl3, zl4, zl5, zl6, zl7, zl8, zl9, zl10, zl11, zl12, zl13, zl14, zl15, zl16, zl17, zl18, zl19, zl20, zl21, zl22, zl23, zl24, zl25, zl26, zl27, zl28, zl29, zl30, zl31, zl32, zl33, zl34, zl35, zl36, zl37, zl38, zl39, zl40, zl41, zl42, zl43, zl44, zl45, zl46, zl47, zl48, zl49, zl50, zl52, zl53, zl54, zl55, zl56, zl57, zl58, zl59, zl60, zl61, zl62, zl63, zl64, zl65, zl69, zl70, zl72, zl79, zl80, zl90, zl97, zl99, zl100, zl122, zl140, zl141, zl142, zl143, zl145, zl147, zl150, zl159, zl160, zl161, zl162, zl200, zl240, zl255, zl256, zl257, zl258, zl259, zl260, zl261, zl262, zl263, zl271, zl272, zl273, zl274, zl275, zl276, zl277, zl278, zl279, zl288, zl300, zl301, zl364, zl365, zl400, zl401, zl420, zl562, zl578, zl820, zl999, zl1000, zl1024, zl1178, zl1194, zl1210, zl1226, zl1244, zl2064, zl4096, zl9999, zl11264, zl100000, zn_add, zn_mul, zn_lt, zn_eq, zn_zi, zn_zin, zn_shl, zng1, zng2, zng3, zng8, zn_dec, Nat.add_zero, Nat.lt_irrefl, ↓reduceIte]
  | succ k ih =>
    intro i st st' M fuel h hf hl hi hw hF hs
    obtain ⟨n, rfl⟩ : ∃ n, fuel = n + 1 := ⟨fuel - 1, by omega⟩
    unfold sRun at h
    cases hst : sStep F (w (1244 + 2 * i)) (w (1245 + 2 * i)) st with
    | none => rw [hst] at h; cases h
    | some s1 =>
      rw [hst] at h
      simp only [Option.bind_some] at h
      have hl1 := sStep_len hst hl
      have e1 : i + (k + 1) = (i + 1) + k := by omega
      have e3 : zn (1244 + 820 * 0 + 2 * i) = zn (1244 + 2 * i) := by congr 1
      have e4 : zn (1244 + 820 * 0 + 2 * i + 1) = zn (1245 + 2 * i) := by congr 1; omega
      simp (maxSteps := 1000000) (disch := omega) only [f211_l6, zl0, zl1, zl2, zl3, zl4, zl5, zl6, zl7, zl8, zl9, zl10, zl11, zl12, zl13, zl14, zl15, zl16, zl17, zl18, zl19, zl20, zl21, zl22, zl23, zl24, zl25, zl26, zl27, zl28, zl29, zl30, zl31, zl32, zl33, zl34, zl35, zl36, zl37, zl38, zl39, zl40, zl41, zl42, zl43, zl44, zl45, zl46, zl47, zl48, zl49, zl50, zl52, zl53, zl54, zl55, zl56, zl57, zl58, zl59, zl60, zl61, zl62, zl63, zl64, zl65, zl69, zl70, zl72, zl79, zl80, zl90, zl97, zl99, zl100, zl122, zl140, zl141, zl142, zl143, zl145, zl147, zl150, zl159, zl160, zl161, zl162, zl200, zl240, zl255, zl256, zl257, zl258, zl259, zl260, zl261, zl262, zl263, zl271, zl272, zl273, zl274, zl275, zl276, zl277, zl278, zl279, zl288, zl300, zl301, zl364, zl365, zl400, zl401, zl420, zl562, zl578, zl820, zl999, zl1000, zl1024, zl1178, zl1194, zl1210, zl1226, zl1244, zl2064, zl4096, zl9999, zl11264, zl100000, zn_add, zn_mul, zn_lt, zn_eq, zn_zi, zn_zin, zn_shl, zng1, zng2, zng3, zng8, zn_dec, zlet, Option.bind_some, Nat.mul_zero, Nat.add_zero]
      rw [if_pos (show i < i + (k + 1) by omega), if_pos (show 1244 + 2 * i < 2064 by omega), if_pos (show 1244 + 2 * i + 1 < 2064 by omega), hw, show 1244 + 2 * i + 1 = 1245 + 2 * i by omega]
      have fin : ∀ M1 : ZI, stk (M1 159) s1 → (∀ o, o ≠ 159 → M1 o = M o) → ∃ M', f211_l6 (zn 0) (zn (i + (k + 1))) n (zn s1.length) (zn (i + 1)) M1 = some M' ∧ stk (M' 159) st' ∧ ∀ o, o ≠ 159 → M' o = M o := by
        intro M1 h1 h2
        rw [e1]
        obtain ⟨M', a1, a2, a3⟩ := ih (i + 1) s1 st' M1 n h (by omega) hl1 (by omega) ((h2 149 (by decide)).trans hw) (fun j hj => by rw [h2 160 (by decide)]; exact hF j hj) h1
        exact ⟨M', a1, a2, fun o ho => (a3 o ho).trans (h2 o ho)⟩
      generalize hs' : w (1244 + 2 * i) = s at hst ⊢
      generalize hv' : w (1245 + 2 * i) = v at hst ⊢
      unfold sStep at hst
      simp only [zl0, zl1, zl2, zl3, zl4, zl5, zl6, zl7, zl8, zl9, zl10, zl11, zl12, zl13, zl14, zl15, zl16, zl17, zl18, zl19, zl20, zl21, zl22, zl23, zl24, zl25, zl26, zl27, zl28, zl29, zl30, zl31, zl32, zl33, zl34, zl35, zl36, zl37, zl38, zl39, zl40, zl41, zl42, zl43, zl44, zl45, zl46, zl47, zl48, zl49, zl50, zl52, zl53, zl54, zl55, zl56, zl57, zl58, zl59, zl60, zl61, zl62, zl63, zl64, zl65, zl69, zl70, zl72, zl79, zl80, zl90, zl97, zl99, zl100, zl122, zl140, zl141, zl142, zl143, zl145, zl147, zl150, zl159, zl160, zl161, zl162, zl200, zl240, zl255, zl256, zl257, zl258, zl259, zl260, zl261, zl262, zl263, zl271, zl272, zl273, zl274, zl275, zl276, zl277, zl278, zl279, zl288, zl300, zl301, zl364, zl365, zl400, zl401, zl420, zl562, zl578, zl820, zl999, zl1000, zl1024, zl1178, zl1194, zl1210, zl1226, zl1244, zl2064, zl4096, zl9999, zl11264, zl100000] at hst
      by_cases c1 : s < zn 23
      · rw [if_pos c1] at hst
        rw [if_pos c1]
        split at hst
        · by_cases c2 : s = zn 0
          · rw [if_pos c2] at hst
            cases hst
            rw [if_pos c2, if_pos (by omega)]
            exact fin _ (by rw [zs_ap, if_pos rfl]; exact stk_push hs) (fun o ho => by rw [zs_ap, if_neg ho])
          · rw [if_neg c2] at hst
            rw [if_neg c2]
            split at hst
            · rename_i c3
              cases hst
              rw [if_pos c3, if_pos (by omega)]
              obtain ⟨j, hj, hj2, rfl⟩ := zin_ex c3
              have hj0 : j ≠ 0 := fun e => c2 (by rw [e])
              have e5 : M 160 (zi (zn j)) = F (zi (zn j) - 1) := by
                rw [zn_zi hj2]
                have := hF (j - 1) (by omega)
                rwa [show j - 1 + 1 = j by omega] at this
              rw [e5]
              exact fin _ (by rw [zs_ap, if_pos rfl]; exact stk_push hs) (fun o ho => by rw [zs_ap, if_neg ho])
            · cases hst
        · cases hst
      · rw [if_neg c1] at hst
        rw [if_neg c1]
        cases st with
        | nil => cases hst
        | cons b r =>
          have hr : r.length < 64 := by simp only [List.length_cons] at hl; omega
          have eb : M 159 r.length = b := hs.1
          simp (disch := omega) only [List.length_cons, zn_sub, zn_dec, zn_zi, zn_zin, Nat.add_sub_cancel]
          simp only at hst
          by_cases c2 : s = zn 26
          · rw [if_pos c2] at hst
            rw [if_pos c2, if_pos (by omega)]
            split at hst
            · cases hst
            · rename_i c3
              cases hst
              rw [if_neg c3, if_pos (by omega)]
              simp only [eb]
              exact fin _ (by rw [zs_ap, if_pos rfl]; exact stk_push hs.2) (fun o ho => by rw [zs_ap, if_neg ho])
          · rw [if_neg c2] at hst
            rw [if_neg c2]
            by_cases c4 : s = zn 30
            · rw [if_pos c4] at hst
              rw [if_pos c4, if_pos (by omega), if_pos (by omega)]
              cases hst
              simp only [eb]
              exact fin _ (by rw [zs_ap, if_pos rfl]; exact stk_push hs.2) (fun o ho => by rw [zs_ap, if_neg ho])
            · rw [if_neg c4] at hst
              rw [if_neg c4]
              cases r with
              | nil => cases hst
              | cons a q =>
                have ea : M 159 q.length = a := hs.2.1
                simp only [List.length_cons] at hr
                simp (disch := omega) only [List.length_cons, zn_sub, zn_dec, zn_zi, zn_zin, Nat.add_sub_cancel]
                rw [if_pos (by omega), if_pos (by omega)]
                rw [ea]
                rw [show M 159 (q.length + 1) = b from eb]
                simp only at hst
                cases hb : f212_both s a b with
                | none => rw [hb] at hst; cases hst
                | some x =>
                  rw [hb] at hst
                  cases hst
                  simp only [Option.bind_some]
                  rw [if_pos (by omega)]
                  exact fin _ (by rw [zs_ap, if_pos rfl]; exact stk_push hs.2.2) (fun o ho => by rw [zs_ap, if_neg ho])
end
section
-- ===== the class's own runs of steps =====
/-- a step of the class is that of the row -/
def opRel (op arg s v : Int32) : Prop :=
  (op = -2 ∧ s = 0 ∧ v = arg) ∨ (op = 300 ∧ ∃ j, j < 9 ∧ arg = zn j ∧ s = zn (j + 1)) ∨ (op = 47 ∧ s = 26 ∧ v = arg ∧ v ≠ 0) ∨ (op = 262 ∧ s = 30) ∨ (op = 43 ∧ s = 23) ∨ (op = 45 ∧ s = 24) ∨ (op = 42 ∧ s = 25) ∨ (op = 60 ∧ s = 27) ∨ (op = 61 ∧ s = 28) ∨ (op = 62 ∧ s = 29) ∨ (op = 261 ∧ s = 31) ∨ (op = 260 ∧ s = 32)
theorem zal_41 : zal 41 = 9 := rfl
theorem i32_23 {s : Int32} {k : Nat} (e : s = zn k) (h : k < 2147483648) : (s < 23) = (k < 23) := by
  rw [e, zl23]
  exact propext (zn_lt h (by decide))
theorem join_both {op s : Int32} (h : (op = 43 ∧ s = 23) ∨ (op = 45 ∧ s = 24) ∨ (op = 42 ∧ s = 25) ∨ (op = 60 ∧ s = 27) ∨ (op = 61 ∧ s = 28) ∨ (op = 62 ∧ s = 29) ∨ (op = 261 ∧ s = 31) ∨ (op = 260 ∧ s = 32)) (a b : Int32) : ∃ x, f34_joined op a b = some x ∧ f212_both s a b = some x := by
  rcases h with ⟨rfl, rfl⟩ | ⟨rfl, rfl⟩ | ⟨rfl, rfl⟩ | ⟨rfl, rfl⟩ | ⟨rfl, rfl⟩ | ⟨rfl, rfl⟩ | ⟨rfl, rfl⟩ | ⟨rfl, rfl⟩
  · exact ⟨a + b, rfl, rfl⟩
  · exact ⟨a - b, rfl, rfl⟩
  · exact ⟨a * b, rfl, rfl⟩
  · exact ⟨if a < b then 1 else 0, by show (if a < b then some (1 : Int32) else some 0) = _; split <;> rfl, by show (if a < b then some (1 : Int32) else some 0) = _; split <;> rfl⟩
  · exact ⟨if a = b then 1 else 0, by show (if a = b then some (1 : Int32) else some 0) = _; split <;> rfl, by show (if a = b then some (1 : Int32) else some 0) = _; split <;> rfl⟩
  · exact ⟨if b < a then 1 else 0, by show (if b < a then some (1 : Int32) else some 0) = _; split <;> rfl, by show (if b < a then some (1 : Int32) else some 0) = _; split <;> rfl⟩
  · exact ⟨a &&& b, rfl, rfl⟩
  · exact ⟨a ||| b, rfl, rfl⟩
theorem cls_step {F w : Nat → Int32} {c k i n : Nat} {st s1 : List Int32} {M : ZI} (hst : sStep F (w (1244 + 2 * i)) (w (1245 + 2 * i)) st = some s1) (hl : st.length ≤ 64) (hi : i < k) (hic : i < c) (hc : c ≤ 400) (hk : k < 100000) (hM : M 13 3 = zn c) (hop : opRel (M 14 i) (M 15 i) (w (1244 + 2 * i)) (w (1245 + 2 * i))) (hF : ∀ j, j < 9 → M 41 j = F j) (hs : stk (M 16) st) :
    ∃ M1, f30_l10 13 (zn k) 41 0 (n + 1) (zn st.length) (zn i) M = f30_l10 13 (zn k) 41 0 n (zn s1.length) (zn (i + 1)) M1 ∧ stk (M1 16) s1 ∧ ∀ o, o ≠ 16 → M1 o = M o := by
  have hi4 : zin (zn i) 400 = true := (zn_zin (by omega)).mpr (by omega)
  have e1 : zn i + 1 = zn (i + 1) := zn_add i 1
  rw [f30_l10, if_pos ((zn_lt (by omega) (by omega)).mpr hi), hM, if_pos ((zn_lt (by omega) (by omega)).mpr hic), if_pos hi4, zn_zi (show i < 2147483648 by omega), e1]
  simp only [zlet, Nat.reduceAdd]
  generalize hs' : w (1244 + 2 * i) = s at hst hop
  generalize hv' : w (1245 + 2 * i) = v at hst hop
  have zz : zi (zn i) = i := zn_zi (by omega)
  generalize ha' : M 15 i = arg at hop ⊢
  generalize M 14 i = op at hop ⊢
  have push : ∀ x : Int32, st.length < 64 → s1 = x :: st → ∃ M1, (if zin (zn st.length) 64 = true then f30_l10 13 (zn k) 41 0 n (zn st.length + 1) (zn (i + 1)) (zs M 16 (zi (zn st.length)) x) else none) = f30_l10 13 (zn k) 41 0 n (zn s1.length) (zn (i + 1)) M1 ∧ stk (M1 16) s1 ∧ ∀ o, o ≠ 16 → M1 o = M o := by
    intro x h1 h2
    subst h2
    rw [if_pos ((zn_zin (by omega)).mpr h1), zn_zi (by omega)]
    refine ⟨zs M 16 st.length x, by rw [show zn st.length + 1 = zn (st.length + 1) from zn_add _ 1]; rfl, ?_, fun o ho => by rw [zs_ap, if_neg ho]⟩
    rw [zs_ap, if_pos rfl]
    exact stk_push hs
  have h64 : ∀ h : st.length < 64, zn st.length < 64 := fun h => (zn_lt (by omega) (by decide)).mpr h
  rcases hop with ⟨rfl, rfl, rfl⟩ | ⟨rfl, j, hj, rfl, rfl⟩ | ⟨rfl, rfl, rfl, hv0⟩ | ⟨rfl, rfl⟩ | hop
  · unfold sStep at hst
    rw [if_pos (by decide)] at hst
    split at hst
    · rename_i h1
      rw [if_pos rfl] at hst
      cases hst
      exact (by
        have := push v h1 rfl
        rw [show f31_isValue (-2) = some 1 from rfl]
        simp only [Option.bind_some]
        rw [if_neg (by decide), if_pos (h64 h1), if_pos hi4]
        exact this)
    · cases hst
  · unfold sStep at hst
    rw [if_pos (by rw [zl23]; exact (zn_lt (by omega) (by decide)).mpr (by omega))] at hst
    split at hst
    · rename_i h1
      rw [if_neg (by rw [zl0, zn_eq (by omega) (by decide)]; omega), if_pos ((zn_zin (by omega)).mpr (by omega)), zn_zi (by omega), Nat.add_sub_cancel] at hst
      cases hst
      have := push (F j) h1 rfl
      rw [show f31_isValue 300 = some 1 from rfl]
      simp only [Option.bind_some]
      rw [if_neg (by decide), if_pos (h64 h1), if_pos hi4]
      have hv : f32_value 300 (zn j) 41 0 M = some (F j) := by
        unfold f32_value
        rw [if_neg (by decide), if_pos rfl, if_neg (zn_nneg (by omega)), zal_41, show Int32.ofNat 9 = zn 9 from rfl, if_pos ((zn_lt (by omega) (by decide)).mpr hj), if_pos ((zn_zin (by omega)).mpr hj), zn_zi (by omega), hF j hj]
      rw [hv]
      exact this
    · cases hst
  · unfold sStep at hst
    rw [if_neg (by decide)] at hst
    cases st with
    | nil => cases hst
    | cons b r =>
      simp only [List.length_cons] at hl
      simp only [↓reduceIte] at hst
      rw [if_neg hv0] at hst
      cases hst
      rw [show f31_isValue 47 = some 0 from rfl]
      simp only [Option.bind_some, List.length_cons, ↓reduceIte]
      have e2 : zn (r.length + 1) - 1 = zn r.length := zn_sub (i := r.length + 1) (j := 1) (by omega)
      have hz : zin (zn r.length) 64 = true := (zn_zin (by omega)).mpr (by omega)
      rw [if_pos (zlt0 (by omega) (by omega)), if_pos hi4, e2, if_pos hz, zz, e1, ha', zn_zi (show r.length < 2147483648 by omega), hs.1]
      have hv : f33_changed 47 v b = some (b / v) := by
        unfold f33_changed
        rw [if_neg (by decide), if_neg hv0, if_neg hv0]
      rw [hv]
      simp only [Option.bind_some]
      rw [if_pos hz]
      exact ⟨_, rfl, by rw [zs_ap, if_pos rfl]; exact stk_push hs.2, fun o ho => by rw [zs_ap, if_neg ho]⟩
  · unfold sStep at hst
    rw [if_neg (by decide)] at hst
    cases st with
    | nil => cases hst
    | cons b r =>
      simp only [List.length_cons] at hl
      simp only [↓reduceIte] at hst
      rw [if_neg (show (30 : Int32) ≠ 26 from by decide)] at hst
      cases hst
      rw [show f31_isValue 262 = some 0 from rfl]
      simp only [Option.bind_some, List.length_cons, ↓reduceIte]
      have e2 : zn (r.length + 1) - 1 = zn r.length := zn_sub (i := r.length + 1) (j := 1) (by omega)
      have hz : zin (zn r.length) 64 = true := (zn_zin (by omega)).mpr (by omega)
      rw [if_neg (by decide), if_pos (zlt0 (by omega) (by omega)), if_pos hi4, e2, if_pos hz, zz, e1, ha', zn_zi (show r.length < 2147483648 by omega), hs.1]
      rw [show f33_changed 262 arg b = some ((1 : Int32) - b) from rfl]
      simp only [Option.bind_some]
      rw [if_pos hz]
      exact ⟨_, rfl, by rw [zs_ap, if_pos rfl]; exact stk_push hs.2, fun o ho => by rw [zs_ap, if_neg ho]⟩
  · unfold sStep at hst
    have hs1 : ¬ s < 23 ∧ s ≠ 26 ∧ s ≠ 30 ∧ f31_isValue op = some 0 ∧ op ≠ 47 ∧ op ≠ 262 := by
      rcases hop with ⟨rfl, rfl⟩ | ⟨rfl, rfl⟩ | ⟨rfl, rfl⟩ | ⟨rfl, rfl⟩ | ⟨rfl, rfl⟩ | ⟨rfl, rfl⟩ | ⟨rfl, rfl⟩ | ⟨rfl, rfl⟩ <;> exact ⟨by decide, by decide, by decide, rfl, by decide, by decide⟩
    obtain ⟨c1, c2, c3, c4, c5, c6⟩ := hs1
    rw [if_neg c1] at hst
    cases st with
    | nil => cases hst
    | cons b r =>
      simp only at hst
      rw [if_neg c2, if_neg c3] at hst
      cases r with
      | nil => cases hst
      | cons a q =>
        simp only [List.length_cons] at hl
        simp only at hst
        obtain ⟨x, hj, hb⟩ := join_both hop a b
        rw [hb] at hst
        cases hst
        rw [c4]
        simp only [Option.bind_some, List.length_cons, ↓reduceIte]
        have e2 : zn (q.length + 1 + 1) + -1 = zn (q.length + 1) := zn_dec (k := q.length + 1 + 1) (by omega)
        have e3 : zn (q.length + 1) - 1 = zn q.length := zn_sub (i := q.length + 1) (j := 1) (by omega)
        have hz : zin (zn q.length) 64 = true := (zn_zin (by omega)).mpr (by omega)
        have hz2 : zin (zn (q.length + 1)) 64 = true := (zn_zin (by omega)).mpr (by omega)
        rw [if_neg c5, if_neg c6, if_pos (zlt1 (by omega) (by omega)), e2, e3, if_pos hz, if_pos hz2, zn_zi (show q.length < 2147483648 by omega), zn_zi (show q.length + 1 < 2147483648 by omega), hs.2.1, show M 16 (q.length + 1) = b from hs.1, hj]
        simp only [Option.bind_some]
        rw [if_pos hz]
        exact ⟨_, rfl, by rw [zs_ap, if_pos rfl]; exact stk_push hs.2.2, fun o ho => by rw [zs_ap, if_neg ho]⟩
theorem cls_run {F w : Nat → Int32} {c : Nat} (hc : c ≤ 400) : ∀ (k i : Nat) (st st' : List Int32) (M : ZI) (fuel : Nat), sRun F w k i st = some st' → k < fuel → st.length ≤ 64 → i + k ≤ c → M 13 3 = zn c → (∀ j, j < c → opRel (M 14 j) (M 15 j) (w (1244 + 2 * j)) (w (1245 + 2 * j))) → (∀ j, j < 9 → M 41 j = F j) → stk (M 16) st →
    ∃ M', f30_l10 13 (zn (i + k)) 41 0 fuel (zn st.length) (zn i) M = some (zn st'.length, M') ∧ stk (M' 16) st' ∧ ∀ o, o ≠ 16 → M' o = M o := by
  intro k
  induction k with
  | zero =>
    intro i st st' M fuel h hf hl hi hM hop hF hs
    obtain ⟨n, rfl⟩ : ∃ n, fuel = n + 1 := ⟨fuel - 1, by omega⟩
    cases h
    refine ⟨M, ?_, hs, fun _ _ => rfl⟩
    rw [f30_l10, if_neg (by rw [zn_lt (by omega) (by omega)]; omega)]
  | succ k ih =>
    intro i st st' M fuel h hf hl hi hM hop hF hs
    obtain ⟨n, rfl⟩ : ∃ n, fuel = n + 1 := ⟨fuel - 1, by omega⟩
    unfold sRun at h
    cases hst : sStep F (w (1244 + 2 * i)) (w (1245 + 2 * i)) st with
    | none => rw [hst] at h; cases h
    | some s1 =>
      rw [hst] at h
      simp only [Option.bind_some] at h
      obtain ⟨M1, e, h1, h2⟩ := cls_step (n := n) (k := i + (k + 1)) hst hl (by omega) (by omega) hc (by omega) hM (hop i (by omega)) hF hs
      rw [e, show i + (k + 1) = (i + 1) + k by omega]
      obtain ⟨M', a1, a2, a3⟩ := ih (i + 1) s1 st' M1 n h (by omega) (sStep_len hst hl) (by omega) (by rw [h2 13 (by decide)]; exact hM) (fun j hj => by rw [h2 14 (by decide), h2 15 (by decide)]; exact hop j hj) (fun j hj => by rw [h2 41 (by decide)]; exact hF j hj) h1
      exact ⟨M', a1, a2, fun o ho => (a3 o ho).trans (h2 o ho)⟩
/-- one piece of THE LAW, asked by the class and by the reference -/
theorem run_both {F w : Nat → Int32} {c a b : Nat} {x : Int32} {M : ZI} (hc : c ≤ 400) (h : sRun F w (b - a) a [] = some [x]) (hab : a ≤ b) (hb : b ≤ c) (hM : M 13 3 = zn c) (hop : ∀ j, j < c → opRel (M 14 j) (M 15 j) (w (1244 + 2 * j)) (w (1245 + 2 * j))) (hF : ∀ j, j < 9 → M 41 j = F j) :
    ∃ M', f30_run 13 (zn a) (zn b) 41 0 M = some (x, M') ∧ ∀ o, o ≠ 16 → M' o = M o := by
  obtain ⟨M', e, h1, h2⟩ := cls_run hc (b - a) a [] [x] M zfu h (by rw [zfu_eq]; omega) (Nat.zero_le _) (by omega) hM hop hF trivial
  refine ⟨M', ?_, h2⟩
  have e1 : zmax (zn a) 0 = zn a := by
    unfold zmax
    split
    · rename_i h3; exact absurd h3 (zn_nneg (by omega))
    · rfl
  rw [show a + (b - a) = b by omega, show zn ([] : List Int32).length = 0 from rfl] at e
  rw [f30_run, e1]
  simp only [zlet, e, Option.bind_some]
  rw [show zn [x].length = zn 1 from rfl, if_pos (by decide), if_pos (by decide)]
  have : M' (13 + 3) (zi (zn 1 - 1)) = x := h1.1
  rw [this]
theorem run_ref {F w : Nat → Int32} {a b : Nat} {x : Int32} {M : ZI} (h : sRun F w (b - a) a [] = some [x]) (hab : a ≤ b) (hb : b ≤ 410) (hw : M 149 = w) (hF : ∀ j, j < 9 → M 160 (j + 1) = F j) :
    ∃ M', f211_comesTo 0 (zn a) (zn b) M = some (x, M') ∧ ∀ o, o ≠ 159 → M' o = M o := by
  obtain ⟨M', e, h1, h2⟩ := ref_run (b - a) a [] [x] M zfu h (by rw [zfu_eq]; omega) (Nat.zero_le _) (by omega) hw hF trivial
  refine ⟨M', ?_, h2⟩
  rw [show a + (b - a) = b by omega, show zn ([] : List Int32).length = 0 from rfl] at e
  rw [f211_comesTo, e]
  simp only [Option.bind_some]
  have : M' 159 0 = x := h1.1
  rw [this]
end
section
-- ===== THE COUNCIL's rule, on both sides =====
def popN : Nat → Nat → Nat
  | 0, _ => 0
  | k + 1, s => s % 2 + popN k (s / 2)
def pop (s : Nat) : Nat := popN 10 s
theorem popN_le : ∀ k s, popN k s ≤ k
  | 0, _ => Nat.le_refl _
  | k + 1, s => by
    have := popN_le k (s / 2)
    unfold popN
    omega
theorem pop_le (s : Nat) : pop s ≤ 10 := popN_le 10 s
theorem bitCount_zn {s : Nat} (h : s < 1024) : f28_bitCount (zn s) = some (zn (pop s)) := by
  have : ∀ s : Fin 1024, f28_bitCount (zn s.val) = some (zn (pop s.val)) := by decide +kernel
  exact this ⟨s, h⟩
theorem count_zn {s : Nat} (h : s < 1024) : f209_count (zn s) = some (zn (pop s)) := by
  have : ∀ s : Fin 1024, f209_count (zn s.val) = some (zn (pop s.val)) := by decide +kernel
  exact this ⟨s, h⟩
/-- one step of THE COUNCIL's rule, put to the set s -/
def cStep (S : Nat) (s : Int32) (st : List Int32) : Option (List Int32) :=
  if s < 40 then
    if st.length < 64 then
      if s < 20 then some ((zshr (zn S) s &&& 1) :: st) else some ((if zn (pop S) < s - 20 then 0 else 1) :: st)
    else none
  else match st with
  | [] => none
  | b :: r => match r with
    | [] => none
    | a :: q => some ((if s = 40 then a &&& b else a ||| b) :: q)
def cRun (S : Nat) (w : Nat → Int32) : Nat → Nat → List Int32 → Option (List Int32)
  | 0, _, st => some st
  | k + 1, i, st => (cStep S (w (162 + i)) st).bind (cRun S w k (i + 1))
def ruleRel (op arg s : Int32) : Prop :=
  (op = 301 ∧ ∃ j, j < 10 ∧ arg = zn j ∧ s = zn j) ∨ (op = 279 ∧ ∃ j, j < 11 ∧ arg = zn j ∧ s = zn (20 + j)) ∨ (op = 261 ∧ s = 40) ∨ (op = 260 ∧ s = 41)
theorem cStep_len {S : Nat} {s : Int32} {st st' : List Int32} (h : cStep S s st = some st') (hl : st.length ≤ 64) : st'.length ≤ 64 := by
  unfold cStep at h
  split at h
  · split at h
    · split at h <;> (cases h; simp only [List.length_cons]; omega)
    · cases h
  · cases st with
    | nil => cases h
    | cons b r => cases r with
      | nil => cases h
      | cons a q => cases h; simp only [List.length_cons] at hl ⊢; omega
theorem clc_step {S : Nat} (hS : S < 1024) {w : Nat → Int32} {k i n : Nat} {st s1 : List Int32} {M : ZI} (hst : cStep S (w (162 + i)) st = some s1) (hl : st.length ≤ 64) (hi : i < k) (hk : k ≤ 400) (hM : M 30 3 = zn k) (hop : ruleRel (M 31 i) (M 32 i) (w (162 + i))) (hs : stk (M 33) st) :
    ∃ M1, f30_l10n 30 (zn k) (zn S) (n + 1) (zn st.length) (zn i) M = f30_l10n 30 (zn k) (zn S) n (zn s1.length) (zn (i + 1)) M1 ∧ stk (M1 33) s1 ∧ ∀ o, o ≠ 33 → M1 o = M o := by
  have hi4 : zin (zn i) 400 = true := (zn_zin (by omega)).mpr (by omega)
  have e1 : zn i + 1 = zn (i + 1) := zn_add i 1
  have zz : zi (zn i) = i := zn_zi (by omega)
  have hik : zn i < zn k := (zn_lt (by omega) (by omega)).mpr hi
  rw [f30_l10n, if_pos hik, hM, if_pos hik, if_pos hi4, zz, e1]
  simp only [zlet, Nat.reduceAdd]
  generalize hs' : w (162 + i) = s at hst hop
  generalize ha' : M 32 i = arg at hop ⊢
  generalize M 31 i = op at hop ⊢
  have push : ∀ x : Int32, st.length < 64 → s1 = x :: st → ∃ M1, (if zin (zn st.length) 64 = true then f30_l10n 30 (zn k) (zn S) n (zn st.length + 1) (zn (i + 1)) (zs M 33 (zi (zn st.length)) x) else none) = f30_l10n 30 (zn k) (zn S) n (zn s1.length) (zn (i + 1)) M1 ∧ stk (M1 33) s1 ∧ ∀ o, o ≠ 33 → M1 o = M o := by
    intro x h1 h2
    subst h2
    rw [if_pos ((zn_zin (by omega)).mpr h1), zn_zi (by omega)]
    refine ⟨zs M 33 st.length x, by rw [show zn st.length + 1 = zn (st.length + 1) from zn_add _ 1]; rfl, ?_, fun o ho => by rw [zs_ap, if_neg ho]⟩
    rw [zs_ap, if_pos rfl]
    exact stk_push hs
  have h64 : ∀ h : st.length < 64, zn st.length < 64 := fun h => (zn_lt (by omega) (by decide)).mpr h
  have both : ∀ f : Int32 → Int32 → Int32, ¬ s < 40 → f31_isValue op = some 0 → op ≠ 47 → op ≠ 262 → (∀ a b, f34_joined op a b = some (f a b)) → (∀ a b, (if s = 40 then a &&& b else a ||| b) = f a b) → ∃ M1, ((f31_isValue op).bind fun v7 => if v7 = 0 then if op = 47 then if 0 < zn st.length then if zin (zn i) 400 = true then if zin (zn st.length - 1) 64 = true then (f33_changed op (M 32 (zi (zn i))) (M 33 (zi (zn st.length - 1)))).bind fun v11 => if zin (zn st.length - 1) 64 = true then f30_l10n 30 (zn k) (zn S) n (zn st.length) (zn i + 1) (zs M 33 (zi (zn st.length - 1)) v11) else none else none else none else f30_l10n 30 (zn k) (zn S) n (zn st.length) (zn i + 1) M else if op = 262 then if 0 < zn st.length then if zin (zn i) 400 = true then if zin (zn st.length - 1) 64 = true then (f33_changed op (M 32 (zi (zn i))) (M 33 (zi (zn st.length - 1)))).bind fun v11 => if zin (zn st.length - 1) 64 = true then f30_l10n 30 (zn k) (zn S) n (zn st.length) (zn i + 1) (zs M 33 (zi (zn st.length - 1)) v11) else none else none else none else f30_l10n 30 (zn k) (zn S) n (zn st.length) (zn i + 1) M else if 1 < zn st.length then if zin (zn st.length + -1 - 1) 64 = true then if zin (zn st.length + -1) 64 = true then (f34_joined op (M 33 (zi (zn st.length + -1 - 1))) (M 33 (zi (zn st.length + -1)))).bind fun v14 => if zin (zn st.length + -1 - 1) 64 = true then f30_l10n 30 (zn k) (zn S) n (zn st.length + -1) (zn (i + 1)) (zs M 33 (zi (zn st.length + -1 - 1)) v14) else none else none else none else f30_l10n 30 (zn k) (zn S) n (zn st.length) (zn (i + 1)) M else if zn st.length < 64 then if zin (zn i) 400 = true then (f32_valuen op arg (zn S) M).bind fun v16 => if zin (zn st.length) 64 = true then f30_l10n 30 (zn k) (zn S) n (zn st.length + 1) (zn (i + 1)) (zs M 33 (zi (zn st.length)) v16) else none else none else f30_l10n 30 (zn k) (zn S) n (zn st.length) (zn (i + 1)) M) = f30_l10n 30 (zn k) (zn S) n (zn s1.length) (zn (i + 1)) M1 ∧ stk (M1 33) s1 ∧ ∀ o, o ≠ 33 → M1 o = M o := by
    intro f c1 c4 c5 c6 hj hb
    unfold cStep at hst
    rw [if_neg c1] at hst
    cases st with
    | nil => cases hst
    | cons b r => cases r with
      | nil => cases hst
      | cons a q =>
        simp only [List.length_cons] at hl
        simp only [hb] at hst
        cases hst
        rw [c4]
        simp only [Option.bind_some, List.length_cons, ↓reduceIte]
        have e2 : zn (q.length + 1 + 1) + -1 = zn (q.length + 1) := zn_dec (k := q.length + 1 + 1) (by omega)
        have e3 : zn (q.length + 1) - 1 = zn q.length := zn_sub (i := q.length + 1) (j := 1) (by omega)
        have hz : zin (zn q.length) 64 = true := (zn_zin (by omega)).mpr (by omega)
        have hz2 : zin (zn (q.length + 1)) 64 = true := (zn_zin (by omega)).mpr (by omega)
        rw [if_neg c5, if_neg c6, if_pos (zlt1 (by omega) (by omega)), e2, e3, if_pos hz, if_pos hz2, zn_zi (show q.length < 2147483648 by omega), zn_zi (show q.length + 1 < 2147483648 by omega), hs.2.1, show M 33 (q.length + 1) = b from hs.1, hj]
        simp only [Option.bind_some]
        rw [if_pos hz]
        exact ⟨_, rfl, by rw [zs_ap, if_pos rfl]; exact stk_push hs.2.2, fun o ho => by rw [zs_ap, if_neg ho]⟩
  rcases hop with ⟨rfl, j, hj, rfl, rfl⟩ | ⟨rfl, j, hj, rfl, rfl⟩ | ⟨rfl, rfl⟩ | ⟨rfl, rfl⟩
  · unfold cStep at hst
    rw [if_pos (by rw [zl40]; exact (zn_lt (by omega) (by decide)).mpr (by omega))] at hst
    split at hst
    · rename_i h1
      rw [if_pos (by rw [zl20]; exact (zn_lt (by omega) (by decide)).mpr (by omega))] at hst
      cases hst
      have := push _ h1 rfl
      rw [show f31_isValue 301 = some 1 from rfl]
      simp only [Option.bind_some]
      rw [if_neg (by decide), if_pos (h64 h1), if_pos hi4, show f32_valuen 301 (zn j) (zn S) M = some (zshr (zn S) (zn j) &&& 1) from rfl]
      exact this
    · cases hst
  · unfold cStep at hst
    rw [if_pos (by rw [zl40]; exact (zn_lt (by omega) (by decide)).mpr (by omega))] at hst
    split at hst
    · rename_i h1
      rw [if_neg (by rw [zl20, zn_lt (by omega) (by decide)]; omega), show zn (20 + j) - 20 = zn j by rw [zl20, zn_sub (by omega)]; congr 1; omega] at hst
      cases hst
      have := push _ h1 rfl
      rw [show f31_isValue 279 = some 1 from rfl]
      simp only [Option.bind_some]
      have hv : f32_valuen 279 (zn j) (zn S) M = some (if zn (pop S) < zn j then 0 else 1) := by
        unfold f32_valuen
        rw [if_neg (by decide), if_neg (by decide), if_neg (by decide), bitCount_zn hS]
        simp only [Option.bind_some]
        split <;> rfl
      rw [if_neg (by decide), if_pos (h64 h1), if_pos hi4, hv]
      exact this
    · cases hst
  · exact both (fun a b => a &&& b) (by decide) rfl (by decide) (by decide) (fun _ _ => rfl) (fun _ _ => rfl)
  · exact both (fun a b => a ||| b) (by decide) rfl (by decide) (by decide) (fun _ _ => rfl) (fun _ _ => rfl)
theorem clc_run {S : Nat} (hS : S < 1024) {w : Nat → Int32} {c : Nat} (hc : c ≤ 400) : ∀ (k i : Nat) (st st' : List Int32) (M : ZI) (fuel : Nat), cRun S w k i st = some st' → k < fuel → st.length ≤ 64 → i + k = c → M 30 3 = zn c → (∀ j, j < c → ruleRel (M 31 j) (M 32 j) (w (162 + j))) → stk (M 33) st →
    ∃ M', f30_l10n 30 (zn c) (zn S) fuel (zn st.length) (zn i) M = some (zn st'.length, M') ∧ stk (M' 33) st' ∧ ∀ o, o ≠ 33 → M' o = M o := by
  intro k
  induction k with
  | zero =>
    intro i st st' M fuel h hf hl hi hM hop hs
    obtain ⟨n, rfl⟩ : ∃ n, fuel = n + 1 := ⟨fuel - 1, by omega⟩
    cases h
    refine ⟨M, ?_, hs, fun _ _ => rfl⟩
    rw [f30_l10n, if_neg (by rw [zn_lt (by omega) (by omega)]; omega)]
  | succ k ih =>
    intro i st st' M fuel h hf hl hi hM hop hs
    obtain ⟨n, rfl⟩ : ∃ n, fuel = n + 1 := ⟨fuel - 1, by omega⟩
    unfold cRun at h
    cases hst : cStep S (w (162 + i)) st with
    | none => rw [hst] at h; cases h
    | some s1 =>
      rw [hst] at h
      simp only [Option.bind_some] at h
      obtain ⟨M1, e, h1, h2⟩ := clc_step hS (n := n) (k := c) hst hl (by omega) hc hM (hop i (by omega)) hs
      rw [e]
      obtain ⟨M', a1, a2, a3⟩ := ih (i + 1) s1 st' M1 n h (by omega) (cStep_len hst hl) (by omega) (by rw [h2 30 (by decide)]; exact hM) (fun j hj => by rw [h2 31 (by decide), h2 32 (by decide)]; exact hop j hj) h1
      exact ⟨M', a1, a2, fun o ho => (a3 o ho).trans (h2 o ho)⟩
theorem rfc_run {S : Nat} (hS : S < 1024) {w : Nat → Int32} {c : Nat} (hc : c ≤ 400) : ∀ (k i : Nat) (st st' : List Int32) (M : ZI) (fuel : Nat), cRun S w k i st = some st' → k < fuel → st.length ≤ 64 → i + k = c → M 149 = w → w 54 = zn c → (∀ j, j < c → ∃ op arg, ruleRel op arg (w (162 + j))) → stk (M 159) st →
    ∃ M', f215_l4 (zn S) fuel (zn st.length) (zn i) M = some (zn st'.length, M') ∧ stk (M' 159) st' ∧ ∀ o, o ≠ 159 → M' o = M o := by
  intro k
  induction k with
  | zero =>
    intro i st st' M fuel h hf hl hi hw hM hop hs
    obtain ⟨n, rfl⟩ : ∃ n, fuel = n + 1 := ⟨fuel - 1, by omega⟩
    cases h
    refine ⟨M, ?_, hs, fun _ _ => rfl⟩
    rw [f215_l4, hw, hM, if_neg (by rw [zn_lt (by omega) (by omega)]; omega)]
  | succ k ih =>
    intro i st st' M fuel h hf hl hi hw hM hop hs
    obtain ⟨n, rfl⟩ : ∃ n, fuel = n + 1 := ⟨fuel - 1, by omega⟩
    unfold cRun at h
    cases hst : cStep S (w (162 + i)) st with
    | none => rw [hst] at h; cases h
    | some s1 =>
      rw [hst] at h
      simp only [Option.bind_some] at h
      have hz : zin (162 + zn i) 2064 = true := by rw [zl162, zn_add]; exact (zn_zin (by omega)).mpr (by omega)
      have zz : zi (162 + zn i) = 162 + i := by rw [zl162, zn_add, zn_zi (by omega)]
      have e1 : zn i + 1 = zn (i + 1) := zn_add i 1
      have fin : ∀ M1 : ZI, stk (M1 159) s1 → (∀ o, o ≠ 159 → M1 o = M o) → ∃ M', f215_l4 (zn S) n (zn s1.length) (zn (i + 1)) M1 = some (zn st'.length, M') ∧ stk (M' 159) st' ∧ ∀ o, o ≠ 159 → M' o = M o := by
        intro M1 h1 h2
        obtain ⟨M', a1, a2, a3⟩ := ih (i + 1) s1 st' M1 n h (by omega) (cStep_len hst hl) (by omega) ((h2 149 (by decide)).trans hw) hM hop h1
        exact ⟨M', a1, a2, fun o ho => (a3 o ho).trans (h2 o ho)⟩
      rw [f215_l4, hw, hM, if_pos ((zn_lt (by omega) (by omega)).mpr (by omega)), if_pos hz, zz, e1]
      obtain ⟨op, arg, hop⟩ := hop i (by omega)
      generalize w (162 + i) = s at hst hop ⊢
      simp only [zlet]
      have push : ∀ x : Int32, st.length < 64 → s1 = x :: st → ∃ M', (if zin (zn st.length) 420 = true then f215_l4 (zn S) n (zn st.length + 1) (zn (i + 1)) (zs M 159 (zi (zn st.length)) x) else none) = some (zn st'.length, M') ∧ stk (M' 159) st' ∧ ∀ o, o ≠ 159 → M' o = M o := by
        intro x h1 h2
        subst h2
        rw [if_pos ((zn_zin (by omega)).mpr (by omega)), zn_zi (by omega), show zn st.length + 1 = zn (st.length + 1) from zn_add _ 1]
        exact fin _ (by rw [zs_ap, if_pos rfl]; exact stk_push hs) (fun o ho => by rw [zs_ap, if_neg ho])
      rcases hop with ⟨-, j, hj, -, rfl⟩ | ⟨-, j, hj, -, rfl⟩ | hop
      · unfold cStep at hst
        have c1 : zn j < 40 := by rw [zl40]; exact (zn_lt (by omega) (by decide)).mpr (by omega)
        have c2 : zn j < 20 := by rw [zl20]; exact (zn_lt (by omega) (by decide)).mpr (by omega)
        rw [if_pos c1, if_pos c2] at hst
        rw [if_pos c1, if_pos c2]
        split at hst
        · cases hst
          exact push _ (by assumption) rfl
        · cases hst
      · unfold cStep at hst
        have c1 : zn (20 + j) < 40 := by rw [zl40]; exact (zn_lt (by omega) (by decide)).mpr (by omega)
        have c2 : ¬ zn (20 + j) < 20 := by rw [zl20, zn_lt (by omega) (by decide)]; omega
        rw [if_pos c1, if_neg c2] at hst
        rw [if_pos c1, if_neg c2, count_zn hS]
        simp only [Option.bind_some]
        split at hst
        · split at hst
          · rename_i c3
            cases hst
            rw [if_pos c3]
            exact push _ (by assumption) rfl
          · rename_i c3
            cases hst
            rw [if_neg c3]
            exact push _ (by assumption) rfl
        · cases hst
      · have c1 : ¬ s < 40 := by rcases hop with ⟨-, rfl⟩ | ⟨-, rfl⟩ <;> decide
        unfold cStep at hst
        rw [if_neg c1] at hst
        rw [if_neg c1]
        cases st with
        | nil => cases hst
        | cons b r => cases r with
          | nil => cases hst
          | cons a q =>
            simp only [List.length_cons] at hl
            simp only at hst
            have e2 : zn (q.length + 1 + 1) + -1 = zn (q.length + 1) := zn_dec (k := q.length + 1 + 1) (by omega)
            have e3 : zn (q.length + 1) - 1 = zn q.length := zn_sub (i := q.length + 1) (j := 1) (by omega)
            have hz1 : zin (zn q.length) 420 = true := (zn_zin (by omega)).mpr (by omega)
            have hz2 : zin (zn (q.length + 1)) 420 = true := (zn_zin (by omega)).mpr (by omega)
            simp only [List.length_cons]
            rw [e2, e3, if_pos hz1, if_pos hz2, if_pos hz1, if_pos hz1, if_pos hz2, if_pos hz1, zn_zi (show q.length < 2147483648 by omega), zn_zi (show q.length + 1 < 2147483648 by omega), hs.2.1, show M 159 (q.length + 1) = b from hs.1]
            split at hst
            · rename_i c3
              cases hst
              rw [if_pos c3]
              exact fin _ (by rw [zs_ap, if_pos rfl]; exact stk_push hs.2.2) (fun o ho => by rw [zs_ap, if_neg ho])
            · rename_i c3
              cases hst
              rw [if_neg c3]
              exact fin _ (by rw [zs_ap, if_pos rfl]; exact stk_push hs.2.2) (fun o ho => by rw [zs_ap, if_neg ho])
theorem cStep_pos {S : Nat} {s : Int32} {st st' : List Int32} (h : cStep S s st = some st') : st' ≠ [] := by
  unfold cStep at h
  split at h
  · split at h
    · split at h <;> (cases h; exact List.cons_ne_nil _ _)
    · cases h
  · cases st with
    | nil => cases h
    | cons b r => cases r with
      | nil => cases h
      | cons a q => cases h; exact List.cons_ne_nil _ _
theorem cRun_ne {S : Nat} {w : Nat → Int32} : ∀ (k i : Nat) (st : List Int32), cRun S w (k + 1) i st ≠ some []
  | k, i, st => by
    intro h
    unfold cRun at h
    cases hst : cStep S (w (162 + i)) st with
    | none => rw [hst] at h; cases h
    | some s1 =>
      rw [hst] at h
      simp only [Option.bind_some] at h
      cases k with
      | zero => cases h; exact cStep_pos hst rfl
      | succ k => exact cRun_ne k (i + 1) s1 h
/-- whether the set S does for THE COUNCIL: 1, 0 -/
def sSat (w : Nat → Int32) (S : Nat) : Int32 := match cRun S w (zi (w 54)) 0 [] with
  | some (x :: _) => x
  | _ => 1
def ruleOk (w : Nat → Int32) : Prop := ∃ c, c ≤ 400 ∧ w 54 = zn c ∧ (c = 0 ↔ w 53 = 0) ∧ (∀ j, j < c → ∃ op arg, ruleRel op arg (w (162 + j))) ∧ ∀ S, S < 1024 → cRun S w c 0 [] = some [] ∨ ∃ x, (x = 0 ∨ x = 1) ∧ cRun S w c 0 [] = some [x]
/-- the class has THE COUNCIL of the row w; t is its place -/
def ruleIs (M : ZI) (t : Nat) (w : Nat → Int32) : Prop := M t 1 = w 53 ∧ M (t + 1) 3 = w 54 ∧ ∀ j, j < zi (w 54) → ruleRel (M (t + 2) j) (M (t + 3) j) (w (162 + j))
theorem met_eq {w : Nat → Int32} {M : ZI} {S : Nat} (hS : S < 1024) (hr : ruleOk w) (hi : ruleIs M 29 w) : ∃ M', f37_isMetBy 29 (zn S) M = some (sSat w S, M') ∧ ∀ o, o ≠ 33 → M' o = M o := by
  obtain ⟨c, hc, h54, h53, -, hrun⟩ := hr
  obtain ⟨e1, e2, e3⟩ := hi
  simp only [Nat.reduceAdd] at e2 e3
  have hzc : zi (w 54) = c := by rw [h54, zn_zi (by omega)]
  unfold f37_isMetBy
  by_cases h0 : w 53 = 0
  · rw [e1, if_pos h0]
    have : c = 0 := h53.mpr h0
    subst this
    exact ⟨M, by rw [sSat, hzc]; rfl, fun _ _ => rfl⟩
  · rw [e1, if_neg h0]
    have hc0 : c ≠ 0 := fun e => h0 (h53.mp e)
    rw [hzc] at e3
    have fin : ∀ x st' M', cRun S w c 0 [] = some st' → st' = [x] → (x = 0 ∨ x = 1) → f30_l10n 30 (zn c) (zn S) zfu (zn ([] : List Int32).length) (zn 0) M = some (zn st'.length, M') → stk (M' 33) st' → (∀ o, o ≠ 33 → M' o = M o) → ∃ M', (f30_runn (29 + 1) 0 (M (29 + 1) 3) (zn S) M).bind (fun p => if p.1 = 0 then some ((0 : Int32), p.2) else some ((1 : Int32), p.2)) = some (sSat w S, M') ∧ ∀ o, o ≠ 33 → M' o = M o := by
      intro x st' M' h1 h2 h3 h4 h5 h6
      subst h2
      refine ⟨M', ?_, h6⟩
      have hv : f30_runn 30 0 (M 30 3) (zn S) M = some (x, M') := by
        unfold f30_runn
        rw [show zmax 0 0 = zn 0 from rfl, e2, h54]
        simp only [zlet]
        rw [show zn ([] : List Int32).length = 0 from rfl] at h4
        rw [h4]
        simp only [Option.bind_some]
        rw [show zn [x].length = zn 1 from rfl, if_pos (by decide), if_pos (by decide)]
        have : M' (30 + 3) (zi (zn 1 - 1)) = x := h5.1
        rw [this]
      have hss : sSat w S = x := by rw [sSat, hzc, h1]
      simp only [Nat.reduceAdd]
      rw [hv, hss]
      rcases h3 with rfl | rfl
      · rfl
      · rfl
    rcases hrun S hS with h1 | ⟨x, hx, h1⟩
    · exfalso
      obtain ⟨k, rfl⟩ : ∃ k, c = k + 1 := ⟨c - 1, by omega⟩
      exact cRun_ne k 0 [] h1
    · obtain ⟨M', a1, a2, a3⟩ := clc_run hS hc c 0 [] [x] M zfu h1 (by rw [zfu_eq]; omega) (Nat.zero_le _) (by omega) (by rw [e2, h54]) e3 trivial
      exact fin x [x] M' h1 rfl hx a1 a2 a3
theorem sat_eq {w : Nat → Int32} {M : ZI} {S : Nat} (hS : S < 1024) (hr : ruleOk w) (hw : M 149 = w) : ∃ M', f215_satisfies (zn S) M = some (sSat w S, M') ∧ ∀ o, o ≠ 159 → M' o = M o := by
  obtain ⟨c, hc, h54, h53, hop, hrun⟩ := hr
  have hzc : zi (w 54) = c := by rw [h54, zn_zi (by omega)]
  have fin : ∀ st' M', cRun S w c 0 [] = some st' → f215_l4 (zn S) zfu (zn ([] : List Int32).length) (zn 0) M = some (zn st'.length, M') → f215_satisfies (zn S) M = (if zn st'.length = 0 then some (1, M') else if M' 159 0 = 1 then some (1, M') else some (0, M')) := by
    intro st' M' _ h
    unfold f215_satisfies
    rw [show zn ([] : List Int32).length = 0 from rfl] at h
    rw [show (0 : Int32) = zn 0 from rfl] at *
    rw [h]
    rfl
  rcases hrun S hS with h1 | ⟨x, hx, h1⟩
  · obtain ⟨M', a1, a2, a3⟩ := rfc_run hS hc c 0 [] [] M zfu h1 (by rw [zfu_eq]; omega) (Nat.zero_le _) (by omega) hw h54 hop trivial
    refine ⟨M', ?_, a3⟩
    rw [fin _ M' h1 a1, if_pos (show zn ([] : List Int32).length = 0 from rfl), sSat, hzc, h1]
  · obtain ⟨M', a1, a2, a3⟩ := rfc_run hS hc c 0 [] [x] M zfu h1 (by rw [zfu_eq]; omega) (Nat.zero_le _) (by omega) hw h54 hop trivial
    refine ⟨M', ?_, a3⟩
    rw [fin _ M' h1 a1, if_neg (show ¬ zn [x].length = 0 from (by decide : ¬ zn 1 = 0)), sSat, hzc, h1]
    have : M' 159 0 = x := a2.1
    rw [this]
    rcases hx with rfl | rfl
    · rfl
    · rfl
theorem sSat_01 {w : Nat → Int32} (hr : ruleOk w) {S : Nat} (hS : S < 1024) : sSat w S = 0 ∨ sSat w S = 1 := by
  obtain ⟨c, hc, h54, -, -, hrun⟩ := hr
  have hzc : zi (w 54) = c := by rw [h54, zn_zi (by omega)]
  rw [sSat, hzc]
  rcases hrun S hS with h1 | ⟨x, hx, h1⟩
  · rw [h1]; exact Or.inr rfl
  · rw [h1]; exact hx
end
section
-- ===== what THE LAW tells, on both sides =====
def sF (w : Nat → Int32) (p : Nat) (used : Int32) : Nat → Int32
  | 0 => zn p
  | 1 => w (17 + p)
  | 2 => w (60 + p)
  | 3 => w (27 + p)
  | 4 => w (37 + p)
  | 5 => w 1
  | 6 => w 0
  | 7 => zn (pop (zi (w (7 + p))))
  | _ => used
def sVal (F w : Nat → Int32) (a b : Nat) : Int32 := match sRun F w (b - a) a [] with
  | some (x :: _) => x
  | _ => 0
def sSo (F w : Nat → Int32) (i : Nat) : Bool := decide (w (1210 + i) = w (1194 + i)) || decide (sVal F w (zi (w (1194 + i))) (zi (w (1210 + i))) = 1)
def sFind (F w : Nat → Int32) (word : Int32) : Nat → Nat → Option Nat
  | 0, _ => none
  | d + 1, i => if w (1226 + i) = word ∧ sSo F w i = true then some i else sFind F w word d (i + 1)
def sLine (F w : Nat → Int32) (i : Nat) : Int32 := sVal F w (zi (w (1178 + i))) (zi (w (1194 + i)))
def sSays (w : Nat → Int32) (word : Int32) (p : Nat) (used without most : Int32) : Int32 :=
  match sFind (sF w p used) w word (zi (w 58)) 0 with
  | some i => zmax 0 (zmin most (sLine (sF w p used) w i))
  | none => without
def lineOk (w : Nat → Int32) (c i : Nat) : Prop := ∃ f m e, f ≤ m ∧ m ≤ e ∧ e ≤ c ∧ w (1178 + i) = zn f ∧ w (1194 + i) = zn m ∧ w (1210 + i) = zn e ∧ (w (1226 + i) = 20 ∨ w (1226 + i) = 21 ∨ w (1226 + i) = 22) ∧ (∀ F, ∃ x, sRun F w (m - f) f [] = some [x]) ∧ (m = e ∨ ∀ F, ∃ x, (x = 0 ∨ x = 1) ∧ sRun F w (e - m) m [] = some [x])
def lawOk (w : Nat → Int32) (c : Nat) : Prop := c ≤ 400 ∧ ∃ L, L ≤ 16 ∧ w 58 = zn L ∧ ∀ i, i < L → lineOk w c i
def wordRel (a b : Int32) : Prop := (a = 256 ∧ b = 20) ∨ (a = 257 ∧ b = 21) ∨ (a = 258 ∧ b = 22)
/-- the class has THE LAW of the row w, its steps being c; t is the place of the class's law -/
def lawIs (M : ZI) (t : Nat) (w : Nat → Int32) (c : Nat) : Prop := M t 5 = w 58 ∧ M (t + 1) 3 = zn c ∧ (∀ j, j < c → opRel (M (t + 2) j) (M (t + 3) j) (w (1244 + 2 * j)) (w (1245 + 2 * j))) ∧ ∀ i, i < zi (w 58) → wordRel (M (t + 5) i) (w (1226 + i)) ∧ M (t + 6) i = w (1178 + i) ∧ M (t + 7) i = w (1194 + i) ∧ M (t + 8) i = w (1210 + i)
theorem word_eq {a b c d : Int32} (h1 : wordRel a b) (h2 : wordRel c d) : (a = c ↔ b = d) := by
  rcases h1 with ⟨rfl, rfl⟩ | ⟨rfl, rfl⟩ | ⟨rfl, rfl⟩ <;> rcases h2 with ⟨rfl, rfl⟩ | ⟨rfl, rfl⟩ | ⟨rfl, rfl⟩ <;> decide
theorem sVal_of {F w : Nat → Int32} {a b : Nat} {x : Int32} (h : sRun F w (b - a) a [] = some [x]) : sVal F w a b = x := by
  rw [sVal, h]
theorem tells_cls {F w : Nat → Int32} {c L : Nat} {W W' : Int32} (hw : lawOk w c) (hL : w 58 = zn L) (hL16 : L ≤ 16) (hW : wordRel W W') : ∀ (d i : Nat) (M : ZI) (fuel : Nat), i + d = L → d < fuel → lawIs M 12 w c → (∀ j, j < 9 → M 41 j = F j) →
    ∃ M', f29_l2 12 W 41 fuel (zn i) M = some ((match sFind F w W' d i with
      | some j => sLine F w j
      | none => if W = 256 then 1 else if W = 257 then F 8 / 8 else 100), M') ∧ ∀ o, o ≠ 16 → M' o = M o := by
  obtain ⟨hc, L', hL16', hL', hlines⟩ := hw
  have hzL : zi (w 58) = L := by rw [hL, zn_zi (by omega)]
  have hLL : L' = L := by rw [← hzL, hL', zn_zi (by omega)]
  subst hLL
  intro d
  induction d with
  | zero =>
    intro i M fuel hi hf hM hF
    obtain ⟨n, rfl⟩ : ∃ n, fuel = n + 1 := ⟨fuel - 1, by omega⟩
    refine ⟨M, ?_, fun _ _ => rfl⟩
    rw [f29_l2, hM.1, hL, if_neg (by rw [zn_lt (by omega) (by omega)]; omega)]
    simp only [sFind]
    have h8 := hF 8 (by decide)
    rcases hW with ⟨rfl, rfl⟩ | ⟨rfl, rfl⟩ | ⟨rfl, rfl⟩
    · rfl
    · rw [if_neg (by decide), if_pos rfl, if_pos (by decide), if_neg (by decide), if_pos rfl, show zi 8 = 8 from rfl, h8]
    · rfl
  | succ d ih =>
    intro i M fuel hi hf hM hF
    obtain ⟨n, rfl⟩ : ∃ n, fuel = n + 1 := ⟨fuel - 1, by omega⟩
    obtain ⟨hM1, hM2, hM3, hM4⟩ := hM
    have hz : zin (zn i) 16 = true := (zn_zin (by omega)).mpr (by omega)
    have zz : zi (zn i) = i := zn_zi (by omega)
    have e1 : zn i + 1 = zn (i + 1) := zn_add i 1
    obtain ⟨f, m, e, hfm, hme, hec, q1, q2, q3, q4, q5, q6⟩ := hlines i (by omega)
    obtain ⟨r1, r2, r3, r4⟩ := hM4 i (by rw [hzL]; omega)
    have next : ∀ M1 : ZI, (∀ o, o ≠ 16 → M1 o = M o) → ∃ M', f29_l2 12 W 41 n (zn (i + 1)) M1 = some ((match sFind F w W' d (i + 1) with
      | some j => sLine F w j
      | none => if W = 256 then 1 else if W = 257 then F 8 / 8 else 100), M') ∧ ∀ o, o ≠ 16 → M' o = M o := by
      intro M1 h
      have g : ∀ o, o ≠ 16 → M1 o = M o := h
      obtain ⟨M', a1, a2⟩ := ih (i + 1) M1 n (by omega) (by omega) ⟨by rw [g 12 (by decide)]; exact hM1, by rw [g 13 (by decide)]; exact hM2, fun j hj => by rw [g 14 (by decide), g 15 (by decide)]; exact hM3 j hj, fun j hj => by rw [g 17 (by decide), g 18 (by decide), g 19 (by decide), g 20 (by decide)]; exact hM4 j hj⟩ (fun j hj => by rw [g 41 (by decide)]; exact hF j hj)
      exact ⟨M', a1, fun o ho => (a2 o ho).trans (h o ho)⟩
    have line : ∀ M1 : ZI, (∀ o, o ≠ 16 → M1 o = M o) → ∃ M', f30_run 13 (M1 18 i) (M1 19 i) 41 0 M1 = some (sLine F w i, M') ∧ ∀ o, o ≠ 16 → M' o = M o := by
      intro M1 g
      obtain ⟨x, hx⟩ := q5 F
      obtain ⟨M', a1, a2⟩ := run_both (M := M1) hc hx hfm (by omega) (by rw [g 13 (by decide)]; exact hM2) (fun j hj => by rw [g 14 (by decide), g 15 (by decide)]; exact hM3 j hj) (fun j hj => by rw [g 41 (by decide)]; exact hF j hj)
      refine ⟨M', ?_, fun o ho => (a2 o ho).trans (g o ho)⟩
      rw [g 18 (by decide), g 19 (by decide), show M 18 i = zn f from r2.trans q1, show M 19 i = zn m from r3.trans q2, a1, sLine, q1, q2, zn_zi (by omega), zn_zi (by omega), sVal_of hx]
    rw [f29_l2, hM1, hL, if_pos ((zn_lt (by omega) (by omega)).mpr (by omega)), if_pos hz, if_pos hz, zz, e1]
    simp only [Nat.reduceAdd] at *
    have hd : ((if M 19 i = M 20 i then some (1 : Int32) else some 0) : Option Int32) = some (if m = e then 1 else 0) := by
      rw [r3, r4, q2, q3]
      by_cases h : m = e
      · rw [h, if_pos rfl, if_pos rfl]
      · rw [if_neg (by rw [zn_eq (by omega) (by omega)]; exact h), if_neg h]
    rw [hd]
    simp only [Option.bind_some]
    rw [if_pos hz]
    unfold sFind
    by_cases hword : M 17 i = W
    · have hword' : w (1226 + i) = W' := (word_eq r1 hW).mp hword
      rw [if_pos hword]
      simp only [zlet]
      by_cases h : m = e
      · have hso : sSo F w i = true := by rw [sSo, q2, q3, h]; simp
        rw [if_pos h, if_neg (by decide), if_pos hz, if_pos hz, zz, if_pos ⟨hword', hso⟩]
        obtain ⟨M', a1, a2⟩ := line M (fun _ _ => rfl)
        rw [a1]
        exact ⟨M', rfl, a2⟩
      · rw [if_neg h, if_pos rfl, if_pos hz, if_pos hz]
        obtain ⟨x, hx01, hx⟩ := (q6.resolve_left h) F
        obtain ⟨M1, a1, a2⟩ := run_both (M := M) hc hx hme hec hM2 hM3 hF
        rw [show M 19 i = zn m from r3.trans q2, show M 20 i = zn e from r4.trans q3, a1]
        simp only [Option.bind_some]
        have hsv : sVal F w (zi (w (1194 + i))) (zi (w (1210 + i))) = x := by rw [q2, q3, zn_zi (by omega), zn_zi (by omega), sVal_of hx]
        rcases hx01 with rfl | rfl
        · have hso : ¬ sSo F w i = true := by
            rw [sSo, hsv, q2, q3]
            simp [zn_eq (show e < 2147483648 by omega) (show m < 2147483648 by omega)]
            omega
          rw [if_pos rfl, if_neg (fun h => hso h.2)]
          exact next M1 a2
        · have hso : sSo F w i = true := by rw [sSo, hsv]; simp
          rw [if_neg (by decide), if_pos hz, if_pos hz, zz, if_pos ⟨hword', hso⟩]
          obtain ⟨M', b1, b2⟩ := line M1 a2
          rw [b1]
          exact ⟨M', rfl, b2⟩
    · have hword' : ¬ w (1226 + i) = W' := fun h => hword ((word_eq r1 hW).mpr h)
      rw [if_neg hword, if_neg (fun h => hword' h.1)]
      exact next M (fun _ _ => rfl)
theorem les_eq (a b : Int32) : f202_lesser a b = some (zmin a b) := by
  unfold f202_lesser zmin
  by_cases h : a < b
  · rw [if_pos h, if_neg (by grind)]
  · rw [if_neg h]
    by_cases h2 : b < a
    · rw [if_pos h2]
    · rw [if_neg h2]; congr 1; grind
theorem gre_eq (a b : Int32) : f213_greater a b = some (zmax a b) := by
  unfold f213_greater zmax
  by_cases h : b < a
  · rw [if_pos h, if_neg (by grind)]
  · rw [if_neg h]
    by_cases h2 : a < b
    · rw [if_pos h2]
    · rw [if_neg h2]; congr 1; grind
theorem says_ref {F w : Nat → Int32} {c L : Nat} {W' dflt most : Int32} (hw : lawOk w c) (hL : w 58 = zn L) (hL16 : L ≤ 16) : ∀ (d i : Nat) (M : ZI) (fuel : Nat), i + d = L → d < fuel → M 149 = w → (∀ j, j < 9 → M 160 (j + 1) = F j) →
    ∃ M', f208_l123 W' dflt most fuel (zn i) M = some ((match sFind F w W' d i with
      | some j => zmax 0 (zmin most (sLine F w j))
      | none => dflt), M') ∧ ∀ o, o ≠ 159 → M' o = M o := by
  obtain ⟨hc, L', hL16', hL', hlines⟩ := hw
  have hzL : zi (w 58) = L := by rw [hL, zn_zi (by omega)]
  have hLL : L' = L := by rw [← hzL, hL', zn_zi (by omega)]
  subst hLL
  intro d
  induction d with
  | zero =>
    intro i M fuel hi hf hM hF
    obtain ⟨n, rfl⟩ : ∃ n, fuel = n + 1 := ⟨fuel - 1, by omega⟩
    refine ⟨M, ?_, fun _ _ => rfl⟩
    rw [f208_l123, hM, hL, if_neg (by rw [zn_lt (by omega) (by omega)]; omega)]
    rfl
  | succ d ih =>
    intro i M fuel hi hf hM hF
    obtain ⟨n, rfl⟩ : ∃ n, fuel = n + 1 := ⟨fuel - 1, by omega⟩
    have e1 : zn i + 1 = zn (i + 1) := zn_add i 1
    obtain ⟨f, m, e, hfm, hme, hec, q1, q2, q3, q4, q5, q6⟩ := hlines i (by omega)
    have z1 : (1226 : Int32) + zn i = zn (1226 + i) := zn_add 1226 i
    have z2 : (1210 : Int32) + zn i = zn (1210 + i) := zn_add 1210 i
    have z3 : (1194 : Int32) + zn i = zn (1194 + i) := zn_add 1194 i
    have z4 : (1178 : Int32) + zn i = zn (1178 + i) := zn_add 1178 i
    have y1 : zi (zn (1226 + i)) = 1226 + i := zn_zi (by omega)
    have y2 : zi (zn (1210 + i)) = 1210 + i := zn_zi (by omega)
    have y3 : zi (zn (1194 + i)) = 1194 + i := zn_zi (by omega)
    have y4 : zi (zn (1178 + i)) = 1178 + i := zn_zi (by omega)
    have x1 : zin (zn (1226 + i)) 2064 = true := (zn_zin (by omega)).mpr (by omega)
    have x2 : zin (zn (1210 + i)) 2064 = true := (zn_zin (by omega)).mpr (by omega)
    have x3 : zin (zn (1194 + i)) 2064 = true := (zn_zin (by omega)).mpr (by omega)
    have x4 : zin (zn (1178 + i)) 2064 = true := (zn_zin (by omega)).mpr (by omega)
    have next : ∀ M1 : ZI, (∀ o, o ≠ 159 → M1 o = M o) → ∃ M', f208_l123 W' dflt most n (zn (i + 1)) M1 = some ((match sFind F w W' d (i + 1) with
      | some j => zmax 0 (zmin most (sLine F w j))
      | none => dflt), M') ∧ ∀ o, o ≠ 159 → M' o = M o := by
      intro M1 g
      obtain ⟨M', a1, a2⟩ := ih (i + 1) M1 n (by omega) (by omega) ((g 149 (by decide)).trans hM) (fun j hj => by rw [g 160 (by decide)]; exact hF j hj)
      exact ⟨M', a1, fun o ho => (a2 o ho).trans (g o ho)⟩
    have line : ∀ M1 : ZI, (∀ o, o ≠ 159 → M1 o = M o) → ∃ M', f211_comesTo 0 (M1 149 (1178 + i)) (M1 149 (1194 + i)) M1 = some (sLine F w i, M') ∧ ∀ o, o ≠ 159 → M' o = M o := by
      intro M1 g
      obtain ⟨x, hx⟩ := q5 F
      obtain ⟨M', a1, a2⟩ := run_ref (M := M1) hx hfm (by omega) ((g 149 (by decide)).trans hM) (fun j hj => by rw [g 160 (by decide)]; exact hF j hj)
      refine ⟨M', ?_, fun o ho => (a2 o ho).trans (g o ho)⟩
      rw [g 149 (by decide), hM, q1, q2, a1, sLine, q1, q2, zn_zi (by omega), zn_zi (by omega), sVal_of hx]
    rw [f208_l123, hM, hL, if_pos ((zn_lt (by omega) (by omega)).mpr (by omega)), z1, if_pos x1, y1, e1]
    unfold sFind
    by_cases hword : w (1226 + i) = W'
    · rw [if_pos hword]
      have hso : ∃ M1, f210_isSo (zn i) M = some (if sSo F w i = true then 1 else 0, M1) ∧ ∀ o, o ≠ 159 → M1 o = M o := by
        unfold f210_isSo
        rw [z2, z3, if_pos x2, if_pos x3, y2, y3, hM, q2, q3]
        by_cases h : m = e
        · have hso : sSo F w i = true := by rw [sSo, q2, q3, h]; simp
          rw [h, if_pos rfl, if_pos hso]
          exact ⟨M, rfl, fun _ _ => rfl⟩
        · rw [if_neg (by rw [zn_eq (by omega) (by omega)]; omega), if_pos x3, if_pos x2]
          obtain ⟨x, hx01, hx⟩ := (q6.resolve_left h) F
          obtain ⟨M1, a1, a2⟩ := run_ref (M := M) hx hme (by omega) hM hF
          rw [a1]
          have hsv : sVal F w (zi (w (1194 + i))) (zi (w (1210 + i))) = x := by rw [q2, q3, zn_zi (by omega), zn_zi (by omega), sVal_of hx]
          refine ⟨M1, ?_, a2⟩
          rcases hx01 with rfl | rfl
          · have hso : ¬ sSo F w i = true := by
              rw [sSo, hsv, q2, q3]
              simp [zn_eq (show e < 2147483648 by omega) (show m < 2147483648 by omega)]
              omega
            rw [if_neg hso]; rfl
          · have hso : sSo F w i = true := by rw [sSo, hsv]; simp
            rw [if_pos hso]; rfl
      obtain ⟨M1, a1, a2⟩ := hso
      rw [a1]
      simp only [Option.bind_some]
      by_cases hs : sSo F w i = true
      · rw [if_pos hs, if_neg (by decide), z4, z3, if_pos x4, if_pos x3, y4, y3, if_pos ⟨hword, hs⟩]
        obtain ⟨M', b1, b2⟩ := line M1 a2
        rw [b1]
        simp only [Option.bind_some, les_eq, gre_eq]
        exact ⟨M', rfl, b2⟩
      · rw [if_neg hs, if_pos rfl, if_neg (fun h => hs h.2)]
        exact next M1 a2
    · rw [if_neg hword, if_neg (fun h => hword h.1)]
      exact next M (fun _ _ => rfl)
end
section
-- ===== THE STATE: the row and the class's cells =====
def momIs (M : ZI) (a : Nat) (v : Nat → Int32) (n : Nat) : Prop := (M a 4 = v 1 ∧ M a 5 = v 0 ∧ M a 6 = v 2 ∧ M a 7 = v 3 ∧ M a 8 = v 6 ∧ M a 9 = v 4 ∧ M a 10 = v 5) ∧ ∀ p, p < n → M (a + 1) p = v (17 + p) ∧ M (a + 2) p = v (27 + p) ∧ M (a + 3) p = v (37 + p) ∧ M (a + 4) p = v (7 + p)
def momOk (v : Nat → Int32) (n Y : Nat) : Prop := (∃ k, k ≤ 24 ∧ v 1 = zn k) ∧ (∃ y, y ≤ Y ∧ v 0 = zn y ∧ ∀ p, p < n → ∃ h, h ≤ y ∧ v (27 + p) = zn h) ∧ (∃ b, b ≤ 150 ∧ v 5 = zn b) ∧ (∃ d, d < 4096 ∧ v 6 = zn d) ∧ ∀ p, p < n → (∃ a, a ≤ 99 ∧ v (17 + p) = zn a) ∧ ∃ s, s < 1024 ∧ v (7 + p) = zn s ∧ s.testBit p = false
def pplIs (M : ZI) (t : Nat) (w : Nat → Int32) (n : Nat) : Prop := (M t 11 = w 48 ∧ M t 12 = w 49 ∧ M t 13 = w 50 ∧ M t 14 = w 56 ∧ M t 15 = w 57) ∧ ∀ p, p < n → M (t + 36) p = w (60 + p) ∧ M (t + 37) p = w (70 + p) ∧ M (t + 38) p = w (80 + p)
def voiceN (w : Nat → Int32) : Nat → Nat
  | 0 => 0
  | p + 1 => voiceN w p + (if w (80 + p) = -1 then 0 else 1)
def pplOk (w : Nat → Int32) (n : Nat) : Prop := n ≤ 10 ∧ w 48 = zn n ∧ (∃ r, r ≤ 24 ∧ w 49 = zn r) ∧ (∃ l, 1 ≤ l ∧ l ≤ 24 ∧ w 50 = zn l) ∧ (∃ d, d ≤ 200 ∧ w 56 = zn d) ∧ (∃ d, d ≤ 200 ∧ w 57 = zn d) ∧ w 51 = zn (voiceN w n) ∧ ∀ p, p < n → (∃ k, k ≤ 24 ∧ w (60 + p) = zn k) ∧ (∃ k, k ≤ 999 ∧ w (70 + p) = zn k) ∧ (w (80 + p) = -1 ∨ ∃ q, q < n ∧ w (80 + p) = zn q)
def wrkIs (M : ZI) (t : Nat) (w : Nat → Int32) (k : Nat) : Prop := M t 6 = w 52 ∧ ∀ i, i < k → M (t + 1) i = w (90 + 6 * i) ∧ M (t + 2) i = w (91 + 6 * i) ∧ M (t + 3) i = w (92 + 6 * i) ∧ M (t + 4) i = w (93 + 6 * i) ∧ M (t + 5) i = w (94 + 6 * i) ∧ M (t + 6) i = w (95 + 6 * i)
def wrkOk (w : Nat → Int32) (n k : Nat) : Prop := k ≤ 12 ∧ w 52 = zn k ∧ ∀ i, i < k → (∃ o, o < n ∧ w (90 + 6 * i) = zn o) ∧ (∃ h, 1 ≤ h ∧ h ≤ 24 ∧ w (91 + 6 * i) = zn h) ∧ (∃ h, h ≤ 99 ∧ w (92 + 6 * i) = zn h) ∧ (∃ h, h ≤ 9 ∧ w (93 + 6 * i) = zn h) ∧ (∃ h, h ≤ 9 ∧ w (94 + 6 * i) = zn h) ∧ (w (95 + 6 * i) = -1 ∨ ∃ j, j < i ∧ w (95 + 6 * i) = zn j ∧ w (90 + 6 * j) = w (90 + 6 * i))
def bidIs (M : ZI) (t : Nat) (w : Nat → Int32) (b : Nat) : Prop := M t 2 = w 55 ∧ ∀ i, i < b → M (t + 1) i = w (562 + 2 * i) ∧ M (t + 2) i = w (563 + 2 * i)
def bookIs (M : ZI) (t : Nat) (w : Nat → Int32) : Prop := ∀ i, i < 150 → M (t + 1) i = w (578 + 4 * i) ∧ M (t + 2) i = w (579 + 4 * i) ∧ M (t + 3) i = w (580 + 4 * i) ∧ M (t + 4) i = w (581 + 4 * i)
/-- all of the row that no YEAR changes, THE BOOK aside; t is the place of the class's realm -/
def fixIs (M : ZI) (t : Nat) (w : Nat → Int32) (n k c b : Nat) : Prop := pplIs M t w n ∧ lawIs M (t + 11) w c ∧ wrkIs M (t + 20) w k ∧ ruleIs M (t + 28) w ∧ bidIs M (t + 33) w b
def fixOk (w : Nat → Int32) (n k c b : Nat) : Prop := pplOk w n ∧ lawOk w c ∧ wrkOk w n k ∧ ruleOk w ∧ b ≤ 8 ∧ w 55 = zn b
/-- as much as asking THE LAW and THE COUNCIL needs -/
def askOk (w : Nat → Int32) (n c : Nat) : Prop := n ≤ 10 ∧ w 48 = zn n ∧ lawOk w c ∧ ruleOk w
theorem ask_of {w : Nat → Int32} {n k c b : Nat} (h : fixOk w n k c b) : askOk w n c := ⟨h.1.1, h.1.2.1, h.2.1, h.2.2.2.1⟩
-- ===== what a PERSON is told by THE LAW =====
def sAsk (w : Nat → Int32) (W' : Int32) (p u : Nat) : Int32 := sSays w W' p (zn u) (if W' = 20 then 1 else if W' = 21 then zn u / 8 else 100) (if W' = 22 then 1000 else 24)
theorem zn_div8 {u : Nat} (h : u ≤ 24) : zn u / 8 = zn (u / 8) := by
  have : ∀ u : Fin 25, zn u.val / 8 = zn (u.val / 8) := by decide +kernel
  exact this ⟨u, by omega⟩
theorem held_range (m : Nat) (hm : m < 1000000) (x : Int32) : ∃ k, k ≤ m ∧ zmax 0 (zmin (zn m) x) = zn k := by
  unfold zmin zmax
  by_cases h1 : x < zn m
  · rw [if_pos h1]
    by_cases h2 : 0 < x
    · rw [if_pos h2]
      have h3 : ¬ x < 0 := by grind
      have h4 : zi x < 2147483648 := Int32.toNatClampNeg_lt x
      rw [← zi_zn h3, zn_lt h4 (by omega)] at h1
      exact ⟨zi x, by omega, (zi_zn h3).symm⟩
    · rw [if_neg h2]; exact ⟨0, by omega, rfl⟩
  · rw [if_neg h1]
    split
    · exact ⟨m, Nat.le_refl _, rfl⟩
    · exact ⟨0, by omega, rfl⟩
theorem sAsk_range {w : Nat → Int32} {W' : Int32} {p u : Nat} (hu : u ≤ 24) (hW : W' = 20 ∨ W' = 21) : ∃ k, k ≤ 24 ∧ sAsk w W' p u = zn k := by
  unfold sAsk sSays
  have h22 : W' ≠ 22 := by rcases hW with rfl | rfl <;> decide
  rw [if_neg h22]
  split
  · exact held_range 24 (by decide) _
  · rcases hW with rfl | rfl
    · exact ⟨1, by decide, rfl⟩
    · rw [if_neg (by decide), if_pos rfl, zn_div8 hu]
      exact ⟨u / 8, by omega, rfl⟩
theorem held_def (x : Int32) (W' : Int32) (u : Nat) (hu : u ≤ 24) (hW : W' = 20 ∨ W' = 21 ∨ W' = 22) (hx : x = if W' = 20 then 1 else if W' = 21 then zn u / 8 else 100) : zmax 0 (zmin (if W' = 22 then 1000 else 24) x) = x := by
  subst hx
  rcases hW with rfl | rfl | rfl
  · rfl
  · rw [if_neg (by decide), if_neg (by decide), if_pos rfl]
    have : ∀ u : Fin 25, zmax 0 (zmin 24 (zn u.val / 8)) = zn u.val / 8 := by decide +kernel
    exact this ⟨u, by omega⟩
  · rw [if_pos rfl, if_neg (by decide), if_neg (by decide)]
    decide
def factsAt (M : ZI) (o s : Nat) (F : Nat → Int32) : ZI := zs (zs (zs (zs (zs (zs (zs (zs (zs M o s (F 0)) o (s + 1) (F 1)) o (s + 2) (F 2)) o (s + 3) (F 3)) o (s + 4) (F 4)) o (s + 5) (F 5)) o (s + 6) (F 6)) o (s + 7) (F 7)) o (s + 8) (F 8)
theorem factsAt_ne {M : ZI} {o s o' : Nat} {F : Nat → Int32} (h : o' ≠ o) : factsAt M o s F o' = M o' := by
  simp only [factsAt, zs_ap, if_neg h]
theorem factsAt_at {M : ZI} {o s j : Nat} {F : Nat → Int32} (h : j < 9) : factsAt M o s F o (s + j) = F j := by
  have hj : j = 0 ∨ j = 1 ∨ j = 2 ∨ j = 3 ∨ j = 4 ∨ j = 5 ∨ j = 6 ∨ j = 7 ∨ j = 8 := by omega
  rcases hj with rfl | rfl | rfl | rfl | rfl | rfl | rfl | rfl | rfl <;> simp [factsAt, zs_ap, upd_ap]
theorem asks_cls {M : ZI} {w : Nat → Int32} {a n k c b Y p u : Nat} {W W' : Int32} (ha : a = 2 ∨ a = 114) (hp : p < n) (hu : u ≤ 24) (hW : wordRel W W') (hf : fixIs M 1 w n k c b) (hok : fixOk w n k c b) (hm : momIs M a w n) (hmo : momOk w n Y) :
    ∃ M', f27_asks 1 a W (zn p) (zn u) M = some (sAsk w W' p u, M') ∧ ∀ o, o ≠ 16 → o ≠ 41 → M' o = M o := by
  obtain ⟨⟨-, hf1⟩, hlaw, -⟩ := hf
  obtain ⟨hpo, hlo, -⟩ := hok
  obtain ⟨hn10, -⟩ := hpo
  obtain ⟨⟨m1, m2, -⟩, hm2⟩ := hm
  obtain ⟨q1, q2, q3, q4⟩ := hm2 p hp
  obtain ⟨g1, -⟩ := hf1 p hp
  obtain ⟨-, -, -, -, hmo⟩ := hmo
  obtain ⟨-, s, hs, hs1, -⟩ := hmo p hp
  have hz : zin (zn p) 10 = true := (zn_zin (by omega)).mpr (by omega)
  have zz : zi (zn p) = p := zn_zi (by omega)
  have hb : f28_bitCount (M (a + 4) p) = some (zn (pop (zi (w (7 + p))))) := by
    rw [q4, hs1, zn_zi (by omega)]
    exact bitCount_zn hs
  obtain ⟨Mf, hMf, hMo, hMF⟩ : ∃ Mf : ZI, f27_asks 1 a W (zn p) (zn u) M = ((f29_tells 12 W 41 Mf).bind fun x => ((if W = 258 then some (1000 : Int32) else some 24) : Option Int32).bind fun v13 => (f35_held x.1 0 v13).bind fun v14 => some (v14, x.2)) ∧ (∀ o, o ≠ 41 → Mf o = M o) ∧ ∀ j, j < 9 → Mf 41 j = sF w p (zn u) j := by
    refine ⟨factsAt M 41 0 (sF w p (zn u)), ?_, fun o ho => factsAt_ne ho, fun j hj => by
      have := factsAt_at (M := M) (o := 41) (s := 0) (F := sF w p (zn u)) hj
      rwa [Nat.zero_add] at this⟩
    unfold f27_asks factsAt
    simp only [zlet]
    rw [if_pos hz, if_pos hz, if_pos hz, if_pos hz, if_pos hz, zz]
    rcases ha with rfl | rfl <;> simp only [Nat.reduceAdd] at q1 q2 q3 q4 g1 hb ⊢ <;> simp only [zs_ap, Nat.reduceAdd, Nat.reduceEqDiff, ↓reduceIte, q1, q2, q3, g1, m1, m2, hb] <;> rfl
  have hl := hlaw
  obtain ⟨hc, L, hL16, hL, -⟩ := id hlo
  have hlaw' : lawIs Mf 12 w c := by
    obtain ⟨l1, l2, l3, l4⟩ := hl
    simp only [lawIs, Nat.reduceAdd] at l1 l2 l3 l4 ⊢
    refine ⟨by rw [hMo 12 (by decide)]; exact l1, by rw [hMo 13 (by decide)]; exact l2, fun j hj => by rw [hMo 14 (by decide), hMo 15 (by decide)]; exact l3 j hj, fun j hj => by rw [hMo 17 (by decide), hMo 18 (by decide), hMo 19 (by decide), hMo 20 (by decide)]; exact l4 j hj⟩
  obtain ⟨M', a1, a2⟩ := tells_cls hlo hL hL16 hW L 0 Mf zfu (by omega) (by rw [zfu_eq]; omega) hlaw' hMF
  refine ⟨M', ?_, fun o h1 h2 => (a2 o h1).trans (hMo o h2)⟩
  rw [hMf, f29_tells, show (0 : Int32) = zn 0 from rfl, a1]
  simp only [Option.bind_some, f35_held]
  have hW' : W' = 20 ∨ W' = 21 ∨ W' = 22 := by rcases hW with ⟨-, h⟩ | ⟨-, h⟩ | ⟨-, h⟩ <;> simp [h]
  have hmost : ((if W = 258 then some (1000 : Int32) else some 24) : Option Int32) = some (if W' = 22 then 1000 else 24) := by
    rcases hW with ⟨rfl, rfl⟩ | ⟨rfl, rfl⟩ | ⟨rfl, rfl⟩ <;> rfl
  rw [hmost]
  simp only [Option.bind_some]
  congr 2
  unfold sAsk sSays
  rw [hL, zn_zi (by omega)]
  cases hfi : sFind (sF w p (zn u)) w W' L 0 with
  | some j => rfl
  | none =>
    simp only
    have hd : (if W = 256 then (1 : Int32) else if W = 257 then sF w p (zn u) 8 / 8 else 100) = (if W' = 20 then 1 else if W' = 21 then zn u / 8 else 100) := by
      rcases hW with ⟨rfl, rfl⟩ | ⟨rfl, rfl⟩ | ⟨rfl, rfl⟩ <;> rfl
    rw [hd]
    exact held_def _ W' u hu hW' rfl
theorem says_facts {M : ZI} {w : Nat → Int32} {p s : Nat} {W' dflt most u : Int32} (hw : M 149 = w) (hp : p < 10) (hs : s < 1024) (hs1 : w (7 + p) = zn s) : f208_says W' (zn p) u dflt most M = f208_l123 W' dflt most zfu 0 (factsAt M 160 1 (sF w p u)) := by
  have z1 : (17 : Int32) + zn p = zn (17 + p) := zn_add 17 p
  have z2 : (60 : Int32) + zn p = zn (60 + p) := zn_add 60 p
  have z3 : (27 : Int32) + zn p = zn (27 + p) := zn_add 27 p
  have z4 : (37 : Int32) + zn p = zn (37 + p) := zn_add 37 p
  have z5 : (7 : Int32) + zn p = zn (7 + p) := zn_add 7 p
  have y1 : zi (zn (17 + p)) = 17 + p := zn_zi (by omega)
  have y2 : zi (zn (60 + p)) = 60 + p := zn_zi (by omega)
  have y3 : zi (zn (27 + p)) = 27 + p := zn_zi (by omega)
  have y4 : zi (zn (37 + p)) = 37 + p := zn_zi (by omega)
  have y5 : zi (zn (7 + p)) = 7 + p := zn_zi (by omega)
  have x1 : zin (zn (17 + p)) 2064 = true := (zn_zin (by omega)).mpr (by omega)
  have x2 : zin (zn (60 + p)) 2064 = true := (zn_zin (by omega)).mpr (by omega)
  have x3 : zin (zn (27 + p)) 2064 = true := (zn_zin (by omega)).mpr (by omega)
  have x4 : zin (zn (37 + p)) 2064 = true := (zn_zin (by omega)).mpr (by omega)
  have x5 : zin (zn (7 + p)) 2064 = true := (zn_zin (by omega)).mpr (by omega)
  have hb : f209_count (w (7 + p)) = some (zn (pop (zi (w (7 + p))))) := by
    rw [hs1, zn_zi (by omega)]
    exact count_zn hs
  subst hw
  unfold f208_says
  simp only [zlet]
  rw [z1, z2, z3, z4, z5, if_pos x1, if_pos x2, if_pos x3, if_pos x4, if_pos x5, y1, y2, y3, y4, y5]
  show ((f209_count (M 149 (7 + p))).bind fun v8 => f208_l123 W' dflt most zfu 0 (zs (zs (zs (zs (zs (zs (zs (zs (zs M 160 1 (zn p)) 160 2 (M 149 (17 + p))) 160 3 (M 149 (60 + p))) 160 4 (M 149 (27 + p))) 160 5 (M 149 (37 + p))) 160 6 (M 149 1)) 160 7 (M 149 0)) 160 8 v8) 160 9 u)) = _
  rw [hb, Option.bind_some]
  rfl
theorem says_eq {M : ZI} {w : Nat → Int32} {n c Y p u : Nat} {W' dflt most : Int32} (hw : M 149 = w) (hp : p < n) (hok : askOk w n c) (hmo : momOk w n Y) :
    ∃ M', f208_says W' (zn p) (zn u) dflt most M = some (sSays w W' p (zn u) dflt most, M') ∧ ∀ o, o ≠ 159 → o ≠ 160 → M' o = M o := by
  obtain ⟨hn10, -, hlo, -⟩ := hok
  obtain ⟨-, -, -, -, hmo⟩ := hmo
  obtain ⟨-, s, hs, hs1, -⟩ := hmo p hp
  have hMf := says_facts (W' := W') (dflt := dflt) (most := most) (u := zn u) hw (show p < 10 by omega) hs hs1
  have hMo : ∀ o, o ≠ 160 → factsAt M 160 1 (sF w p (zn u)) o = M o := fun o ho => factsAt_ne ho
  have hMF : ∀ j, j < 9 → factsAt M 160 1 (sF w p (zn u)) 160 (j + 1) = sF w p (zn u) j := fun j hj => by
    have := factsAt_at (M := M) (o := 160) (s := 1) (F := sF w p (zn u)) hj
    rwa [Nat.add_comm] at this
  generalize factsAt M 160 1 (sF w p (zn u)) = Mf at *
  obtain ⟨hc, L, hL16, hL, -⟩ := id hlo
  obtain ⟨M', a1, a2⟩ := says_ref (W' := W') (dflt := dflt) (most := most) hlo hL hL16 L 0 Mf zfu (by omega) (by rw [zfu_eq]; omega) ((hMo 149 (by decide)).trans hw) hMF
  refine ⟨M', ?_, fun o h1 h2 => (a2 o h1).trans (hMo o h2)⟩
  rw [hMf]
  refine a1.trans ?_
  rw [sSays, hL, zn_zi (by omega)]
theorem weight_ref {M : ZI} {w : Nat → Int32} {n c Y p : Nat} (hw : M 149 = w) (hp : p < n) (hok : askOk w n c) (hmo : momOk w n Y) :
    ∃ M', f207_weightOf (zn p) M = some (sAsk w 20 p 0, M') ∧ ∀ o, o ≠ 159 → o ≠ 160 → M' o = M o := by
  obtain ⟨M', a1, a2⟩ := says_eq (W' := 20) (dflt := 1) (most := 24) (u := 0) hw hp hok hmo
  refine ⟨M', ?_, a2⟩
  unfold f207_weightOf
  rw [show (0 : Int32) = zn 0 from rfl, a1]
  rfl
theorem wear_ref {M : ZI} {w : Nat → Int32} {n k c b Y p u : Nat} (hw : M 149 = w) (hp : p < n) (hok : fixOk w n k c b) (hmo : momOk w n Y) :
    ∃ M', f225_wearOf (zn p) (zn u) M = some (sAsk w 21 p u, M') ∧ ∀ o, o ≠ 159 → o ≠ 160 → M' o = M o := by
  obtain ⟨M', a1, a2⟩ := says_eq (W' := 21) (dflt := zn u / 8) (most := 24) (u := u) hw hp (ask_of hok) hmo
  refine ⟨M', ?_, a2⟩
  unfold f225_wearOf
  rw [a1]
  rfl
theorem notice_ref {M : ZI} {w : Nat → Int32} {n k c b Y p u : Nat} (hw : M 149 = w) (hp : p < n) (hok : fixOk w n k c b) (hmo : momOk w n Y) :
    ∃ M', f226_noticeOf (zn p) (zn u) M = some (sAsk w 22 p u, M') ∧ ∀ o, o ≠ 159 → o ≠ 160 → M' o = M o := by
  obtain ⟨M', a1, a2⟩ := says_eq (W' := 22) (dflt := 100) (most := 1000) (u := u) hw hp (ask_of hok) hmo
  refine ⟨M', ?_, a2⟩
  unfold f226_noticeOf
  rw [a1]
  rfl
theorem momIs_of {M M' : ZI} {a n : Nat} {v : Nat → Int32} (h : momIs M a v n) (g : ∀ o, a ≤ o → o ≤ a + 4 → M' o = M o) : momIs M' a v n := by
  unfold momIs at h ⊢
  rw [g a (by omega) (by omega), g (a + 1) (by omega) (by omega), g (a + 2) (by omega) (by omega), g (a + 3) (by omega) (by omega), g (a + 4) (by omega) (by omega)]
  exact h
theorem fixIs_of {M M' : ZI} {t n k c b : Nat} {w : Nat → Int32} (h : fixIs M t w n k c b) (g : ∀ o, t ≤ o ∧ (o = t ∨ o = t + 11 ∨ o = t + 12 ∨ o = t + 13 ∨ o = t + 14 ∨ o = t + 16 ∨ o = t + 17 ∨ o = t + 18 ∨ o = t + 19 ∨ (t + 20 ≤ o ∧ o ≤ t + 26) ∨ (t + 28 ≤ o ∧ o ≤ t + 31) ∨ (t + 33 ≤ o ∧ o ≤ t + 38)) → M' o = M o) : fixIs M' t w n k c b := by
  unfold fixIs pplIs lawIs wrkIs ruleIs bidIs at h ⊢
  rw [g t (by omega), g (t + 36) (by omega), g (t + 37) (by omega), g (t + 38) (by omega), g (t + 11) (by omega), g (t + 11 + 1) (by omega), g (t + 11 + 2) (by omega), g (t + 11 + 3) (by omega), g (t + 11 + 5) (by omega), g (t + 11 + 6) (by omega), g (t + 11 + 7) (by omega), g (t + 11 + 8) (by omega), g (t + 20) (by omega), g (t + 20 + 1) (by omega), g (t + 20 + 2) (by omega), g (t + 20 + 3) (by omega), g (t + 20 + 4) (by omega), g (t + 20 + 5) (by omega), g (t + 20 + 6) (by omega), g (t + 28) (by omega), g (t + 28 + 1) (by omega), g (t + 28 + 2) (by omega), g (t + 28 + 3) (by omega), g (t + 33) (by omega), g (t + 33 + 1) (by omega), g (t + 33 + 2) (by omega)]
  exact h
end
section
-- ===== VOICES: who is GIVEN, on both sides =====
theorem zn_or (a b : Nat) : zn a ||| zn b = zn (a ||| b) := Int32.toBitVec_inj.1 (by
  show BitVec.ofNat 32 a ||| BitVec.ofNat 32 b = BitVec.ofNat 32 (a ||| b)
  exact BitVec.ofNat_or.symm)
theorem zn_and (a b : Nat) : zn a &&& zn b = zn (a &&& b) := Int32.toBitVec_inj.1 (by
  show BitVec.ofNat 32 a &&& BitVec.ofNat 32 b = BitVec.ofNat 32 (a &&& b)
  exact BitVec.ofNat_and.symm)
theorem zn_xor (a b : Nat) : zn a ^^^ zn b = zn (a ^^^ b) := Int32.toBitVec_inj.1 (by
  show BitVec.ofNat 32 a ^^^ BitVec.ofNat 32 b = BitVec.ofNat 32 (a ^^^ b)
  exact BitVec.ofNat_xor.symm)
theorem or_pow_lt {s i n : Nat} (h : s < 2 ^ n) (hi : i < n) : s ||| 2 ^ i < 2 ^ n := Nat.or_lt_two_pow h (Nat.pow_lt_pow_right (by decide) hi)
def sSum (w vo : Nat → Int32) (p : Nat) : Nat → Nat
  | 0 => 0
  | m + 1 => sSum w vo p m + (if vo m = zn p then zi (sAsk w 20 m 0) else 0)
def sNam (vo : Nat → Int32) (p : Nat) : Nat → Nat
  | 0 => 0
  | m + 1 => if vo m = zn p then sNam vo p m ||| 2 ^ m else sNam vo p m
def sBef (w vo : Nat → Int32) (n p : Nat) : Option Nat → Bool
  | none => true
  | some q => decide (sSum w vo q n < sSum w vo p n) || (decide (sSum w vo p n = sSum w vo q n) && decide (w (60 + q) < w (60 + p)))
def sGiv (w vo : Nat → Int32) (n : Nat) : Nat → Option Nat
  | 0 => none
  | i + 1 => if 0 < sSum w vo i n ∧ sSat w (sNam vo i n) = 1 ∧ sBef w vo n i (sGiv w vo n i) = true then some i else sGiv w vo n i
def optI : Option Nat → Int32
  | none => -1
  | some p => zn p
theorem ask20 (w : Nat → Int32) (p : Nat) : ∃ k, k ≤ 24 ∧ sAsk w 20 p 0 = zn k ∧ zi (sAsk w 20 p 0) = k := by
  obtain ⟨k, hk, h⟩ := sAsk_range (w := w) (W' := 20) (p := p) (u := 0) (by decide) (Or.inl rfl)
  exact ⟨k, hk, h, by rw [h, zn_zi (by omega)]⟩
theorem sSum_le (w vo : Nat → Int32) (p : Nat) : ∀ m, sSum w vo p m ≤ 24 * m
  | 0 => Nat.le_refl _
  | m + 1 => by
    have := sSum_le w vo p m
    obtain ⟨k, hk, -, h⟩ := ask20 w m
    unfold sSum
    split <;> omega
theorem sNam_lt (vo : Nat → Int32) (p : Nat) : ∀ m, sNam vo p m < 2 ^ m
  | 0 => Nat.one_pos
  | m + 1 => by
    have := sNam_lt vo p m
    unfold sNam
    split
    · exact or_pow_lt (by rw [Nat.pow_succ]; omega) (by omega)
    · rw [Nat.pow_succ]; omega
theorem sNam_1024 (vo : Nat → Int32) (p n : Nat) (hn : n ≤ 10) : sNam vo p n < 1024 :=
  Nat.lt_of_lt_of_le (sNam_lt vo p n) (Nat.pow_le_pow_right (by decide) hn)
theorem sGiv_lt (w vo : Nat → Int32) (n : Nat) : ∀ i p, sGiv w vo n i = some p → p < i ∧ 0 < sSum w vo p n
  | 0, p, h => by cases h
  | i + 1, p, h => by
    unfold sGiv at h
    split at h
    · rename_i h1
      cases h
      exact ⟨by omega, h1.1⟩
    · have := sGiv_lt w vo n i p h
      exact ⟨by omega, this.2⟩
theorem optI_none : optI none = -1 := rfl
theorem zz80 {v : Nat} (hv : v < 2147480000) : zi (80 + zn v) = 80 + v := by
  rw [zl80, zn_add, zn_zi (by omega)]
theorem zx80 {v : Nat} (hv : v < 10) : zin (80 + zn v) 2064 = true := by
  rw [zl80, zn_add]
  exact (zn_zin (by omega)).mpr (by omega)
theorem zadd1 (i : Nat) : zn i + 1 = zn (i + 1) := zn_add i 1
/-- the reference: the weights that name p -/
theorem sum_ref {M : ZI} {w : Nat → Int32} {n c Y p : Nat} (hw : M 149 = w) (hok : askOk w n c) (hmo : momOk w n Y) :
    ∃ M', f206_sumFor (zn p) M = some (zn (sSum w (fun v => w (80 + v)) p n), M') ∧ ∀ o, o ≠ 159 → o ≠ 160 → M' o = M o := by
  have hn10 := hok.1
  have h48 := hok.2.1
  obtain ⟨r, h1, h2, h3⟩ := zloop (fun f (a : Int32 × ZI) c => f206_l4 (zn p) f a.1 c a.2) n (fun i a => a.1 = zn (sSum w (fun v => w (80 + v)) p i) ∧ ∀ o, o ≠ 159 → o ≠ 160 → a.2 o = M o)
    (fun r : Int32 × ZI => r.1 = zn (sSum w (fun v => w (80 + v)) p n) ∧ ∀ o, o ≠ 159 → o ≠ 160 → r.2 o = M o) (fun f i a hi ha => by
      obtain ⟨a1, a2⟩ := a
      obtain ⟨rfl, g⟩ := ha
      simp only at g
      have gw : a2 149 = w := (g 149 (by decide) (by decide)).trans hw
      left
      simp only [f206_l4]
      rw [gw, h48, if_pos ((zn_lt (by omega) (by omega)).mpr hi), if_pos (zx80 (by omega)), zz80 (by omega)]
      by_cases hv : w (80 + i) = zn p
      · rw [if_pos hv]
        obtain ⟨M1, b1, b2⟩ := weight_ref gw hi hok hmo
        rw [b1]
        obtain ⟨q, hq, e1, e2⟩ := ask20 w i
        refine ⟨(zn (sSum w (fun v => w (80 + v)) p (i + 1)), M1), ⟨rfl, fun o h1 h2 => (b2 o h1 h2).trans (g o h1 h2)⟩, ?_⟩
        simp only [Option.bind_some, zlet, sSum, if_pos hv]
        rw [e1, zn_add, zn_zi (by omega), zadd1]
      · rw [if_neg hv]
        refine ⟨(zn (sSum w (fun v => w (80 + v)) p (i + 1)), a2), ⟨rfl, g⟩, ?_⟩
        simp only [zlet, sSum, if_neg hv, Nat.add_zero, Int32.add_zero]
        rw [zadd1]) (fun f a ha => by
      obtain ⟨a1, a2⟩ := a
      obtain ⟨rfl, g⟩ := ha
      simp only at g
      refine ⟨(zn (sSum w (fun v => w (80 + v)) p n), a2), ⟨rfl, g⟩, ?_⟩
      simp only [f206_l4]
      rw [show a2 149 = w from (g 149 (by decide) (by decide)).trans hw, h48, if_neg (by rw [zn_lt (by omega) (by omega)]; omega)]) zfu 0 (0, M) (by omega) (by rw [zfu_eq]; omega) ⟨rfl, fun _ _ _ => rfl⟩
  obtain ⟨r1, r2⟩ := r
  refine ⟨r2, ?_, h3⟩
  have h1 : f206_l4 (zn p) zfu 0 0 M = some (r1, r2) := h1
  rw [f206_sumFor, h1]
  simp only at h2
  rw [h2]
  rfl
theorem nam_ref {M : ZI} {w : Nat → Int32} {n p : Nat} (hw : M 149 = w) (hn10 : n ≤ 10) (h48 : w 48 = zn n) : f214_voicesFor (zn p) M = some (zn (sNam (fun v => w (80 + v)) p n)) := by
  obtain ⟨r, h1, h2⟩ := zloop (fun f (a : Int32) c => f214_l4 (zn p) M f a c) n (fun i a => a = zn (sNam (fun v => w (80 + v)) p i)) (fun r => r = zn (sNam (fun v => w (80 + v)) p n)) (fun f i a hi ha => by
      subst ha
      left
      refine ⟨_, rfl, ?_⟩
      simp only [f214_l4]
      rw [hw, h48, if_pos ((zn_lt (by omega) (by omega)).mpr hi), if_pos (zx80 (by omega)), zz80 (by omega)]
      by_cases hv : w (80 + i) = zn p
      · rw [if_pos hv]
        simp only [zlet, sNam, if_pos hv]
        rw [zl1, zn_shl (by omega), zn_or, zn_add]
      · rw [if_neg hv]
        simp only [zlet, sNam, if_neg hv, Int32.or_zero]
        rw [zadd1]) (fun f a ha => by
      subst ha
      refine ⟨_, rfl, ?_⟩
      simp only [f214_l4]
      rw [hw, h48, if_neg (by rw [zn_lt (by omega) (by omega)]; omega)]) zfu 0 0 (by omega) (by rw [zfu_eq]; omega) rfl
  have h1 : f214_l4 (zn p) M zfu 0 0 = some r := h1
  rw [f214_voicesFor, h1, h2]
  rfl
theorem bef_ref {M : ZI} {w : Nat → Int32} {n c Y p : Nat} {q : Option Nat} (hw : M 149 = w) (hok : askOk w n c) (hmo : momOk w n Y) (hp : p < n) (hq : ∀ x, q = some x → x < n) :
    ∃ M', f216_isBefore (zn p) (optI q) M = some (if sBef w (fun v => w (80 + v)) n p q = true then 1 else 0, M') ∧ ∀ o, o ≠ 159 → o ≠ 160 → M' o = M o := by
  have hn10 := hok.1
  unfold f216_isBefore
  cases q with
  | none =>
    rw [if_pos optI_none]
    exact ⟨M, rfl, fun _ _ _ => rfl⟩
  | some q =>
    have hq := hq q rfl
    rw [if_neg (show ¬ optI (some q) = -1 from zn_ne_neg (by omega))]
    obtain ⟨M1, a1, a2⟩ := sum_ref (p := p) hw hok hmo
    obtain ⟨M2, b1, b2⟩ := sum_ref (M := M1) (p := q) ((a2 149 (by decide) (by decide)).trans hw) hok hmo
    have g : ∀ o, o ≠ 159 → o ≠ 160 → M2 o = M o := fun o h1 h2 => (b2 o h1 h2).trans (a2 o h1 h2)
    refine ⟨M2, ?_, g⟩
    rw [a1]
    have eq : optI (some q) = zn q := rfl
    simp only [Option.bind_some]
    rw [eq, b1]
    simp only [Option.bind_some]
    have l1 := sSum_le w (fun v => w (80 + v)) p n
    have l2 := sSum_le w (fun v => w (80 + v)) q n
    have z1 : (60 : Int32) + zn p = zn (60 + p) := zn_add 60 p
    have z2 : (60 : Int32) + zn q = zn (60 + q) := zn_add 60 q
    rw [z1, z2, if_pos ((zn_zin (by omega)).mpr (by omega)), if_pos ((zn_zin (by omega)).mpr (by omega)), zn_zi (by omega), zn_zi (by omega), g 149 (by decide) (by decide), hw]
    simp only [zlet]
    have hbe : sBef w (fun v => w (80 + v)) n p (some q) = (decide (sSum w (fun v => w (80 + v)) q n < sSum w (fun v => w (80 + v)) p n) || (decide (sSum w (fun v => w (80 + v)) p n = sSum w (fun v => w (80 + v)) q n) && decide (w (60 + q) < w (60 + p)))) := rfl
    rw [hbe]
    clear hbe a1 b1
    generalize sSum w (fun v => w (80 + v)) p n = x at *
    generalize sSum w (fun v => w (80 + v)) q n = y at *
    by_cases h1 : y < x
    · rw [zn_sub (by omega), if_pos (zlt0 (by omega) (by omega))]
      simp [h1]
    · by_cases h2 : x = y
      · subst h2
        rw [zn_sub (by omega), Nat.sub_self, if_neg (show ¬ (0 : Int32) < zn 0 by decide), if_pos (show zn 0 = 0 from rfl)]
        by_cases h3 : w (60 + q) < w (60 + p)
        · simp [h3]
        · simp [h3]
      · have h3 : ∃ d, 1 ≤ d ∧ d ≤ 240 ∧ y = x + d := ⟨y - x, by omega, by omega, by omega⟩
        obtain ⟨d, hd1, hd2, rfl⟩ := h3
        have hneg : zn x - zn (x + d) = -zn d := by
          rw [← zn_add]
          grind
        have hn1 : ¬ (0 : Int32) < -zn d ∧ ¬ -zn d = 0 := by
          have : ∀ d : Fin 241, 1 ≤ d.val → ¬ (0 : Int32) < -zn d.val ∧ ¬ -zn d.val = 0 := by decide +kernel
          exact this ⟨d, by omega⟩ hd1
        rw [hneg, if_neg hn1.1, if_neg hn1.2]
        have h4 : ¬ x + d < x ∧ ¬ x = x + d := ⟨h1, h2⟩
        rw [decide_eq_false h4.1, decide_eq_false h4.2]
        rfl
theorem giv_ref {M : ZI} {w : Nat → Int32} {n c Y : Nat} (hw : M 149 = w) (hok : askOk w n c) (hmo : momOk w n Y) :
    ∃ M', f205_givenNow M = some (optI (sGiv w (fun v => w (80 + v)) n n), M') ∧ ∀ o, o ≠ 159 → o ≠ 160 → M' o = M o := by
  have hn10 := hok.1
  have h48 := hok.2.1
  have hru := hok.2.2.2
  generalize hvo : (fun v => w (80 + v)) = vo
  obtain ⟨r, h1, h2, h3⟩ := zloop (fun f (a : Int32 × ZI) c => f205_l4 f a.1 c a.2) n (fun i a => a.1 = optI (sGiv w vo n i) ∧ ∀ o, o ≠ 159 → o ≠ 160 → a.2 o = M o)
    (fun r : Int32 × ZI => r.1 = optI (sGiv w vo n n) ∧ ∀ o, o ≠ 159 → o ≠ 160 → r.2 o = M o) (fun f i a hi ha => by
      obtain ⟨a1, a2⟩ := a
      obtain ⟨rfl, g⟩ := ha
      simp only at g
      have gw : a2 149 = w := (g 149 (by decide) (by decide)).trans hw
      left
      simp only [f205_l4]
      rw [gw, h48, if_pos ((zn_lt (by omega) (by omega)).mpr hi), zadd1]
      obtain ⟨M1, b1, b2⟩ := sum_ref (p := i) gw hok hmo
      have g1 : ∀ o, o ≠ 159 → o ≠ 160 → M1 o = M o := fun o h1 h2 => (b2 o h1 h2).trans (g o h1 h2)
      have gw1 : M1 149 = w := (g1 149 (by decide) (by decide)).trans hw
      have l1 := sSum_le w vo i n
      rw [b1]
      simp only [Option.bind_some]
      rw [nam_ref gw1 hn10 h48, hvo]
      simp only [Option.bind_some]
      by_cases h1 : 0 < sSum w vo i n
      · rw [if_pos (zlt0 h1 (by omega))]
        obtain ⟨M2, c1, c2⟩ := sat_eq (M := M1) (sNam_1024 vo i n hn10) hru gw1
        have g2 : ∀ o, o ≠ 159 → o ≠ 160 → M2 o = M o := fun o h1 h2 => (c2 o h1).trans (g1 o h1 h2)
        rw [c1]
        simp only [Option.bind_some]
        rcases sSat_01 hru (sNam_1024 vo i n hn10) with h2 | h2
        · rw [h2, if_pos rfl]
          refine ⟨(optI (sGiv w vo n (i + 1)), M2), ⟨rfl, g2⟩, ?_⟩
          simp only [sGiv]
          rw [if_neg (fun h => by rw [h2] at h; exact absurd h.2.1 (by decide))]
        · rw [h2, if_neg (by decide)]
          obtain ⟨M3, d1, d2⟩ := bef_ref (M := M2) (p := i) (q := sGiv w vo n i) ((g2 149 (by decide) (by decide)).trans hw) hok hmo hi (fun x hx => by
            have := (sGiv_lt w vo n i x hx).1
            omega)
          have g3 : ∀ o, o ≠ 159 → o ≠ 160 → M3 o = M o := fun o h1 h2 => (d2 o h1 h2).trans (g2 o h1 h2)
          rw [d1, hvo]
          simp only [Option.bind_some]
          refine ⟨(optI (sGiv w vo n (i + 1)), M3), ⟨rfl, g3⟩, ?_⟩
          simp only [sGiv]
          by_cases h3 : sBef w vo n i (sGiv w vo n i) = true
          · rw [if_pos h3, if_neg (by decide), if_pos ⟨h1, h2, h3⟩]
            rfl
          · rw [if_neg h3, if_pos rfl, if_neg (fun h => h3 h.2.2)]
      · have h0 : sSum w vo i n = 0 := by omega
        rw [h0, if_neg (show ¬ (0 : Int32) < zn 0 by decide)]
        refine ⟨(optI (sGiv w vo n (i + 1)), M1), ⟨rfl, g1⟩, ?_⟩
        simp only [sGiv]
        rw [if_neg (fun h => h1 h.1)]) (fun f a ha => by
      obtain ⟨a1, a2⟩ := a
      obtain ⟨rfl, g⟩ := ha
      simp only at g
      refine ⟨(optI (sGiv w vo n n), a2), ⟨rfl, g⟩, ?_⟩
      simp only [f205_l4]
      rw [show a2 149 = w from (g 149 (by decide) (by decide)).trans hw, h48, if_neg (by rw [zn_lt (by omega) (by omega)]; omega)]) zfu 0 (-1, M) (by omega) (by rw [zfu_eq]; omega) ⟨rfl, fun _ _ _ => rfl⟩
  obtain ⟨r1, r2⟩ := r
  refine ⟨r2, ?_, h3⟩
  have h1 : f205_l4 zfu (-1) 0 M = some (r1, r2) := h1
  rw [f205_givenNow, h1]
  simp only at h2
  rw [h2]
  rfl
-- the class
theorem weigh_cls {M : ZI} {w : Nat → Int32} {a n k c b Y : Nat} (ha : a = 2 ∨ a = 114) (hf : fixIs M 1 w n k c b) (hok : fixOk w n k c b) (hm : momIs M a w n) (hmo : momOk w n Y) :
    ∃ M', f26_weigh 1 a M = some M' ∧ (∀ v, v < n → M' 40 v = sAsk w 20 v 0) ∧ ∀ o, o ≠ 16 → o ≠ 41 → o ≠ 40 → M' o = M o := by
  have hn10 := hok.1.1
  have h48 := hok.1.2.1
  have h11 : M 1 11 = zn n := hf.1.1.1.trans h48
  obtain ⟨r, h1, h2, h3⟩ := zloop (fun f (m : ZI) c => f26_l2 1 a f c m) n (fun i m => (∀ v, v < i → m 40 v = sAsk w 20 v 0) ∧ ∀ o, o ≠ 16 → o ≠ 41 → o ≠ 40 → m o = M o)
    (fun m : ZI => (∀ v, v < n → m 40 v = sAsk w 20 v 0) ∧ ∀ o, o ≠ 16 → o ≠ 41 → o ≠ 40 → m o = M o) (fun f i m hi hm1 => by
      obtain ⟨hv, g⟩ := hm1
      left
      have hfm : fixIs m 1 w n k c b := fixIs_of hf (fun o h => g o (by omega) (by omega) (by omega))
      have hmm : momIs m a w n := momIs_of hm (fun o h1 h2 => g o (by omega) (by omega) (by omega))
      obtain ⟨M1, b1, b2⟩ := asks_cls (u := 0) (W := 256) (W' := 20) ha hi (by decide) (Or.inl ⟨rfl, rfl⟩) hfm hok hmm hmo
      simp only [f26_l2]
      rw [g 1 (by decide) (by decide) (by decide), h11, if_pos ((zn_lt (by omega) (by omega)).mpr hi), show (0 : Int32) = zn 0 from rfl, b1]
      simp only [Option.bind_some, zlet]
      rw [if_pos ((zn_zin (by omega)).mpr (by omega)), zn_zi (by omega), zadd1]
      refine ⟨zs M1 (1 + 39) i (sAsk w 20 i 0), ⟨fun v hv1 => ?_, fun o h1 h2 h3 => ?_⟩, rfl⟩
      · rw [zs_ap, if_pos (by decide), upd_ap]
        by_cases h : v = i
        · rw [if_pos h, h]
        · rw [if_neg h, show (1 : Nat) + 39 = 40 from rfl, b2 40 (by decide) (by decide)]
          exact hv v (by omega)
      · rw [zs_ap, if_neg (by omega), b2 o h1 h2]
        exact g o h1 h2 h3) (fun f m hm1 => by
      obtain ⟨hv, g⟩ := hm1
      refine ⟨m, ⟨hv, g⟩, ?_⟩
      simp only [f26_l2]
      rw [g 1 (by decide) (by decide) (by decide), h11, if_neg (by rw [zn_lt (by omega) (by omega)]; omega)]) zfu 0 M (by omega) (by rw [zfu_eq]; omega) ⟨fun v h => by omega, fun _ _ _ _ => rfl⟩
  refine ⟨r, ?_, h2, h3⟩
  have h1 : f26_l2 1 a zfu 0 M = some r := h1
  rw [f26_weigh, h1]
  rfl
/-- as the class weighs: voter names other, all else name as they did -/
def sVo (w : Nat → Int32) (voter other : Int32) (v : Nat) : Int32 := if zn v = voter then other else w (80 + v)
theorem elect_cls {M : ZI} {w : Nat → Int32} {n k c b Y : Nat} {voter other : Int32} (hf : fixIs M 1 w n k c b) (hok : fixOk w n k c b) (hmo : momOk w n Y) (h40 : ∀ v, v < n → M 40 v = sAsk w 20 v 0) :
    ∃ M', f36_elect 1 voter other M = some (optI (sGiv w (sVo w voter other) n n), M') ∧ ∀ o, o ≠ 33 → M' o = M o := by
  have hn10 := hok.1.1
  have h48 := hok.1.2.1
  have hru := hok.2.2.2.1
  have h11 : M 1 11 = zn n := hf.1.1.1.trans h48
  have h36 : ∀ p, p < n → M 37 p = w (60 + p) := fun p hp => (hf.1.2 p hp).1
  have h38 : ∀ p, p < n → M 39 p = w (80 + p) := fun p hp => (hf.1.2 p hp).2.2
  generalize hvo : sVo w voter other = vo
  have inner : ∀ (M1 : ZI) (p : Nat), (∀ o, o ≠ 33 → M1 o = M o) → f36_l26 1 voter other (zn p) M1 zfu 0 0 0 = some (zn (sSum w vo p n), zn (sNam vo p n)) := by
    intro M1 p g
    obtain ⟨r, h1, h2⟩ := zloop (fun f (a : Int32 × Int32) c => f36_l26 1 voter other (zn p) M1 f a.1 a.2 c) n (fun i a => a = (zn (sSum w vo p i), zn (sNam vo p i))) (fun r => r = (zn (sSum w vo p n), zn (sNam vo p n))) (fun f i a hi ha => by
        subst ha
        left
        refine ⟨_, rfl, ?_⟩
        have hz : zin (zn i) 10 = true := (zn_zin (by omega)).mpr (by omega)
        simp only [f36_l26]
        rw [g 1 (by decide), h11, if_pos ((zn_lt (by omega) (by omega)).mpr hi), if_pos hz, zn_zi (by omega), zadd1]
        simp only [Nat.reduceAdd]
        rw [g 39 (by decide), g 40 (by decide), h38 i hi, h40 i hi]
        have hv : ((if zn i = voter then some other else some (w (80 + i))) : Option Int32) = some (vo i) := by
          rw [← hvo, sVo]
          split <;> rfl
        rw [hv]
        simp only [Option.bind_some]
        obtain ⟨q, hq, e1, e2⟩ := ask20 w i
        by_cases h : vo i = zn p
        · rw [if_pos h, if_pos hz]
          simp only [zlet, sSum, sNam, if_pos h]
          rw [e1, zn_zi (by omega), zn_add, zl1, zn_shl (by omega), zn_or]
        · rw [if_neg h]
          simp only [sSum, sNam, if_neg h, Nat.add_zero]) (fun f a ha => by
        subst ha
        refine ⟨_, rfl, ?_⟩
        simp only [f36_l26]
        rw [g 1 (by decide), h11, if_neg (by rw [zn_lt (by omega) (by omega)]; omega)]) zfu 0 (0, 0) (by omega) (by rw [zfu_eq]; omega) rfl
    rw [← h2]
    exact h1
  obtain ⟨r, h1, h2, h3⟩ := zloop (fun f (a : Int32 × Int32 × ZI) c => f36_l8 1 voter other f a.1 a.2.1 c a.2.2) n (fun i a => a.1 = optI (sGiv w vo n i) ∧ a.2.1 = zn (match sGiv w vo n i with | some q => sSum w vo q n | none => 0) ∧ ∀ o, o ≠ 33 → a.2.2 o = M o)
    (fun r : Int32 × ZI => r.1 = optI (sGiv w vo n n) ∧ ∀ o, o ≠ 33 → r.2 o = M o) (fun f i a hi ha => by
      obtain ⟨a1, a2, a3⟩ := a
      obtain ⟨h1, h2, g⟩ := ha
      simp only at h1 h2 g
      subst h1
      subst h2
      left
      dsimp only
      rw [f36_l8]
      rw [g 1 (by decide), h11, if_pos ((zn_lt (by omega) (by omega)).mpr hi), inner a3 i g, zadd1]
      simp only [Option.bind_some]
      rw [show (1 + 36 : Nat) = 37 from rfl, show (1 + 28 : Nat) = 29 from rfl]
      have l1 := sSum_le w vo i n
      obtain ⟨M2, c1, c2⟩ := met_eq (M := a3) (sNam_1024 vo i n hn10) hru (by
        have := hf.2.2.2.1
        simp only [ruleIs, Nat.reduceAdd] at this ⊢
        rw [g 29 (by decide), g 30 (by decide), g 31 (by decide), g 32 (by decide)]
        exact this)
      have g2 : ∀ o, o ≠ 33 → M2 o = M o := fun o h1 => (c2 o h1).trans (g o h1)
      rw [c1]
      simp only [Option.bind_some]
      have hz : zin (zn i) 10 = true := (zn_zin (by omega)).mpr (by omega)
      rw [if_pos hz, zn_zi (show i < 2147483648 by omega), g 37 (by decide), h36 i hi]
      have key : ∃ bet : Bool, (bet = true ↔ (0 < sSum w vo i n ∧ sBef w vo n i (sGiv w vo n i) = true)) ∧ ((if zn (match sGiv w vo n i with | some q => sSum w vo q n | none => 0) < zn (sSum w vo i n) then some (1 : Int32) else if optI (sGiv w vo n i) = -1 then some 0 else if zn (sSum w vo i n) = zn (match sGiv w vo n i with | some q => sSum w vo q n | none => 0) then if zin (optI (sGiv w vo n i)) 10 = true then if M 37 (zi (optI (sGiv w vo n i))) < w (60 + i) then some 1 else some 0 else none else some 0) : Option Int32) = some (if bet = true then 1 else 0) := by
        cases hg : sGiv w vo n i with
        | none =>
          refine ⟨decide (0 < sSum w vo i n), by simp [sBef], ?_⟩
          simp only
          by_cases h : 0 < sSum w vo i n
          · rw [if_pos ((zn_lt (by decide) (by omega)).mpr h)]
            simp [h]
          · rw [if_neg (by rw [zn_lt (by decide) (by omega)]; exact h), if_pos optI_none]
            simp [h]
        | some q =>
          obtain ⟨hq1, hq2⟩ := sGiv_lt w vo n i q hg
          have l2 := sSum_le w vo q n
          have eq : optI (some q) = zn q := rfl
          refine ⟨sBef w vo n i (some q), ?_, ?_⟩
          · simp only [sBef, Bool.or_eq_true, decide_eq_true_eq, Bool.and_eq_true]
            constructor
            · intro h
              exact ⟨by rcases h with h | h <;> omega, h⟩
            · exact fun h => h.2
          · have hbe : sBef w vo n i (some q) = (decide (sSum w vo q n < sSum w vo i n) || (decide (sSum w vo i n = sSum w vo q n) && decide (w (60 + q) < w (60 + i)))) := rfl
            rw [hbe, eq]
            simp only
            by_cases h : sSum w vo q n < sSum w vo i n
            · rw [if_pos ((zn_lt (by omega) (by omega)).mpr h)]
              simp [h]
            · rw [if_neg (by rw [zn_lt (by omega) (by omega)]; exact h), if_neg (zn_ne_neg (by omega))]
              by_cases h2 : sSum w vo i n = sSum w vo q n
              · rw [if_pos (by rw [h2]), if_pos ((zn_zin (by omega)).mpr (by omega)), zn_zi (by omega), h36 q (by omega)]
                by_cases h3 : w (60 + q) < w (60 + i)
                · simp [h2, h3]
                · simp [h2, h3]
              · rw [if_neg (by rw [zn_eq (by omega) (by omega)]; exact h2)]
                simp [h, h2]
      obtain ⟨bet, hbet, hke⟩ := key
      rw [hke]
      simp only [Option.bind_some]
      have hgi : sGiv w vo n (i + 1) = if 0 < sSum w vo i n ∧ sSat w (sNam vo i n) = 1 ∧ sBef w vo n i (sGiv w vo n i) = true then some i else sGiv w vo n i := rfl
      cases hb : bet with
      | false =>
        have hno : sGiv w vo n (i + 1) = sGiv w vo n i := by
          rw [hgi, if_neg (fun h => by
            have := hbet.mpr ⟨h.1, h.2.2⟩
            rw [hb] at this
            cases this)]
        refine ⟨(_, _, a3), ⟨rfl, rfl, g⟩, ?_⟩
        simp only
        rw [hno]
        rfl
      | true =>
        have hyes := hbet.mp hb
        rcases sSat_01 hru (sNam_1024 vo i n hn10) with h2 | h2
        · have hno : sGiv w vo n (i + 1) = sGiv w vo n i := by
            rw [hgi, if_neg (fun h => by rw [h2] at h; exact absurd h.2.1 (by decide))]
          refine ⟨(_, _, M2), ⟨rfl, rfl, g2⟩, ?_⟩
          simp only
          rw [hno, h2]
          rfl
        · have hno : sGiv w vo n (i + 1) = some i := by
            rw [hgi, if_pos ⟨hyes.1, h2, hyes.2⟩]
          refine ⟨(_, _, M2), ⟨rfl, rfl, g2⟩, ?_⟩
          simp only
          rw [hno, h2]
          rfl) (fun f a ha => by
      obtain ⟨a1, a2, a3⟩ := a
      obtain ⟨h1, h2, g⟩ := ha
      simp only at h1 h2 g
      subst h1
      refine ⟨(optI (sGiv w vo n n), a3), ⟨rfl, g⟩, ?_⟩
      simp only [f36_l8]
      rw [g 1 (by decide), h11, if_neg (by rw [zn_lt (by omega) (by omega)]; omega)]) zfu 0 (-1, 0, M) (by omega) (by rw [zfu_eq]; omega) ⟨rfl, rfl, fun _ _ => rfl⟩
  obtain ⟨r1, r2⟩ := r
  refine ⟨r2, ?_, h3⟩
  have h1 : f36_l8 1 voter other zfu (-1) 0 0 M = some (r1, r2) := h1
  rw [f36_elect, h1]
  simp only at h2
  rw [h2]
  rfl
end
section
-- ===== bits of small sets =====
theorem zbit {s i : Nat} (hs : s < 4096) (hi : i < 12) : (zshr (zn s) (zn i) &&& 1) = if s.testBit i = true then 1 else 0 := by
  have h : ∀ q : Fin 4, ∀ s : Fin 1024, ∀ i : Fin 12, (zshr (zn (1024 * q.val + s.val)) (zn i.val) &&& 1) = if (1024 * q.val + s.val).testBit i.val = true then 1 else 0 := by decide +kernel
  have := h ⟨s / 1024, by omega⟩ ⟨s % 1024, Nat.mod_lt _ (by decide)⟩ ⟨i, hi⟩
  rwa [show 1024 * (s / 1024) + s % 1024 = s by omega] at this
theorem isIn_zn {s i : Nat} (hs : s < 4096) (hi : i < 12) : f19_isIn (zn s) (zn i) = some (if s.testBit i = true then 1 else 0) := by
  unfold f19_isIn
  rw [zbit hs hi]
  split <;> rfl
end
section
-- ===== WORKS: sums, what each is after, PLAN, on both sides =====
theorem and_bit (a b c d : Nat) (hc : c < 2) (hd : d < 2) : (2 * a + c) &&& (2 * b + d) = 2 * (a &&& b) + c * d := by
  apply Nat.eq_of_testBit_eq
  intro i
  have hcd : c * d < 2 := by
    rcases (show c = 0 ∨ c = 1 by omega) with rfl | rfl <;> omega
  cases i with
  | zero =>
    simp only [Nat.testBit_and, Nat.testBit_zero]
    rcases (show c = 0 ∨ c = 1 by omega) with rfl | rfl <;> rcases (show d = 0 ∨ d = 1 by omega) with rfl | rfl <;> simp <;> omega
  | succ i =>
    rw [Nat.testBit_and, Nat.testBit_succ, Nat.testBit_succ, Nat.testBit_succ]
    rw [show (2 * a + c) / 2 = a by omega, show (2 * b + d) / 2 = b by omega, show (2 * (a &&& b) + c * d) / 2 = a &&& b by omega, Nat.testBit_and]
theorem bit_of (x : Nat) : ∃ a c, c < 2 ∧ x = 2 * a + c := ⟨x / 2, x % 2, Nat.mod_lt _ (by decide), by omega⟩
theorem sub_full : ∀ (k o x : Nat), o < 2 ^ k → x &&& o = x → (x + 2 ^ k - 1 - o) &&& o = x
  | 0, o, x, ho, hx => by
    have : o = 0 := by simpa using ho
    subst this
    have : x = 0 := by rw [← hx]; simp
    subst this
    rfl
  | k + 1, o, x, ho, hx => by
    obtain ⟨o', d, hd, rfl⟩ := bit_of o
    obtain ⟨x', c, hc, rfl⟩ := bit_of x
    rw [and_bit _ _ _ _ hc hd] at hx
    have hcd : c * d < 2 := by rcases (show c = 0 ∨ c = 1 by omega) with rfl | rfl <;> omega
    have hx' : x' &&& o' = x' := by omega
    have hle : x' ≤ o' := by rw [← hx']; exact Nat.and_le_right
    have ih := sub_full k o' x' (by rw [Nat.pow_succ] at ho; omega) hx'
    rw [Nat.pow_succ] at ho ⊢
    have hc1 : c ≤ d := by
      rcases (show c = 0 ∨ c = 1 by omega) with rfl | rfl
      · omega
      · omega
    have e : 2 * x' + c + 2 ^ k * 2 - 1 - (2 * o' + d) = 2 * (x' + 2 ^ k - 1 - o') + (c + 1 - d) := by omega
    rw [e, and_bit _ _ _ _ (by omega) hd, ih]
    rcases (show c = 0 ∨ c = 1 by omega) with rfl | rfl <;> rcases (show d = 0 ∨ d = 1 by omega) with rfl | rfl <;> omega
theorem sub_next : ∀ (k o x : Nat), o < 2 ^ k → x &&& o = x → x ≠ o → x < ((x + 2 ^ k - o) &&& o) ∧ ∀ s, s &&& o = s → x < s → ((x + 2 ^ k - o) &&& o) ≤ s
  | 0, o, x, ho, hx, hne => by
    have : o = 0 := by simpa using ho
    subst this
    have : x = 0 := by rw [← hx]; simp
    exact absurd this hne
  | k + 1, o, x, ho, hx, hne => by
    obtain ⟨o', d, hd, rfl⟩ := bit_of o
    obtain ⟨x', c, hc, rfl⟩ := bit_of x
    rw [and_bit _ _ _ _ hc hd] at hx
    have hcd : c * d < 2 := by rcases (show c = 0 ∨ c = 1 by omega) with rfl | rfl <;> omega
    have hx' : x' &&& o' = x' := by omega
    have hle : x' ≤ o' := by rw [← hx']; exact Nat.and_le_right
    have ho' : o' < 2 ^ k := by rw [Nat.pow_succ] at ho; omega
    have hsub : ∀ s' e, e < 2 → (2 * s' + e) &&& (2 * o' + d) = 2 * s' + e → s' &&& o' = s' := by
      intro s' e he h
      rw [and_bit _ _ _ _ he hd] at h
      have : e * d < 2 := by rcases (show e = 0 ∨ e = 1 by omega) with rfl | rfl <;> omega
      omega
    have hc1 : c ≤ d := by
      rcases (show c = 0 ∨ c = 1 by omega) with rfl | rfl
      · omega
      · omega
    by_cases h : c = d
    · subst h
      have hne' : x' ≠ o' := by omega
      obtain ⟨i1, i2⟩ := sub_next k o' x' ho' hx' hne'
      have e : 2 * x' + c + 2 ^ (k + 1) - (2 * o' + c) = 2 * (x' + 2 ^ k - o') + 0 := by rw [Nat.pow_succ]; omega
      rw [e, and_bit _ _ _ _ (by omega) hd]
      refine ⟨by omega, fun s hs hxs => ?_⟩
      obtain ⟨s', e, he, rfl⟩ := bit_of s
      have := hsub s' e he hs
      have hes : e ≤ c := by
        rw [and_bit _ _ _ _ he hd] at hs
        have : e * c < 2 := by rcases (show e = 0 ∨ e = 1 by omega) with rfl | rfl <;> omega
        rcases (show e = 0 ∨ e = 1 by omega) with rfl | rfl
        · omega
        · omega
      have := i2 s' this (by omega)
      omega
    · obtain rfl : c = 0 := by omega
      obtain rfl : d = 1 := by omega
      have e : 2 * x' + 0 + 2 ^ (k + 1) - (2 * o' + 1) = 2 * (x' + 2 ^ k - 1 - o') + 1 := by rw [Nat.pow_succ]; omega
      rw [e, and_bit _ _ _ _ (by omega) hd, sub_full k o' x' ho' hx']
      exact ⟨by omega, fun s hs hxs => by omega⟩
/-- the next greater part of o behind x, as the class reckons it -/
theorem next_part {o x : Nat} (ho : o < 4096) (hx : x &&& o = x) : ∃ y, (zn x - zn o) &&& zn o = zn y ∧ y &&& o = y ∧ y < 4096 ∧ (x = o → y = 0) ∧ (x ≠ o → x < y ∧ ∀ s, s &&& o = s → x < s → y ≤ s) := by
  have hle : x ≤ o := by rw [← hx]; exact Nat.and_le_right
  have e : zn x - zn o = zn (x + 2 ^ 32 - o) := by
    apply Int32.toBitVec_inj.1
    show BitVec.ofNat 32 x - BitVec.ofNat 32 o = BitVec.ofNat 32 (x + 2 ^ 32 - o)
    apply BitVec.eq_of_toNat_eq
    simp only [BitVec.toNat_sub, BitVec.toNat_ofNat]
    omega
  refine ⟨(x + 2 ^ 32 - o) &&& o, by rw [e, zn_and], by rw [Nat.and_assoc, Nat.and_self], Nat.lt_of_le_of_lt Nat.and_le_right ho, ?_, sub_next 32 o x (by omega) hx⟩
  rintro rfl
  rw [Nat.add_sub_cancel_left]
  apply Nat.eq_of_testBit_eq
  intro i
  rw [Nat.testBit_and, Nat.testBit_two_pow]
  by_cases h : 32 = i
  · subst h
    rw [Nat.testBit_lt_two_pow (Nat.lt_of_lt_of_le ho (by decide))]
    simp
  · simp [h]
def wSum (w : Nat → Int32) (f s : Nat) : Nat → Nat
  | 0 => 0
  | m + 1 => wSum w f s m + (if s.testBit m = true then zi (w (90 + f + 6 * m)) else 0)
theorem wSum_le {w : Nat → Int32} {f s k : Nat} (h : ∀ i, i < k → zi (w (90 + f + 6 * i)) ≤ 99) : ∀ m, m ≤ k → wSum w f s m ≤ 99 * m
  | 0, _ => Nat.le_refl _
  | m + 1, hm => by
    have := wSum_le (w := w) (f := f) (s := s) h m (by omega)
    have := h m (by omega)
    unfold wSum
    split <;> omega
theorem wSum_ge {w : Nat → Int32} {f s i : Nat} : ∀ m, i < m → s.testBit i = true → zi (w (90 + f + 6 * i)) ≤ wSum w f s m
  | m + 1, hm, hs => by
    unfold wSum
    by_cases h : i = m
    · subst h
      rw [if_pos hs]; omega
    · have := wSum_ge (w := w) (f := f) m (by omega) hs
      omega
theorem wrk_cell {M : ZI} {w : Nat → Int32} {t k f i : Nat} (h : wrkIs M t w k) (hf : f < 6) (hi : i < k) : M (t + 1 + f) i = w (90 + f + 6 * i) := by
  obtain ⟨h1, h2, h3, h4, h5, h6⟩ := h.2 i hi
  have hf : f = 0 ∨ f = 1 ∨ f = 2 ∨ f = 3 ∨ f = 4 ∨ f = 5 := by omega
  rcases hf with rfl | rfl | rfl | rfl | rfl | rfl
  · exact h1
  · exact h2
  · exact h3
  · exact h4
  · exact h5
  · exact h6
theorem wrk_val {w : Nat → Int32} {n k f i : Nat} (h : wrkOk w n k) (hn : n ≤ 10) (hf : f < 5) (hi : i < k) : ∃ x, x ≤ 99 ∧ w (90 + f + 6 * i) = zn x := by
  obtain ⟨⟨o, h1, e1⟩, ⟨a, -, h2, e2⟩, ⟨b, h3, e3⟩, ⟨c, h4, e4⟩, ⟨d, h5, e5⟩, -⟩ := h.2.2 i hi
  have hf : f = 0 ∨ f = 1 ∨ f = 2 ∨ f = 3 ∨ f = 4 := by omega
  rcases hf with rfl | rfl | rfl | rfl | rfl
  · exact ⟨o, by omega, e1⟩
  · exact ⟨a, by omega, e2⟩
  · exact ⟨b, by omega, e3⟩
  · exact ⟨c, by omega, e4⟩
  · exact ⟨d, by omega, e5⟩
theorem wSum_bd {w : Nat → Int32} {n k f s : Nat} (h : wrkOk w n k) (hn : n ≤ 10) (hf : f < 5) : wSum w f s k ≤ 1188 := by
  have := wSum_le (w := w) (f := f) (s := s) (k := k) (fun i hi => by
    obtain ⟨x, hx, e⟩ := wrk_val h hn hf hi
    rw [e, zn_zi (by omega)]
    exact hx) k (Nat.le_refl _)
  have := h.1
  omega
theorem zal_wrk {f : Nat} (hf : f < 6) : zal (22 + f) = 12 := by
  have hf : f = 0 ∨ f = 1 ∨ f = 2 ∨ f = 3 ∨ f = 4 ∨ f = 5 := by omega
  rcases hf with rfl | rfl | rfl | rfl | rfl | rfl <;> rfl
theorem sum_cls {M : ZI} {w : Nat → Int32} {n k f s : Nat} (h : wrkIs M 21 w k) (hk : wrkOk w n k) (hn : n ≤ 10) (hf : f < 5) (hs : s < 4096) : f42_sum 21 (zn s) (22 + f) M = some (zn (wSum w f s k)) := by
  have hk12 := hk.1
  have h52 := hk.2.1
  obtain ⟨r, h1, h2⟩ := zloop (fun fu (a : Int32) c => f42_l5 21 (zn s) (22 + f) M fu a c) k (fun i a => a = zn (wSum w f s i)) (fun r => r = zn (wSum w f s k)) (fun fu i a hi ha => by
      subst ha
      left
      refine ⟨_, rfl, ?_⟩
      (try dsimp only)
      rw [f42_l5, h.1, h52, if_pos ((zn_lt (by omega) (by omega)).mpr hi), zal_wrk (by omega), show Int32.ofNat 12 = zn 12 from rfl, if_pos ((zn_lt (by omega) (by omega)).mpr (by omega)), isIn_zn hs (by omega), if_pos ((zn_zin (by omega)).mpr (by omega)), zn_zi (by omega), zadd1]
      simp only [Option.bind_some, zlet]
      obtain ⟨x, hx, e⟩ := wrk_val hk hn hf hi
      rw [wrk_cell (t := 21) h (by omega) hi]
      by_cases hb : s.testBit i = true
      · simp only [wSum, if_pos hb]
        rw [if_neg (by decide), e, zn_add, zn_zi (by omega)]
      · simp only [wSum, if_neg hb, Nat.add_zero]
        rw [if_pos trivial]) (fun fu a ha => by
      subst ha
      refine ⟨_, rfl, ?_⟩
      (try dsimp only)
      rw [f42_l5, h.1, h52, if_neg (by rw [zn_lt (by omega) (by omega)]; omega)]) zfu 0 0 (by omega) (by rw [zfu_eq]; omega) rfl
  have h1 : f42_l5 21 (zn s) (22 + f) M zfu 0 0 = some r := h1
  rw [f42_sum, h1, h2]
  rfl
theorem ofWork_eq {M : ZI} {i f : Nat} (hi : i < 12) (hf : f < 6) : f222_ofWork (zn i) (zn f) M = some (M 149 (90 + f + 6 * i)) := by
  unfold f222_ofWork
  rw [zl90, zl6, zn_mul, zn_add, zn_add, if_pos ((zn_zin (by omega)).mpr (by omega)), zn_zi (by omega)]
  congr 2; omega
theorem sum_ref2 {M : ZI} {w : Nat → Int32} {n k f s : Nat} (hw : M 149 = w) (hk : wrkOk w n k) (hn : n ≤ 10) (hf : f < 5) (hs : s < 4096) : f221_sumOf (zn s) (zn f) M = some (zn (wSum w f s k)) := by
  have hk12 := hk.1
  have h52 := hk.2.1
  obtain ⟨r, h1, h2⟩ := zloop (fun fu (a : Int32) c => f221_l5 (zn s) (zn f) M fu a c) k (fun i a => a = zn (wSum w f s i)) (fun r => r = zn (wSum w f s k)) (fun fu i a hi ha => by
      subst ha
      left
      refine ⟨_, rfl, ?_⟩
      (try dsimp only)
      rw [f221_l5, hw, h52, if_pos ((zn_lt (by omega) (by omega)).mpr hi), zbit hs (by omega), ofWork_eq (by omega) (by omega), zadd1, hw]
      simp only [Option.bind_some, zlet]
      obtain ⟨x, hx, e⟩ := wrk_val hk hn hf hi
      by_cases hb : s.testBit i = true
      · simp only [wSum, if_pos hb]
        rw [if_pos trivial, e, zn_add, zn_zi (by omega)]
      · simp only [wSum, if_neg hb, Nat.add_zero]
        rw [if_neg (by decide), Int32.add_zero]) (fun fu a ha => by
      subst ha
      refine ⟨_, rfl, ?_⟩
      (try dsimp only)
      rw [f221_l5, hw, h52, if_neg (by rw [zn_lt (by omega) (by omega)]; omega)]) zfu 0 0 (by omega) (by rw [zfu_eq]; omega) rfl
  have h1 : f221_l5 (zn s) (zn f) M zfu 0 0 = some r := h1
  rw [f221_sumOf, h1, h2]
  rfl
/-- what WORK i is after is in s or done -/
def wAft (w : Nat → Int32) (s d i : Nat) : Prop := w (95 + 6 * i) = -1 ∨ s.testBit (zi (w (95 + 6 * i))) = true ∨ d.testBit (zi (w (95 + 6 * i))) = true
theorem whole_cls {M : ZI} {w : Nat → Int32} {n k s d : Nat} (h : wrkIs M 21 w k) (hk : wrkOk w n k) (hs : s < 4096) (hd : d < 4096) : ∃ b : Bool, f43_isWhole 21 (zn s) (zn d) M = some (if b = true then 1 else 0) ∧ (b = true ↔ ∀ i, i < k → s.testBit i = true → wAft w s d i) := by
  have hk12 := hk.1
  have h52 := hk.2.1
  have hsd : s ||| d < 4096 := Nat.or_lt_two_pow (n := 12) hs hd
  obtain ⟨r, h1, h2⟩ := zloop (fun fu (_ : Unit) c => f43_l2 21 (zn s) (zn d) M fu c) k (fun i _ => ∀ j, j < i → s.testBit j = true → wAft w s d j) (fun r => (r = 1 ∧ ∀ i, i < k → s.testBit i = true → wAft w s d i) ∨ (r = 0 ∧ ¬ ∀ i, i < k → s.testBit i = true → wAft w s d i)) (fun fu i a hi ha => by
      (try dsimp only)
      have hz : zin (zn i) 12 = true := (zn_zin (by omega)).mpr (by omega)
      rw [f43_l2, h.1, h52, if_pos ((zn_lt (by omega) (by omega)).mpr hi), isIn_zn hs (by omega), if_pos hz, if_pos hz, zn_zi (by omega), zadd1, zn_or, show M (21 + 6) i = w (95 + 6 * i) from wrk_cell (t := 21) (f := 5) h (by decide) hi]
      simp only [Option.bind_some]
      by_cases hb : s.testBit i = true
      · rw [if_pos hb, if_neg (by decide)]
        obtain ⟨-, -, -, -, -, haf⟩ := hk.2.2 i hi
        rcases haf with haf | ⟨j, hj, haf, -⟩
        · rw [if_pos haf]
          left
          refine ⟨(), fun j hj hsj => ?_, rfl⟩
          by_cases hji : j = i
          · subst hji; exact Or.inl haf
          · exact ha j (by omega) hsj
        · rw [haf, if_neg (zn_ne_neg (by omega)), isIn_zn hsd (by omega)]
          simp only [Option.bind_some]
          rw [Nat.testBit_or]
          by_cases hc : (s.testBit j || d.testBit j) = true
          · rw [if_pos hc, if_neg (by decide)]
            left
            refine ⟨(), fun j' hj' hsj => ?_, rfl⟩
            by_cases hji : j' = i
            · subst hji
              right
              rw [haf, zn_zi (by omega)]
              simpa using hc
            · exact ha j' (by omega) hsj
          · rw [if_neg hc, if_pos rfl]
            right
            refine ⟨0, Or.inr ⟨rfl, fun hall => ?_⟩, rfl⟩
            rcases hall i hi hb with h3 | h3
            · rw [haf] at h3; exact zn_ne_neg (by omega) h3
            · rw [haf, zn_zi (by omega)] at h3
              exact hc (by simpa using h3)
      · rw [if_neg hb, if_pos rfl]
        left
        refine ⟨(), fun j hj hsj => ?_, rfl⟩
        by_cases hji : j = i
        · subst hji; exact absurd hsj hb
        · exact ha j (by omega) hsj) (fun fu a ha => by
      (try dsimp only)
      rw [f43_l2, h.1, h52, if_neg (by rw [zn_lt (by omega) (by omega)]; omega)]
      exact ⟨1, Or.inl ⟨rfl, ha⟩, rfl⟩) zfu 0 () (by omega) (by rw [zfu_eq]; omega) (fun j hj => by omega)
  have h1 : f43_l2 21 (zn s) (zn d) M zfu 0 = some r := h1
  rw [f43_isWhole, h1]
  rcases h2 with ⟨rfl, h2⟩ | ⟨rfl, h2⟩
  · exact ⟨true, rfl, by simpa using h2⟩
  · exact ⟨false, rfl, by simpa using h2⟩
def wTog (w : Nat → Int32) (k p s d : Nat) : Prop := ∀ i, i < k → s.testBit i = true → w (90 + 6 * i) = zn p ∧ wAft w s d i
theorem tog_ref {M : ZI} {w : Nat → Int32} {n k s d p : Nat} (hw : M 149 = w) (hk : wrkOk w n k) (hs : s < 4096) (hd : d < 4096) (h6 : w 6 = zn d) : ∃ b : Bool, f223_goTogether (zn s) (zn p) M = some (if b = true then 1 else 0) ∧ (b = true ↔ wTog w k p s d) := by
  have hk12 := hk.1
  have h52 := hk.2.1
  obtain ⟨r, h1, h2⟩ := zloop (fun fu (_ : Unit) c => f223_l2 (zn s) (zn p) M fu c) k (fun i _ => ∀ j, j < i → s.testBit j = true → w (90 + 6 * j) = zn p ∧ wAft w s d j) (fun r => (r = 1 ∧ wTog w k p s d) ∨ (r = 0 ∧ ¬ wTog w k p s d)) (fun fu i a hi ha => by
      (try dsimp only)
      rw [f223_l2, hw, h52, if_pos ((zn_lt (by omega) (by omega)).mpr hi), zbit hs (by omega), show (5 : Int32) = zn 5 from rfl, ofWork_eq (by omega) (by omega), show (0 : Int32) = zn 0 from rfl, ofWork_eq (by omega) (by omega), zadd1, hw]
      simp only [Option.bind_some]
      rw [show w (90 + 5 + 6 * i) = w (95 + 6 * i) from rfl, show w (90 + 0 + 6 * i) = w (90 + 6 * i) from rfl]
      by_cases hb : s.testBit i = true
      · rw [if_pos hb, if_neg (by decide)]
        by_cases hp : w (90 + 6 * i) = zn p
        · rw [if_pos hp]
          obtain ⟨-, -, -, -, -, haf⟩ := hk.2.2 i hi
          rcases haf with haf | ⟨j, hj, haf, -⟩
          · rw [if_pos haf]
            left
            refine ⟨(), fun j hj hsj => ?_, rfl⟩
            by_cases hji : j = i
            · subst hji; exact ⟨hp, Or.inl haf⟩
            · exact ha j (by omega) hsj
          · rw [haf, if_neg (zn_ne_neg (by omega))]
            have hdn : f224_isDone (zn j) M = some (if d.testBit j = true then 1 else 0) := by
              unfold f224_isDone
              rw [hw, h6, zbit hd (by omega)]
              split <;> rfl
            rw [hdn, zbit hs (by omega)]
            simp only [Option.bind_some]
            by_cases hc : d.testBit j = true
            · rw [if_pos hc, if_neg (by decide)]
              left
              refine ⟨(), fun j' hj' hsj => ?_, rfl⟩
              by_cases hji : j' = i
              · subst hji
                refine ⟨hp, Or.inr (Or.inr ?_)⟩
                rw [haf, zn_zi (by omega)]
                exact hc
              · exact ha j' (by omega) hsj
            · rw [if_neg hc, if_pos (show (0 : Int32) = zn 0 from rfl)]
              by_cases he : s.testBit j = true
              · rw [if_pos he, if_neg (by decide)]
                left
                refine ⟨(), fun j' hj' hsj => ?_, rfl⟩
                by_cases hji : j' = i
                · subst hji
                  refine ⟨hp, Or.inr (Or.inl ?_)⟩
                  rw [haf, zn_zi (by omega)]
                  exact he
                · exact ha j' (by omega) hsj
              · rw [if_neg he, if_pos (show (0 : Int32) = zn 0 from rfl)]
                right
                refine ⟨0, Or.inr ⟨rfl, fun hall => ?_⟩, rfl⟩
                rcases (hall i hi hb).2 with h3 | h3
                · rw [haf] at h3; exact zn_ne_neg (by omega) h3
                · rw [haf, zn_zi (by omega)] at h3
                  exact h3.elim he hc
        · rw [if_neg hp]
          right
          exact ⟨0, Or.inr ⟨rfl, fun hall => hp (hall i hi hb).1⟩, rfl⟩
      · rw [if_neg hb, if_pos rfl]
        left
        refine ⟨(), fun j hj hsj => ?_, rfl⟩
        by_cases hji : j = i
        · subst hji; exact absurd hsj hb
        · exact ha j (by omega) hsj) (fun fu a ha => by
      (try dsimp only)
      rw [f223_l2, hw, h52, if_neg (by rw [zn_lt (by omega) (by omega)]; omega)]
      exact ⟨1, Or.inl ⟨rfl, ha⟩, rfl⟩) zfu 0 () (by omega) (by rw [zfu_eq]; omega) (fun j hj => by omega)
  have h1 : f223_l2 (zn s) (zn p) M zfu 0 = some r := h1
  rw [f223_goTogether, h1]
  rcases h2 with ⟨rfl, h2⟩ | ⟨rfl, h2⟩
  · exact ⟨true, rfl, by simpa using h2⟩
  · exact ⟨false, rfl, by simpa using h2⟩
end
section
-- ===== PLAN: the best set, on both sides =====
theorem not_zn (a b : Nat) : zn a &&& (zn b ^^^ -1) = zn (a &&& (b ^^^ 4294967295)) := by
  rw [show (-1 : Int32) = zn 4294967295 from rfl, zn_xor, zn_and]
theorem tb_full {i : Nat} (h : i < 32) : (4294967295 : Nat).testBit i = true := by
  have : ∀ i : Fin 32, (4294967295 : Nat).testBit i.val = true := by decide
  exact this ⟨i, h⟩
theorem tb_not {a b i : Nat} (h : i < 32) : (a &&& (b ^^^ 4294967295)).testBit i = (a.testBit i && !b.testBit i) := by
  rw [Nat.testBit_and, Nat.testBit_xor, tb_full h]
  simp
theorem tb_lt {s k i : Nat} (hs : s < 2 ^ k) (h : s.testBit i = true) : i < k := by
  by_cases hi : i < k
  · exact hi
  · have : s < 2 ^ i := Nat.lt_of_lt_of_le hs (Nat.pow_le_pow_right (by decide) (by omega))
    rw [Nat.testBit_lt_two_pow this] at h
    cases h
theorem sub_of {s o : Nat} (h : ∀ i, s.testBit i = true → o.testBit i = true) : s &&& o = s := by
  apply Nat.eq_of_testBit_eq
  intro i
  rw [Nat.testBit_and]
  by_cases hs : s.testBit i = true
  · rw [hs, h i hs]; rfl
  · simp [hs]
theorem of_sub {s o i : Nat} (h : s &&& o = s) (hs : s.testBit i = true) : o.testBit i = true := by
  rw [← h, Nat.testBit_and] at hs
  simp at hs
  exact hs.2
theorem or_bit {s i j : Nat} : (s ||| 2 ^ i).testBit j = (s.testBit j || decide (i = j)) := by
  rw [Nat.testBit_or, Nat.testBit_two_pow]
theorem owned_cls {M : ZI} {w : Nat → Int32} {n k p h : Nat} (hi : wrkIs M 21 w k) (hk : wrkOk w n k) (hn : n ≤ 10) (hp : p < n) (hh : h ≤ 24) : ∃ o, o < 2 ^ k ∧ f41_ownedBy 21 (zn p) (zn h) M = some (zn o) ∧ ∀ i, o.testBit i = true ↔ i < k ∧ w (90 + 6 * i) = zn p ∧ zi (w (91 + 6 * i)) ≤ h := by
  have hk12 := hk.1
  have h52 := hk.2.1
  obtain ⟨r, h1, o, ho, rfl, h2⟩ := zloop (fun fu (a : Int32) c => f41_l5 21 (zn p) (zn h) M fu a c) k (fun i a => ∃ o, o < 2 ^ i ∧ a = zn o ∧ ∀ j, o.testBit j = true ↔ j < i ∧ w (90 + 6 * j) = zn p ∧ zi (w (91 + 6 * j)) ≤ h) (fun r => ∃ o, o < 2 ^ k ∧ r = zn o ∧ ∀ j, o.testBit j = true ↔ j < k ∧ w (90 + 6 * j) = zn p ∧ zi (w (91 + 6 * j)) ≤ h) (fun fu i a hik ha => by
      obtain ⟨o, ho, rfl, hb⟩ := ha
      have hz : zin (zn i) 12 = true := (zn_zin (by omega)).mpr (by omega)
      left
      (try dsimp only)
      rw [f41_l5, hi.1, h52, if_pos ((zn_lt (by omega) (by omega)).mpr hik), if_pos hz, if_pos hz, zn_zi (by omega), zadd1, show M (21 + 1) i = w (90 + 6 * i) from wrk_cell (t := 21) (f := 0) hi (by decide) hik, show M (21 + 2) i = w (91 + 6 * i) from wrk_cell (t := 21) (f := 1) hi (by decide) hik]
      obtain ⟨x, hx, ex⟩ := wrk_val hk hn (f := 1) (by decide) hik
      have ex : w (91 + 6 * i) = zn x := ex
      have keep : (w (90 + 6 * i) = zn p ∧ zi (w (91 + 6 * i)) ≤ h → False) → ∃ o, o < 2 ^ (i + 1) ∧ zn o = zn o ∧ ∀ j, o.testBit j = true ↔ j < i + 1 ∧ w (90 + 6 * j) = zn p ∧ zi (w (91 + 6 * j)) ≤ h := fun hf => ⟨o, by rw [Nat.pow_succ]; omega, rfl, fun j => by
        rw [hb j]
        constructor
        · exact fun hj => ⟨by omega, hj.2⟩
        · intro hj
          refine ⟨?_, hj.2⟩
          by_cases hji : j = i
          · subst hji; exact (hf hj.2).elim
          · omega⟩
      have keep2 : (w (90 + 6 * i) = zn p ∧ zi (w (91 + 6 * i)) ≤ h → False) → ∃ o2, o2 < 2 ^ (i + 1) ∧ zn o = zn o2 ∧ ∀ j, o2.testBit j = true ↔ j < i + 1 ∧ w (90 + 6 * j) = zn p ∧ zi (w (91 + 6 * j)) ≤ h := fun hf => ⟨o, by rw [Nat.pow_succ]; omega, rfl, fun j => by
        rw [hb j]
        constructor
        · exact fun hj => ⟨by omega, hj.2⟩
        · intro hj
          refine ⟨?_, hj.2⟩
          by_cases hji : j = i
          · subst hji; exact (hf hj.2).elim
          · omega⟩
      by_cases c1 : w (90 + 6 * i) = zn p
      · rw [if_pos c1, ex]
        by_cases c2 : zn h < zn x
        · rw [if_pos c2]
          rw [zn_lt (by omega) (by omega)] at c2
          refine ⟨zn o, keep2 (fun hf => ?_), rfl⟩
          rw [ex, zn_zi (by omega)] at hf
          omega
        · rw [if_neg c2]
          rw [zn_lt (by omega) (by omega)] at c2
          simp only [zlet]
          rw [zl1, zn_shl (by omega), zn_or]
          refine ⟨zn (o ||| 2 ^ i), ⟨o ||| 2 ^ i, or_pow_lt (by rw [Nat.pow_succ]; omega) (by omega), rfl, fun j => ?_⟩, rfl⟩
          rw [or_bit, Bool.or_eq_true, decide_eq_true_eq, hb j]
          constructor
          · rintro (hj | rfl)
            · exact ⟨by omega, hj.2⟩
            · exact ⟨by omega, c1, by rw [ex, zn_zi (by omega)]; omega⟩
          · intro hj
            by_cases hji : i = j
            · exact Or.inr hji
            · exact Or.inl ⟨by omega, hj.2⟩
      · rw [if_neg c1]
        exact ⟨zn o, keep2 (fun hf => c1 hf.1), rfl⟩) (fun fu a ha => by
      obtain ⟨o, ho, rfl, hb⟩ := ha
      refine ⟨zn o, ⟨o, ho, rfl, hb⟩, ?_⟩
      (try dsimp only)
      rw [f41_l5, hi.1, h52, if_neg (by rw [zn_lt (by omega) (by omega)]; omega)]) zfu 0 0 (by omega) (by rw [zfu_eq]; omega) ⟨0, by decide, rfl, fun j => by simp⟩
  have h1 : f41_l5 21 (zn p) (zn h) M zfu 0 0 = some (zn o) := h1
  refine ⟨o, ho, ?_, h2⟩
  rw [f41_ownedBy, h1]
  rfl
def pQual (w : Nat → Int32) (k p h d s : Nat) : Prop := (∀ i, s.testBit i = true → d.testBit i = false) ∧ wSum w 1 s k ≤ h ∧ wTog w k p s d
def pBet (w : Nat → Int32) (k s best : Nat) : Prop := wSum w 2 best k < wSum w 2 s k ∨ (wSum w 2 s k = wSum w 2 best k ∧ wSum w 1 s k < wSum w 1 best k)
/-- the best of the sets below m, told by what it is; x is that best set -/
def pBest (w : Nat → Int32) (k p h d : Nat) : Nat → Nat → Prop
  | 0, x => x = 0
  | s + 1, x => ∃ y, pBest w k p h d s y ∧ ((pQual w k p h d s ∧ pBet w k s y ∧ x = s) ∨ (¬ (pQual w k p h d s ∧ pBet w k s y) ∧ x = y))
theorem pBest_uniq {w : Nat → Int32} {k p h d : Nat} : ∀ {m x y : Nat}, pBest w k p h d m x → pBest w k p h d m y → x = y
  | 0, x, y, hx, hy => hx.trans hy.symm
  | m + 1, x, y, ⟨x', hx', hx⟩, ⟨y', hy', hy⟩ => by
    have := pBest_uniq hx' hy'
    subst this
    rcases hx with ⟨a, b, rfl⟩ | ⟨a, rfl⟩ <;> rcases hy with ⟨c, d, rfl⟩ | ⟨c, rfl⟩
    · rfl
    · exact absurd ⟨a, b⟩ c
    · exact absurd ⟨c, d⟩ a
    · rfl
theorem pBest_lt {w : Nat → Int32} {k p h d : Nat} : ∀ {m x : Nat}, pBest w k p h d m x → x < m ∨ x = 0
  | 0, x, hx => Or.inr hx
  | m + 1, x, ⟨x', hx', hx⟩ => by
    have := pBest_lt hx'
    rcases hx with ⟨-, -, rfl⟩ | ⟨-, rfl⟩ <;> omega
theorem pBest_qual {w : Nat → Int32} {k p h d : Nat} : ∀ {m x : Nat}, pBest w k p h d m x → x = 0 ∨ pQual w k p h d x
  | 0, x, hx => Or.inl hx
  | m + 1, x, ⟨x', hx', hx⟩ => by
    rcases hx with ⟨a, -, rfl⟩ | ⟨-, rfl⟩
    · exact Or.inr a
    · exact pBest_qual hx'
theorem pBest_skip {w : Nat → Int32} {k p h d m x : Nat} (hx : pBest w k p h d m x) : ∀ e, (∀ s, m ≤ s → s < m + e → ¬ pQual w k p h d s) → pBest w k p h d (m + e) x
  | 0, _ => hx
  | e + 1, hq => ⟨x, pBest_skip hx e (fun s h1 h2 => hq s h1 (by omega)), Or.inr ⟨fun hh => hq (m + e) (by omega) (by omega) hh.1, rfl⟩⟩
theorem wSum_0 {w : Nat → Int32} {f : Nat} : ∀ k, wSum w f 0 k = 0
  | 0 => rfl
  | k + 1 => by
    unfold wSum
    rw [wSum_0 k, if_neg (by simp)]
theorem pow_zn {k : Nat} (h : k ≤ 12) : zshl 1 (zn k) = zn (2 ^ k) := by
  rw [zl1]; exact zn_shl (by omega)
theorem pow_4096 {k : Nat} (h : k ≤ 12) : 2 ^ k ≤ 4096 := Nat.pow_le_pow_right (n := 2) (by decide) h
theorem and_0 {s d : Nat} : s &&& d = 0 ↔ ∀ i, s.testBit i = true → d.testBit i = false := by
  constructor
  · intro h i hs
    have := congrArg (fun x => x.testBit i) h
    simp only [Nat.testBit_and, hs, Bool.true_and, Nat.zero_testBit] at this
    exact this
  · intro h
    apply Nat.eq_of_testBit_eq
    intro i
    rw [Nat.testBit_and, Nat.zero_testBit]
    by_cases hs : s.testBit i = true
    · rw [hs, h i hs]; rfl
    · simp [hs]
theorem zgt0 {a b : Nat} (ha : a ≤ 2000) (hb : b ≤ 2000) : (0 < zn a - zn b ↔ b < a) ∧ (zn a - zn b = 0 ↔ a = b) := by
  have h1 : (zn a).toInt = a := zn_toInt (by omega)
  have h2 : (zn b).toInt = b := zn_toInt (by omega)
  have h3 : (zn a - zn b).toInt = (a : Int) - b := by
    rw [Int32.toInt_sub, h1, h2]
    apply Int.bmod_eq_of_le <;> omega
  constructor
  · rw [Int32.lt_iff_toInt_lt, h3]
    show (0 : Int) < _ ↔ _
    omega
  · rw [← Int32.toInt_inj, h3]
    show (_ : Int) = 0 ↔ _
    omega
theorem plan_ref {M : ZI} {w : Nat → Int32} {n k p h d : Nat} (hw : M 149 = w) (hk : wrkOk w n k) (hn : n ≤ 10) (hh : h ≤ 24) (hd : d < 4096) (h6 : w 6 = zn d) : ∃ x, pBest w k p h d (2 ^ k) x ∧ f220_planOf (zn p) (zn h) M = some (zn x) := by
  have hk12 := hk.1
  have h52 := hk.2.1
  have hp4 := pow_4096 hk12
  have hpos : 0 < 2 ^ k := Nat.two_pow_pos k
  obtain ⟨r, h1, x, hx, rfl⟩ := zloop (fun fu (a : Int32) c => f220_l5 (zn p) (zn h) M fu a c) (2 ^ k) (fun i a => 1 ≤ i ∧ ∃ x, pBest w k p h d i x ∧ a = zn x) (fun r => ∃ x, pBest w k p h d (2 ^ k) x ∧ r = zn x) (fun fu i a hik ha => by
      obtain ⟨hi1, x, hx, rfl⟩ := ha
      have hx4 : x < 4096 := by rcases pBest_lt hx with h | h <;> omega
      left
      (try dsimp only)
      rw [f220_l5, hw, h52, pow_zn hk12, if_pos ((zn_lt (by omega) (by omega)).mpr hik), h6, zn_and, zadd1]
      have stay : ¬ (pQual w k p h d i ∧ pBet w k i x) → ∃ y, pBest w k p h d (i + 1) y ∧ zn x = zn y := fun hno => ⟨x, ⟨x, hx, Or.inr ⟨hno, rfl⟩⟩, rfl⟩
      by_cases c1 : i &&& d = 0
      · have hid : zn (i &&& d) = 0 := by rw [c1]; rfl
        rw [if_pos hid, show (1 : Int32) = zn 1 from rfl, sum_ref2 hw hk hn (by decide) (by omega), sum_ref2 hw hk hn (by decide) hx4, show (2 : Int32) = zn 2 from rfl, sum_ref2 hw hk hn (by decide) (by omega), sum_ref2 hw hk hn (by decide) hx4]
        have b1 := wSum_bd (f := 1) (s := i) hk hn (by decide)
        have b2 := wSum_bd (f := 1) (s := x) hk hn (by decide)
        have b3 := wSum_bd (f := 2) (s := i) hk hn (by decide)
        have b4 := wSum_bd (f := 2) (s := x) hk hn (by decide)
        simp only [Option.bind_some]
        by_cases c2 : zn h < zn (wSum w 1 i k)
        · rw [if_pos c2]
          rw [zn_lt (by omega) (by omega)] at c2
          exact ⟨zn x, ⟨by omega, stay (fun hf => by have := hf.1.2.1; omega)⟩, rfl⟩
        · rw [if_neg c2]
          rw [zn_lt (by omega) (by omega)] at c2
          obtain ⟨b, hb, hbt⟩ := tog_ref (p := p) hw hk (show i < 4096 by omega) hd h6
          rw [hb]
          simp only [Option.bind_some]
          cases b with
          | false =>
            have : ¬ wTog w k p i d := fun ht => by have := hbt.mpr ht; cases this
            exact ⟨zn x, ⟨by omega, stay (fun hf => this hf.1.2.2)⟩, rfl⟩
          | true =>
            have htog := hbt.mp rfl
            have hq : pQual w k p h d i := ⟨and_0.mp c1, by omega, htog⟩
            have take : pBet w k i x → ∃ y, pBest w k p h d (i + 1) y ∧ zn i = zn y := fun hb => ⟨i, ⟨x, hx, Or.inl ⟨hq, hb, rfl⟩⟩, rfl⟩
            rw [if_neg (by decide)]
            simp only [zlet]
            obtain ⟨g1, g2⟩ := zgt0 (a := wSum w 2 i k) (b := wSum w 2 x k) (by omega) (by omega)
            by_cases c3 : wSum w 2 x k < wSum w 2 i k
            · rw [if_pos (g1.mpr c3)]
              exact ⟨zn i, ⟨by omega, take (Or.inl c3)⟩, rfl⟩
            · rw [if_neg (fun hf => c3 (g1.mp hf))]
              by_cases c4 : wSum w 2 i k = wSum w 2 x k
              · rw [if_pos (g2.mpr c4)]
                by_cases c5 : wSum w 1 i k < wSum w 1 x k
                · rw [if_pos ((zn_lt (by omega) (by omega)).mpr c5)]
                  exact ⟨zn i, ⟨by omega, take (Or.inr ⟨c4, c5⟩)⟩, rfl⟩
                · rw [if_neg (by rw [zn_lt (by omega) (by omega)]; exact c5)]
                  exact ⟨zn x, ⟨by omega, stay (fun hf => by rcases hf.2 with h | h <;> omega)⟩, rfl⟩
              · rw [if_neg (fun hf => c4 (g2.mp hf))]
                exact ⟨zn x, ⟨by omega, stay (fun hf => by rcases hf.2 with h | h <;> omega)⟩, rfl⟩
      · have hlt : i &&& d < 4096 := Nat.lt_of_le_of_lt Nat.and_le_left (by omega)
        rw [if_neg (show ¬ zn (i &&& d) = 0 by rw [zl0, zn_eq (by omega) (by decide)]; exact c1)]
        exact ⟨zn x, ⟨by omega, stay (fun hf => c1 (and_0.mpr hf.1.1))⟩, rfl⟩) (fun fu a ha => by
      obtain ⟨hi1, x, hx, rfl⟩ := ha
      refine ⟨zn x, ⟨x, hx, rfl⟩, ?_⟩
      (try dsimp only)
      rw [f220_l5, hw, h52, pow_zn hk12, if_neg (by rw [zn_lt (by omega) (by omega)]; omega)]) zfu 1 0 (by omega) (by rw [zfu_eq]; omega) ⟨by omega, 0, ⟨0, rfl, by
        by_cases hc : pQual w k p h d 0 ∧ pBet w k 0 0
        · exact Or.inl ⟨hc.1, hc.2, rfl⟩
        · exact Or.inr ⟨hc, rfl⟩⟩, rfl⟩
  refine ⟨x, hx, ?_⟩
  have h1 : f220_l5 (zn p) (zn h) M zfu 0 1 = some (zn x) := h1
  rw [f220_planOf, h1]
  rfl
end
section
-- ===== PLAN: the class's way through the parts of what is open =====
theorem qual_sub {w : Nat → Int32} {k p h d s o : Nat} (ho : ∀ i, o.testBit i = true ↔ (i < k ∧ w (90 + 6 * i) = zn p ∧ zi (w (91 + 6 * i)) ≤ h) ∧ d.testBit i = false) (hs : s < 2 ^ k) (hq : pQual w k p h d s) : s &&& o = s := by
  refine sub_of fun i hi => ?_
  have hik := tb_lt hs hi
  refine (ho i).mpr ⟨⟨hik, (hq.2.2 i hik hi).1, ?_⟩, hq.1 i hi⟩
  have := wSum_ge (w := w) (f := 1) k hik hi
  have h2 := hq.2.1
  have e : w (90 + 1 + 6 * i) = w (91 + 6 * i) := rfl
  rw [e] at this
  omega
theorem sub_qual {w : Nat → Int32} {k p h d s o : Nat} (ho : ∀ i, o.testBit i = true ↔ (i < k ∧ w (90 + 6 * i) = zn p ∧ zi (w (91 + 6 * i)) ≤ h) ∧ d.testBit i = false) (hs : s &&& o = s) : pQual w k p h d s ↔ wSum w 1 s k ≤ h ∧ ∀ i, i < k → s.testBit i = true → wAft w s d i := by
  constructor
  · exact fun hq => ⟨hq.2.1, fun i hi hb => (hq.2.2 i hi hb).2⟩
  · intro hq
    refine ⟨fun i hi => ((ho i).mp (of_sub hs hi)).2, hq.1, fun i hi hb => ⟨((ho i).mp (of_sub hs hb)).1.2.1, hq.2 i hi hb⟩⟩
theorem plan_cls {M : ZI} {w : Nat → Int32} {n k p h d : Nat} (hi : wrkIs M 21 w k) (hk : wrkOk w n k) (hn : n ≤ 10) (hp : p < n) (hh : h ≤ 24) (hd : d < 4096) : ∃ x, pBest w k p h d (2 ^ k) x ∧ f40_bestSet 21 (zn p) (zn h) (zn d) M = some (zn x) := by
  have hk12 := hk.1
  have h52 := hk.2.1
  have hp4 := pow_4096 hk12
  obtain ⟨o1, ho1, e1, hb1⟩ := owned_cls hi hk hn hp hh
  have ho2 : (o1 &&& (d ^^^ 4294967295)) < 2 ^ k := Nat.lt_of_le_of_lt Nat.and_le_left ho1
  have ho : ∀ i, (o1 &&& (d ^^^ 4294967295)).testBit i = true ↔ (i < k ∧ w (90 + 6 * i) = zn p ∧ zi (w (91 + 6 * i)) ≤ h) ∧ d.testBit i = false := by
    intro i
    by_cases hi32 : i < 32
    · rw [tb_not hi32, Bool.and_eq_true, hb1 i]
      simp
    · constructor
      · intro hc
        exact absurd (tb_lt ho2 hc) (by omega)
      · intro hc
        omega
  unfold f40_bestSet
  rw [e1]
  simp only [Option.bind_some, zlet]
  rw [not_zn]
  generalize (o1 &&& (d ^^^ 4294967295)) = o at *
  have done : ∀ x s, s = o → pBest w k p h d (s + 1) x → pBest w k p h d (2 ^ k) x := by
    intro x s hs hx
    subst hs
    have := pBest_skip hx (2 ^ k - (s + 1)) (fun s' h1 h2 hq => by
      have := qual_sub ho (show s' < 2 ^ k by omega) hq
      have : s' ≤ s := by rw [← this]; exact Nat.and_le_right
      omega)
    rwa [show s + 1 + (2 ^ k - (s + 1)) = 2 ^ k by omega] at this
  obtain ⟨r, h1, x, hx, rfl⟩ := zloop (fun fu (a : Int32 × Int32 × Int32 × Int32) c => f40_l27 21 (zn h) (zn d) M (zn o) fu a.1 a.2.1 a.2.2.1 a.2.2.2 c) 4096 (fun i a => ∃ x s, a = (zn x, zn (wSum w 2 x k), zn (wSum w 1 x k), zn s) ∧ s &&& o = s ∧ i ≤ s + 1 ∧ x < 4096 ∧ pBest w k p h d (s + 1) x) (fun r => ∃ x, pBest w k p h d (2 ^ k) x ∧ r = zn x) (fun fu i a hik ha => by
      obtain ⟨x, s, rfl, hs, his, hx4, hx⟩ := ha
      (try dsimp only)
      obtain ⟨y, ey, hy1, hy2, hy3, hy4⟩ := next_part (show o < 4096 by omega) hs
      rw [f40_l27, if_pos (show zn i < 4096 from (zn_lt (by omega) (by decide)).mpr hik)]
      simp only [zlet]
      rw [ey, zadd1]
      by_cases hso : s = o
      · rw [if_pos (show zn y = 0 by rw [hy3 hso]; rfl)]
        right
        exact ⟨zn x, ⟨x, done x s hso hx, rfl⟩, rfl⟩
      · obtain ⟨hy5, hy6⟩ := hy4 hso
        have hyk : y < 2 ^ k := Nat.lt_of_le_of_lt (by rw [← hy1]; exact Nat.and_le_right) ho2
        rw [if_neg (show ¬ zn y = 0 by rw [zl0, zn_eq (by omega) (by decide)]; omega), show f42_sum 21 (zn y) (21 + 2) M = some (zn (wSum w 1 y k)) from sum_cls hi hk hn (f := 1) (by decide) hy2, show f42_sum 21 (zn y) (21 + 3) M = some (zn (wSum w 2 y k)) from sum_cls hi hk hn (f := 2) (by decide) hy2]
        simp only [Option.bind_some]
        have b1 := wSum_bd (f := 1) (s := y) hk hn (by decide)
        have b2 := wSum_bd (f := 1) (s := x) hk hn (by decide)
        have b3 := wSum_bd (f := 2) (s := y) hk hn (by decide)
        have b4 := wSum_bd (f := 2) (s := x) hk hn (by decide)
        have hxy : pBest w k p h d y x := by
          have := pBest_skip hx (y - (s + 1)) (fun s' h1 h2 hq => by
            have := hy6 s' (qual_sub ho (show s' < 2 ^ k by omega) hq) (by omega)
            omega)
          rwa [show s + 1 + (y - (s + 1)) = y by omega] at this
        obtain ⟨b, hb, hbw⟩ := whole_cls (s := y) (d := d) hi hk hy2 hd
        rw [hb]
        simp only [Option.bind_some]
        left
        have stay : ¬ (pQual w k p h d y ∧ pBet w k y x) → ∃ x' s', (zn x, zn (wSum w 2 x k), zn (wSum w 1 x k), zn y) = (zn x', zn (wSum w 2 x' k), zn (wSum w 1 x' k), zn s') ∧ s' &&& o = s' ∧ i + 1 ≤ s' + 1 ∧ x' < 4096 ∧ pBest w k p h d (s' + 1) x' := fun hno => ⟨x, y, rfl, hy1, by omega, hx4, ⟨x, hxy, Or.inr ⟨hno, rfl⟩⟩⟩
        by_cases c1 : zn h < zn (wSum w 1 y k)
        · rw [if_pos c1]
          rw [zn_lt (by omega) (by omega)] at c1
          simp only [Option.bind_some]
          rw [if_neg (show ¬ zn (wSum w 2 x k) < -1 by
            intro hf
            have := neg_lt_zn (k := wSum w 2 x k) (by omega)
            grind), if_neg (zn_ne_neg' (by omega))]
          exact ⟨_, stay (fun hf => by have := hf.1.2.1; omega), rfl⟩
        · rw [if_neg c1]
          rw [zn_lt (by omega) (by omega)] at c1
          simp only [Option.bind_some]
          have tk : ∀ bet : Prop, (bet ↔ pBet w k y x) → bet → ∃ a', (∃ x' s', a' = (zn x', zn (wSum w 2 x' k), zn (wSum w 1 x' k), zn s') ∧ s' &&& o = s' ∧ i + 1 ≤ s' + 1 ∧ x' < 4096 ∧ pBest w k p h d (s' + 1) x') ∧ (if (if b = true then (1 : Int32) else 0) = 0 then f40_l27 21 (zn h) (zn d) M (zn o) fu (zn x) (zn (wSum w 2 x k)) (zn (wSum w 1 x k)) (zn y) (zn (i + 1)) else f40_l27 21 (zn h) (zn d) M (zn o) fu (zn y) (zn (wSum w 2 y k)) (zn (wSum w 1 y k)) (zn y) (zn (i + 1))) = f40_l27 21 (zn h) (zn d) M (zn o) fu a'.1 a'.2.1 a'.2.2.1 a'.2.2.2 (zn (i + 1)) := by
            intro bet hbet hbe
            cases b with
            | false =>
              rw [if_pos (by decide)]
              exact ⟨_, stay (fun hf => by
                have := hbw.mpr ((sub_qual ho hy1).mp hf.1).2
                cases this), rfl⟩
            | true =>
              rw [if_pos rfl, if_neg (by decide)]
              refine ⟨(zn y, zn (wSum w 2 y k), zn (wSum w 1 y k), zn y), ⟨y, y, rfl, hy1, by omega, hy2, ⟨x, hxy, Or.inl ⟨(sub_qual ho hy1).mpr ⟨by omega, hbw.mp rfl⟩, hbet.mp hbe, rfl⟩⟩⟩, rfl⟩
          by_cases c2 : wSum w 2 x k < wSum w 2 y k
          · rw [if_pos ((zn_lt (by omega) (by omega)).mpr c2)]
            exact tk True ⟨fun _ => Or.inl c2, fun _ => trivial⟩ trivial
          · rw [if_neg (by rw [zn_lt (by omega) (by omega)]; exact c2)]
            by_cases c3 : wSum w 2 y k = wSum w 2 x k
            · rw [if_pos (by rw [c3])]
              by_cases c4 : wSum w 1 y k < wSum w 1 x k
              · rw [if_pos ((zn_lt (by omega) (by omega)).mpr c4)]
                exact tk True ⟨fun _ => Or.inr ⟨c3, c4⟩, fun _ => trivial⟩ trivial
              · rw [if_neg (by rw [zn_lt (by omega) (by omega)]; exact c4)]
                exact ⟨_, stay (fun hf => by rcases hf.2 with h | h <;> omega), rfl⟩
            · rw [if_neg (by rw [zn_eq (by omega) (by omega)]; exact c3)]
              exact ⟨_, stay (fun hf => by rcases hf.2 with h | h <;> omega), rfl⟩) (fun fu a ha => by
      obtain ⟨x, s, rfl, hs, his, hx4, hx⟩ := ha
      have hle : s ≤ o := by rw [← hs]; exact Nat.and_le_right
      refine ⟨zn x, ⟨x, done x s (by omega) hx, rfl⟩, ?_⟩
      (try dsimp only)
      rw [f40_l27, if_neg (by decide)]) zfu 1 (0, 0, 0, 0) (by omega) (by rw [zfu_eq]; omega) ⟨0, 0, by rw [wSum_0, wSum_0]; rfl, by simp, by omega, by omega, ⟨0, rfl, by
        by_cases hc : pQual w k p h d 0 ∧ pBet w k 0 0
        · exact Or.inl ⟨hc.1, hc.2, rfl⟩
        · exact Or.inr ⟨hc, rfl⟩⟩⟩
  refine ⟨x, hx, ?_⟩
  have h1 : f40_l27 21 (zn h) (zn d) M (zn o) zfu 0 0 0 0 1 = some (zn x) := h1
  rw [h1]
  rfl
end
section
-- ===== THE BOOK's lines, in step; two memories: the class's (A) and the reference's (B) =====
def bkIs (A : ZI) (w : Nat → Int32) : Prop := bookIs A 7 w ∧ A 2 10 = w 5 ∧ A 2 5 = w 0 ∧ ∃ l, l ≤ 150 ∧ w 5 = zn l
def rowB (w w' : Nat → Int32) : Prop := ∀ j, j ≠ 5 → ¬ (578 ≤ j ∧ j < 1178) → w' j = w j
theorem rowB_refl (w : Nat → Int32) : rowB w w := fun _ _ _ => rfl
theorem rowB_trans {w w' w'' : Nat → Int32} (h1 : rowB w w') (h2 : rowB w' w'') : rowB w w'' := fun j a b => (h2 j a b).trans (h1 j a b)
/-- what writing a line leaves as it was -/
def bkFr (A A' : ZI) : Prop := (∀ o, o ≠ 2 → o ≠ 8 → o ≠ 9 → o ≠ 10 → o ≠ 11 → A' o = A o) ∧ ∀ j, j ≠ 10 → A' 2 j = A 2 j
theorem bkFr_refl (A : ZI) : bkFr A A := ⟨fun _ _ _ _ _ _ => rfl, fun _ _ => rfl⟩
theorem bkFr_trans {A B C : ZI} (h1 : bkFr A B) (h2 : bkFr B C) : bkFr A C := ⟨fun o a b c d e => (h2.1 o a b c d e).trans (h1.1 o a b c d e), fun j a => (h2.2 j a).trans (h1.2 j a)⟩
theorem note_eq {A B : ZI} {w : Nat → Int32} {x y z : Int32} (hw : B 149 = w) (ht : B 148 30 = 1) (hb : bkIs A w) :
    ∃ A' B', f46_write 7 2 x y z A = some A' ∧ f217_notes x y z B = some B' ∧ bkIs A' (B' 149) ∧ rowB w (B' 149) ∧ (∀ o, o ≠ 149 → B' o = B o) ∧ bkFr A A' := by
  subst hw
  obtain ⟨hbk, h10, h5, l, hl, hwl⟩ := hb
  have e10 : A 2 10 = zn l := h10.trans hwl
  unfold f46_write f217_notes
  simp only [zlet]
  rw [if_neg (show ¬ B 148 30 = 0 by rw [ht]; decide), hwl, e10, if_neg (zn_nneg (by omega))]
  by_cases hl2 : l = 150
  · subst hl2
    rw [if_neg (by decide), if_pos (show zn 150 = 150 from rfl)]
    exact ⟨A, B, rfl, rfl, ⟨hbk, h10, h5, 150, by omega, hwl⟩, rowB_refl _, fun _ _ => rfl, bkFr_refl A⟩
  · have hz : zin (zn l) 150 = true := (zn_zin (by omega)).mpr (by omega)
    rw [if_pos (show zn l < 150 by rw [zl150, zn_lt (by omega) (by decide)]; omega), if_pos hz, if_pos hz, if_pos hz, if_pos hz, zn_zi (by omega), if_neg (show ¬ zn l = 150 by rw [zl150, zn_eq (by omega) (by decide)]; exact hl2)]
    rw [zl578, zl4, zn_mul, zn_add, show zn (578 + 4 * l) + 1 = zn (579 + 4 * l) by rw [zl1, zn_add]; congr 1; omega, show zn (578 + 4 * l) + 2 = zn (580 + 4 * l) by rw [zl2, zn_add]; congr 1; omega, show zn (578 + 4 * l) + 3 = zn (581 + 4 * l) by rw [zl3, zn_add]; congr 1; omega]
    rw [if_pos ((zn_zin (by omega)).mpr (by omega)), if_pos ((zn_zin (by omega)).mpr (by omega)), if_pos ((zn_zin (by omega)).mpr (by omega)), if_pos ((zn_zin (by omega)).mpr (by omega)), zn_zi (by omega), zn_zi (by omega), zn_zi (by omega), zn_zi (by omega)]
    simp only [zs_ap, Nat.reduceAdd, Nat.reduceEqDiff, ↓reduceIte, e10]
    refine ⟨_, _, rfl, rfl, ⟨?_, ?_, ?_, l + 1, by omega, ?_⟩, ?_, ?_, ?_, ?_⟩
    · intro i hi
      obtain ⟨b1, b2, b3, b4⟩ := hbk i hi
      simp only [Nat.reduceAdd] at b1 b2 b3 b4
      simp only [zs_ap, upd_ap, Nat.reduceAdd, Nat.reduceEqDiff, ↓reduceIte]
      by_cases hil : i = l
      · subst hil
        refine ⟨?_, ?_, ?_, ?_⟩
        · rw [if_pos rfl, if_neg (by omega), if_neg (by omega), if_neg (by omega), if_neg (by omega), if_pos rfl]; exact h5
        · rw [if_pos rfl, if_neg (by omega), if_neg (by omega), if_neg (by omega), if_pos rfl]
        · rw [if_pos rfl, if_neg (by omega), if_neg (by omega), if_pos rfl]
        · rw [if_pos rfl, if_neg (by omega), if_pos rfl]
      · refine ⟨?_, ?_, ?_, ?_⟩
        · rw [if_neg hil, if_neg (by omega), if_neg (by omega), if_neg (by omega), if_neg (by omega), if_neg (by omega)]; exact b1
        · rw [if_neg hil, if_neg (by omega), if_neg (by omega), if_neg (by omega), if_neg (by omega), if_neg (by omega)]; exact b2
        · rw [if_neg hil, if_neg (by omega), if_neg (by omega), if_neg (by omega), if_neg (by omega), if_neg (by omega)]; exact b3
        · rw [if_neg hil, if_neg (by omega), if_neg (by omega), if_neg (by omega), if_neg (by omega), if_neg (by omega)]; exact b4
    · simp only [zs_ap, upd_ap, Nat.reduceAdd, Nat.reduceEqDiff, ↓reduceIte]
      rw [if_neg (by omega), if_neg (by omega), if_neg (by omega), if_neg (by omega), hwl]
    · simp only [zs_ap, upd_ap, Nat.reduceAdd, Nat.reduceEqDiff, ↓reduceIte]
      rw [if_neg (by omega), if_neg (by omega), if_neg (by omega), if_neg (by omega)]
      exact h5
    · simp only [zs_ap, upd_ap, Nat.reduceAdd, Nat.reduceEqDiff, ↓reduceIte]
      rw [if_neg (by omega), if_neg (by omega), if_neg (by omega), if_neg (by omega), hwl, zadd1]
    · intro j h1 h2
      simp only [zs_ap, upd_ap, ↓reduceIte]
      rw [if_neg h1, if_neg (by omega), if_neg (by omega), if_neg (by omega), if_neg (by omega)]
    · intro o ho
      simp only [zs_ap, if_neg ho]
    · intro o h1 h2 h3 h4 h5
      simp only [zs_ap, if_neg h1, if_neg h2, if_neg h3, if_neg h4, if_neg h5]
    · intro j hj
      simp only [zs_ap, upd_ap, Nat.reduceEqDiff, ↓reduceIte, if_neg hj]
theorem works_note {A B : ZI} {w : Nat → Int32} {n k s : Nat} (hw : B 149 = w) (ht : B 148 30 = 1) (hb : bkIs A w) (hi : wrkIs A 21 w k) (hk : wrkOk w n k) (hs : s < 4096) :
    ∃ A' B', f45_l28 1 2 (zn s) zfu 0 A = some A' ∧ f218_l69 (zn s) zfu 0 B = some B' ∧ bkIs A' (B' 149) ∧ rowB w (B' 149) ∧ (∀ o, o ≠ 149 → B' o = B o) ∧ bkFr A A' := by
  have hk12 := hk.1
  have h52 := hk.2.1
  obtain ⟨A', B', h1, h2, h3⟩ := zpair (fun fu (a : ZI) c => f45_l28 1 2 (zn s) fu c a) (fun fu (a : ZI) c => f218_l69 (zn s) fu c a) k (fun i a b => bkIs a (b 149) ∧ rowB w (b 149) ∧ (∀ o, o ≠ 149 → b o = B o) ∧ bkFr A a) (fun a b => bkIs a (b 149) ∧ rowB w (b 149) ∧ (∀ o, o ≠ 149 → b o = B o) ∧ bkFr A a) (fun fu i a b hik hab => by
      obtain ⟨g1, g2, g3, g4⟩ := hab
      left
      (try dsimp only)
      have h21 : a 21 = A 21 := g4.1 21 (by decide) (by decide) (by decide) (by decide) (by decide)
      have h23 : a 23 = A 23 := g4.1 23 (by decide) (by decide) (by decide) (by decide) (by decide)
      have c52 : b 149 52 = zn k := (g2 52 (by decide) (by omega)).trans h52
      have c91 : b 149 (90 + 1 + 6 * i) = w (91 + 6 * i) := g2 _ (by omega) (by omega)
      have a23 : A 23 i = w (91 + 6 * i) := wrk_cell (t := 21) (f := 1) hi (by decide) hik
      rw [f45_l28, f218_l69, show (1 : Nat) + 20 = 21 from rfl, show (1 : Nat) + 22 = 23 from rfl, show (1 : Nat) + 6 = 7 from rfl, h21, hi.1, h52, c52, if_pos ((zn_lt (by omega) (by omega)).mpr hik), if_pos ((zn_lt (by omega) (by omega)).mpr hik), isIn_zn hs (by omega), zbit hs (by omega), zadd1, h23, zn_zi (by omega), a23, show f222_ofWork (zn i) 1 b = some (w (91 + 6 * i)) from (ofWork_eq (f := 1) (by omega) (by decide)).trans (by rw [c91])]
      simp only [Option.bind_some]
      by_cases hsb : s.testBit i = true
      · rw [if_pos hsb, if_neg (by decide), if_pos ((zn_zin (by omega)).mpr (by omega)), if_pos rfl]
        obtain ⟨a', b', e1, e2, e3, e4, e5, e6⟩ := note_eq (x := 3) (y := zn i) (z := w (91 + 6 * i)) (B := b) rfl (by rw [g3 148 (by decide)]; exact ht) g1
        rw [e1, e2]
        exact ⟨a', b', ⟨e3, rowB_trans g2 e4, fun o ho => (e5 o ho).trans (g3 o ho), bkFr_trans g4 e6⟩, rfl, rfl⟩
      · rw [if_neg hsb, if_pos rfl, if_neg (by decide)]
        exact ⟨a, b, ⟨g1, g2, g3, g4⟩, rfl, rfl⟩) (fun fu a b hab => by
      obtain ⟨g1, g2, g3, g4⟩ := hab
      refine ⟨a, b, ⟨g1, g2, g3, g4⟩, ?_, ?_⟩
      · (try dsimp only)
        rw [f45_l28, show (1 : Nat) + 20 = 21 from rfl, g4.1 21 (by decide) (by decide) (by decide) (by decide) (by decide), hi.1, h52, if_neg (by rw [zn_lt (by omega) (by omega)]; omega)]
      · (try dsimp only)
        rw [f218_l69, g2 52 (by decide) (by omega), h52, if_neg (by rw [zn_lt (by omega) (by omega)]; omega)]) zfu 0 A B (by omega) (by rw [zfu_eq]; omega) ⟨by rw [hw]; exact hb, by rw [hw]; exact rowB_refl w, fun _ _ => rfl, bkFr_refl A⟩
  exact ⟨A', B', h1, h2, h3⟩
/-- what the YEAR does to those who grow older: the class -/
theorem grow_cls {A : ZI} {a n : Nat} {whom : Int32} (ha : a = 2 ∨ a = 114) (hn : n ≤ 10) :
    ∃ A', f47_growOlder a (zn n) whom A = some A' ∧ (∀ o, o ≠ a → o ≠ a + 1 → o ≠ a + 2 → o ≠ a + 3 → A' o = A o) ∧ (∀ j, A' a j = if j = 5 then A a 5 + 1 else A a j) ∧ ∀ p, p < n → A' (a + 1) p = zmin 99 (A (a + 1) p + 1) ∧ A' (a + 2) p = (if zn p = whom then A (a + 2) p + 1 else A (a + 2) p) ∧ A' (a + 3) p = (if zn p = whom then 0 else A (a + 3) p + 1) := by
  obtain ⟨m, h1, h2, h3, h4⟩ := zloop (fun fu (m : ZI) c => f47_l2 a (zn n) whom fu c m) n (fun i m => (∀ o, o ≠ a + 1 → o ≠ a + 2 → o ≠ a + 3 → m o = A o) ∧ (∀ p, p < i → m (a + 1) p = zmin 99 (A (a + 1) p + 1) ∧ m (a + 2) p = (if zn p = whom then A (a + 2) p + 1 else A (a + 2) p) ∧ m (a + 3) p = (if zn p = whom then 0 else A (a + 3) p + 1)) ∧ ∀ p, i ≤ p → m (a + 1) p = A (a + 1) p ∧ m (a + 2) p = A (a + 2) p ∧ m (a + 3) p = A (a + 3) p)
    (fun m => (∀ o, o ≠ a + 1 → o ≠ a + 2 → o ≠ a + 3 → m o = A o) ∧ (∀ p, p < n → m (a + 1) p = zmin 99 (A (a + 1) p + 1) ∧ m (a + 2) p = (if zn p = whom then A (a + 2) p + 1 else A (a + 2) p) ∧ m (a + 3) p = (if zn p = whom then 0 else A (a + 3) p + 1)) ∧ True) (fun fu i m hi hm => by
      obtain ⟨g1, g2, g3⟩ := hm
      left
      (try dsimp only)
      have hz : zin (zn i) 10 = true := (zn_zin (by omega)).mpr (by omega)
      obtain ⟨q1, q2, q3⟩ := g3 i (Nat.le_refl _)
      rw [f47_l2, if_pos ((zn_lt (by omega) (by omega)).mpr hi), if_pos (show zn i < 10 by rw [zl10, zn_lt (by omega) (by decide)]; omega), zn_zi (by omega), zadd1]
      simp only [zlet, hz, ↓reduceIte]
      by_cases hc : zn i = whom
      · rw [if_pos hc]
        simp only [Option.bind_some]
        refine ⟨_, ⟨?_, ?_, ?_⟩, rfl⟩
        · intro o h1 h2 h3
          simp only [zs_ap, if_neg h1, if_neg h2, if_neg h3]
          exact g1 o h1 h2 h3
        · intro p hp
          simp only [zs_ap, upd_ap, Nat.add_left_cancel_iff, Nat.reduceEqDiff, ↓reduceIte]
          by_cases hpi : p = i
          · subst hpi
            simp only [↓reduceIte, hc, q1, q2]
            exact ⟨trivial, trivial, trivial⟩
          · simp only [if_neg hpi]
            exact g2 p (by omega)
        · intro p hp
          simp only [zs_ap, upd_ap, Nat.add_left_cancel_iff, Nat.reduceEqDiff, ↓reduceIte, if_neg (show ¬ p = i by omega)]
          exact g3 p (by omega)
      · rw [if_neg hc]
        simp only [Option.bind_some]
        refine ⟨_, ⟨?_, ?_, ?_⟩, rfl⟩
        · intro o h1 h2 h3
          simp only [zs_ap, if_neg h1, if_neg h2, if_neg h3]
          exact g1 o h1 h2 h3
        · intro p hp
          simp only [zs_ap, upd_ap, Nat.add_left_cancel_iff, Nat.reduceEqDiff, ↓reduceIte]
          by_cases hpi : p = i
          · subst hpi
            simp only [↓reduceIte, if_neg hc, q1, q2, q3]
            exact ⟨trivial, trivial, trivial⟩
          · simp only [if_neg hpi]
            exact g2 p (by omega)
        · intro p hp
          simp only [zs_ap, upd_ap, Nat.add_left_cancel_iff, Nat.reduceEqDiff, ↓reduceIte, if_neg (show ¬ p = i by omega)]
          exact g3 p (by omega)) (fun fu m hm => by
      obtain ⟨g1, g2, g3⟩ := hm
      refine ⟨m, ⟨g1, g2, trivial⟩, ?_⟩
      (try dsimp only)
      rw [f47_l2, if_neg (by rw [zn_lt (by omega) (by omega)]; omega)]) zfu 0 A (by omega) (by rw [zfu_eq]; omega) ⟨fun _ _ _ _ => rfl, fun p hp => by omega, fun p _ => ⟨rfl, rfl, rfl⟩⟩
  have h1 : f47_l2 a (zn n) whom zfu 0 A = some m := h1
  refine ⟨zs m a 5 (m a 5 + 1), by rw [f47_growOlder, h1]; rfl, ?_, ?_, ?_⟩
  · intro o g1 g2 g3 g4
    rw [zs_ap, if_neg g1]
    exact h2 o g2 g3 g4
  · intro j
    rw [zs_ap, if_pos rfl, upd_ap, h2 a (by omega) (by omega) (by omega)]
  · intro p hp
    have e1 : zs m a 5 (m a 5 + 1) (a + 1) = m (a + 1) := by rw [zs_ap, if_neg (by omega)]
    have e2 : zs m a 5 (m a 5 + 1) (a + 2) = m (a + 2) := by rw [zs_ap, if_neg (by omega)]
    have e3 : zs m a 5 (m a 5 + 1) (a + 3) = m (a + 3) := by rw [zs_ap, if_neg (by omega)]
    rw [e1, e2, e3]
    exact h3 p hp
theorem grow_ref {B : ZI} {w : Nat → Int32} {n : Nat} (hw : B 149 = w) (hn : n ≤ 10) (h48 : w 48 = zn n) :
    ∃ B', f204_l93 zfu 0 B = some B' ∧ (∀ o, o ≠ 149 → B' o = B o) ∧ (∀ p, p < n → B' 149 (37 + p) = w (37 + p) + 1 ∧ B' 149 (17 + p) = zmin 99 (w (17 + p) + 1)) ∧ ∀ j, ¬ (37 ≤ j ∧ j < 37 + n) → ¬ (17 ≤ j ∧ j < 17 + n) → B' 149 j = w j := by
  obtain ⟨m, h1, h2, h3, h4⟩ := zloop (fun fu (m : ZI) c => f204_l93 fu c m) n (fun i m => (∀ o, o ≠ 149 → m o = B o) ∧ (∀ p, p < i → m 149 (37 + p) = w (37 + p) + 1 ∧ m 149 (17 + p) = zmin 99 (w (17 + p) + 1)) ∧ ∀ j, ¬ (37 ≤ j ∧ j < 37 + i) → ¬ (17 ≤ j ∧ j < 17 + i) → m 149 j = w j)
    (fun m => (∀ o, o ≠ 149 → m o = B o) ∧ (∀ p, p < n → m 149 (37 + p) = w (37 + p) + 1 ∧ m 149 (17 + p) = zmin 99 (w (17 + p) + 1)) ∧ ∀ j, ¬ (37 ≤ j ∧ j < 37 + n) → ¬ (17 ≤ j ∧ j < 17 + n) → m 149 j = w j) (fun fu i m hi hm => by
      obtain ⟨g1, g2, g3⟩ := hm
      left
      (try dsimp only)
      have c48 : m 149 48 = zn n := (g3 48 (by omega) (by omega)).trans h48
      rw [f204_l93, c48, if_pos ((zn_lt (by omega) (by omega)).mpr hi), show (37 : Int32) + zn i = zn (37 + i) from zn_add 37 i, show (17 : Int32) + zn i = zn (17 + i) from zn_add 17 i, zadd1]
      have hz1 : zin (zn (37 + i)) 2064 = true := (zn_zin (by omega)).mpr (by omega)
      have hz2 : zin (zn (17 + i)) 2064 = true := (zn_zin (by omega)).mpr (by omega)
      have zz1 : zi (zn (37 + i)) = 37 + i := zn_zi (by omega)
      have zz2 : zi (zn (17 + i)) = 17 + i := zn_zi (by omega)
      simp only [zlet, les_eq, Option.bind_some, hz1, hz2, zz1, zz2, ↓reduceIte]
      refine ⟨_, ⟨?_, ?_, ?_⟩, rfl⟩
      · intro o ho
        simp only [zs_ap, if_neg ho]
        exact g1 o ho
      · intro p hp
        simp only [zs_ap, upd_ap, ↓reduceIte]
        by_cases hpi : p = i
        · subst hpi
          rw [if_neg (by omega), if_pos rfl, if_pos rfl, if_neg (by omega), g3 (37 + p) (by omega) (by omega), g3 (17 + p) (by omega) (by omega)]
          exact ⟨rfl, rfl⟩
        · rw [if_neg (by omega), if_neg (by omega), if_neg (by omega), if_neg (by omega)]
          exact g2 p (by omega)
      · intro j h1 h2
        simp only [zs_ap, upd_ap, ↓reduceIte]
        rw [if_neg (by omega), if_neg (by omega)]
        exact g3 j (by omega) (by omega)) (fun fu m hm => by
      obtain ⟨g1, g2, g3⟩ := hm
      refine ⟨m, ⟨g1, g2, g3⟩, ?_⟩
      (try dsimp only)
      rw [f204_l93, g3 48 (by omega) (by omega), h48, if_neg (by rw [zn_lt (by omega) (by omega)]; omega)]) zfu 0 B (by omega) (by rw [zfu_eq]; omega) ⟨fun _ _ => rfl, fun p hp => by omega, fun j _ _ => by rw [hw]⟩
  exact ⟨m, h1, h2, h3, h4⟩
end
section
-- ===== rows that agree where no YEAR changes them =====
def rowF (w w' : Nat → Int32) : Prop := ∀ j, 48 ≤ j → ¬ (578 ≤ j ∧ j < 1178) → w' j = w j
theorem rowF_symm {w w' : Nat → Int32} (h : rowF w w') : rowF w' w := fun j a b => (h j a b).symm
theorem rowF_trans {w w' w'' : Nat → Int32} (h : rowF w w') (h2 : rowF w' w'') : rowF w w'' := fun j a b => (h2 j a b).trans (h j a b)
theorem sRun_row {F w w' : Nat → Int32} (h : rowF w w') : ∀ (k i : Nat) (st : List Int32), sRun F w' k i st = sRun F w k i st
  | 0, _, _ => rfl
  | k + 1, i, st => by
    unfold sRun
    rw [h (1244 + 2 * i) (by omega) (by omega), h (1245 + 2 * i) (by omega) (by omega)]
    congr 1
    funext s
    exact sRun_row h k (i + 1) s
theorem cRun_row {S : Nat} {w w' : Nat → Int32} (h : rowF w w') : ∀ (k i : Nat) (st : List Int32), i + k ≤ 400 → cRun S w' k i st = cRun S w k i st
  | 0, _, _, _ => rfl
  | k + 1, i, st, hi => by
    unfold cRun
    rw [h (162 + i) (by omega) (by omega)]
    congr 1
    funext s
    exact cRun_row h k (i + 1) s (by omega)
theorem voiceN_row {w w' : Nat → Int32} (h : rowF w w') : ∀ n, n ≤ 10 → voiceN w' n = voiceN w n
  | 0, _ => rfl
  | n + 1, hn => by
    unfold voiceN
    rw [voiceN_row h n (by omega), h (80 + n) (by omega) (by omega)]
theorem fixOk_row {w w' : Nat → Int32} {n k c b : Nat} (h : rowF w w') (hok : fixOk w n k c b) : fixOk w' n k c b := by
  obtain ⟨⟨p1, p2, p3, p4, p5, p6, p7, p8⟩, ⟨l1, L, l2, l3, l4⟩, ⟨k1, k2, k3⟩, ⟨rl, r1, r2, r3, r4, r5⟩, b1, b2⟩ := hok
  have e : ∀ j, 48 ≤ j → j < 578 → w' j = w j := fun j a b => h j a (by omega)
  have e2 : ∀ j, 1178 ≤ j → w' j = w j := fun j a => h j (by omega) (by omega)
  refine ⟨⟨p1, by rw [e _ (by omega) (by omega)]; exact p2, by rw [e _ (by omega) (by omega)]; exact p3, by rw [e _ (by omega) (by omega)]; exact p4, by rw [e _ (by omega) (by omega)]; exact p5, by rw [e _ (by omega) (by omega)]; exact p6, by rw [e _ (by omega) (by omega), voiceN_row h n p1]; exact p7, fun p hp => by rw [e _ (by omega) (by omega), e _ (by omega) (by omega), e _ (by omega) (by omega)]; exact p8 p hp⟩, ⟨l1, L, l2, by rw [e _ (by omega) (by omega)]; exact l3, fun i hi => ?_⟩, ⟨k1, by rw [e _ (by omega) (by omega)]; exact k2, fun i hi => ?_⟩, ⟨rl, r1, by rw [e _ (by omega) (by omega)]; exact r2, by rw [e _ (by omega) (by omega)]; exact r3, fun j hj => by rw [e _ (by omega) (by omega)]; exact r4 j hj, fun S hS => by rw [cRun_row h rl 0 [] (by omega)]; exact r5 S hS⟩, b1, by rw [e _ (by omega) (by omega)]; exact b2⟩
  · obtain ⟨f, m, t, q1, q2, q3, q4, q5, q6, q7, q8, q9⟩ := l4 i hi
    refine ⟨f, m, t, q1, q2, q3, by rw [e2 _ (by omega)]; exact q4, by rw [e2 _ (by omega)]; exact q5, by rw [e2 _ (by omega)]; exact q6, by rw [e2 _ (by omega)]; exact q7, fun F => ?_, ?_⟩
    · rw [sRun_row h]; exact q8 F
    · rcases q9 with q9 | q9
      · exact Or.inl q9
      · exact Or.inr fun F => by rw [sRun_row h]; exact q9 F
  · obtain ⟨q1, q2, q3, q4, q5, q6⟩ := k3 i hi
    refine ⟨by rw [e _ (by omega) (by omega)]; exact q1, by rw [e _ (by omega) (by omega)]; exact q2, by rw [e _ (by omega) (by omega)]; exact q3, by rw [e _ (by omega) (by omega)]; exact q4, by rw [e _ (by omega) (by omega)]; exact q5, ?_⟩
    rw [e _ (by omega) (by omega)]
    rcases q6 with q6 | ⟨j, hj, q6, q7⟩
    · exact Or.inl q6
    · exact Or.inr ⟨j, hj, q6, by rw [e _ (by omega) (by omega), e _ (by omega) (by omega)]; exact q7⟩
theorem fixIs_row {A : ZI} {t : Nat} {w w' : Nat → Int32} {n k c b : Nat} (h : rowF w w') (hok : fixOk w n k c b) (hf : fixIs A t w n k c b) : fixIs A t w' n k c b := by
  obtain ⟨⟨p1, -⟩, ⟨l1, L, l2, l3, -⟩, ⟨k1, -⟩, ⟨rl, r1, r2, -⟩, b1, -⟩ := hok
  obtain ⟨⟨⟨f1, f2, f3, f4, f5⟩, f6⟩, ⟨g1, g2, g3, g4⟩, ⟨h1, h2⟩, ⟨i1, i2, i3⟩, ⟨j1, j2⟩⟩ := hf
  have e : ∀ j, 48 ≤ j → j < 578 → w' j = w j := fun j a b => h j a (by omega)
  have e2 : ∀ j, 1178 ≤ j → w' j = w j := fun j a => h j (by omega) (by omega)
  have zL : zi (w 58) = L := by rw [l3, zn_zi (by omega)]
  have zR : zi (w 54) = rl := by rw [r2, zn_zi (by omega)]
  refine ⟨⟨⟨by rw [e _ (by omega) (by omega)]; exact f1, by rw [e _ (by omega) (by omega)]; exact f2, by rw [e _ (by omega) (by omega)]; exact f3, by rw [e _ (by omega) (by omega)]; exact f4, by rw [e _ (by omega) (by omega)]; exact f5⟩, fun p hp => by rw [e _ (by omega) (by omega), e _ (by omega) (by omega), e _ (by omega) (by omega)]; exact f6 p hp⟩, ⟨by rw [e _ (by omega) (by omega)]; exact g1, g2, fun j hj => by rw [e2 _ (by omega), e2 _ (by omega)]; exact g3 j hj, fun i hi => ?_⟩, ⟨by rw [e _ (by omega) (by omega)]; exact h1, fun i hi => ?_⟩, ⟨by rw [e _ (by omega) (by omega)]; exact i1, by rw [e _ (by omega) (by omega)]; exact i2, fun j hj => ?_⟩, ⟨by rw [e _ (by omega) (by omega)]; exact j1, fun i hi => ?_⟩⟩
  · rw [e _ (by omega) (by omega), zL] at hi
    rw [e2 _ (by omega), e2 _ (by omega), e2 _ (by omega), e2 _ (by omega)]
    exact g4 i (by rw [zL]; exact hi)
  · rw [e _ (by omega) (by omega), e _ (by omega) (by omega), e _ (by omega) (by omega), e _ (by omega) (by omega), e _ (by omega) (by omega), e _ (by omega) (by omega)]
    exact h2 i hi
  · rw [e _ (by omega) (by omega), zR] at hj
    rw [e _ (by omega) (by omega)]
    exact i3 j (by rw [zR]; exact hj)
  · rw [e _ (by omega) (by omega), e _ (by omega) (by omega)]
    exact j2 i hi
theorem wSum_row {w w' : Nat → Int32} {f s : Nat} (hr : rowF w w') {m : Nat} (hm : m ≤ 12) (hf : f < 6) : wSum w' f s m = wSum w f s m := by
  induction m with
  | zero => rfl
  | succ m ih =>
    unfold wSum
    rw [ih (by omega), hr (90 + f + 6 * m) (by omega) (by omega)]
theorem pBest_row {w w' : Nat → Int32} {n k p h d : Nat} (hr : rowF w w') (hk : wrkOk w n k) : ∀ {m x : Nat}, pBest w k p h d m x → pBest w' k p h d m x := by
  have hk12 := hk.1
  have e : ∀ j, 48 ≤ j → j < 578 → w' j = w j := fun j a b => hr j a (by omega)
  have hsum : ∀ f, f < 6 → ∀ s m, m ≤ 12 → wSum w' f s m = wSum w f s m := by
    intro f hf s m
    induction m with
    | zero => intro _; rfl
    | succ m ih =>
      intro hm
      unfold wSum
      rw [ih (by omega), e _ (by omega) (by omega)]
  have haft : ∀ s i, i < k → (wAft w' s d i ↔ wAft w s d i) := by
    intro s i hi
    unfold wAft
    rw [e _ (by omega) (by omega)]
  have hq : ∀ s, pQual w' k p h d s ↔ pQual w k p h d s := by
    intro s
    unfold pQual wTog
    rw [hsum 1 (by decide) s k hk12]
    constructor
    · rintro ⟨a, b, c⟩
      exact ⟨a, b, fun i hi hs => by
        have := c i hi hs
        rw [e _ (by omega) (by omega), haft s i hi] at this
        exact this⟩
    · rintro ⟨a, b, c⟩
      exact ⟨a, b, fun i hi hs => by
        have := c i hi hs
        rw [e _ (by omega) (by omega), haft s i hi]
        exact this⟩
  have hb : ∀ s y, pBet w' k s y ↔ pBet w k s y := by
    intro s y
    unfold pBet
    rw [hsum 1 (by decide) s k hk12, hsum 1 (by decide) y k hk12, hsum 2 (by decide) s k hk12, hsum 2 (by decide) y k hk12]
  intro m
  induction m with
  | zero => intro x hx; exact hx
  | succ m ih =>
    rintro x ⟨y, hy, hx⟩
    refine ⟨y, ih hy, ?_⟩
    rw [hq, hb]
    exact hx
end
section
-- ===== who is GIVEN: what he does, in step =====
theorem pBest_4096 {w : Nat → Int32} {k p h d x : Nat} (hk : k ≤ 12) (hx : pBest w k p h d (2 ^ k) x) : x < 2 ^ k ∧ x < 4096 ∧ wSum w 1 x k ≤ h := by
  have h4 := pow_4096 hk
  have hp := Nat.two_pow_pos k
  have h1 : x < 2 ^ k := by rcases pBest_lt hx with h | h <;> omega
  refine ⟨h1, by omega, ?_⟩
  rcases pBest_qual hx with rfl | hq
  · rw [wSum_0]; omega
  · exact hq.2.1
/-- the row when the WORKS x are done, ahead of all else -/
def rowG (w : Nat → Int32) (k d x : Nat) : Nat → Int32 := upd (upd w 6 (zn (d ||| x))) 3 (w 3 + zn (wSum w 2 x k))
theorem rowG_F {w : Nat → Int32} {k d x : Nat} : rowF w (rowG w k d x) := fun j a _ => by
  unfold rowG
  rw [upd_ap, if_neg (by omega), upd_ap, if_neg (by omega)]
theorem rowG_lo {w : Nat → Int32} {k d x j : Nat} (h3 : j ≠ 3) (h6 : j ≠ 6) : rowG w k d x j = w j := by
  unfold rowG
  rw [upd_ap, if_neg h3, upd_ap, if_neg h6]
theorem momOk_G {w : Nat → Int32} {n Y k d x : Nat} (h : momOk w n Y) (hd : d < 4096) (hx : x < 4096) : momOk (rowG w k d x) n Y := by
  obtain ⟨h1, ⟨y, hy, h2, h3⟩, h4, -, h6⟩ := h
  refine ⟨by rw [rowG_lo (by omega) (by omega)]; exact h1, ⟨y, hy, by rw [rowG_lo (by omega) (by omega)]; exact h2, fun p hp => by rw [rowG_lo (by omega) (by omega)]; exact h3 p hp⟩, by rw [rowG_lo (by omega) (by omega)]; exact h4, ⟨d ||| x, Nat.or_lt_two_pow (n := 12) hd hx, by unfold rowG; rw [upd_ap, if_neg (by omega), upd_ap, if_pos rfl]⟩, fun p hp => ?_⟩
  rw [rowG_lo (by omega) (by omega), rowG_lo (by omega) (by omega)]
  exact h6 p hp
theorem momIs_G {A : ZI} {a : Nat} {w : Nat → Int32} {n k d x : Nat} (h : momIs A a w n) (h6 : w 6 = zn d) : momIs (zs (zs A a 8 (A a 8 ||| zn x)) a 7 (A a 7 + zn (wSum w 2 x k))) a (rowG w k d x) n := by
  obtain ⟨⟨m1, m2, m3, m4, m5, m6, m7⟩, m8⟩ := h
  refine ⟨?_, fun p hp => ?_⟩
  · simp only [zs_ap, upd_ap, Nat.reduceEqDiff, ↓reduceIte, rowG]
    refine ⟨m1, m2, m3, by rw [m4], by rw [m5, h6, zn_or], m6, m7⟩
  · have e : ∀ q, q ≠ a → (zs (zs A a 8 (A a 8 ||| zn x)) a 7 (A a 7 + zn (wSum w 2 x k))) q = A q := fun q hq => by rw [zs_ap, if_neg hq, zs_ap, if_neg hq]
    rw [e _ (by omega), e _ (by omega), e _ (by omega), e _ (by omega), rowG_lo (by omega) (by omega), rowG_lo (by omega) (by omega), rowG_lo (by omega) (by omega), rowG_lo (by omega) (by omega)]
    exact m8 p hp
/-- the class, up to what THE LAW tells of wear and notice -/
theorem give_cls {A : ZI} {w : Nat → Int32} {a n k c b Y p e d : Nat} {r : Int32} (ha : a = 2 ∨ a = 114) (hp : p < n) (hf : fixIs A 1 w n k c b) (hok : fixOk w n k c b) (hm : momIs A a w n) (hmo : momOk w n Y) (h1 : w 1 = zn e) (he : e ≤ 24) (h6 : w 6 = zn d) (hd : d < 4096) {x : Nat} (hx : pBest w k p (24 - e) d (2 ^ k) x) :
    ∃ A1, f38_giveTo 1 a (zn p) r A = ((f23_wearBy a (sAsk (rowG w k d x) 21 p (wSum w 1 x k)) A1).bind fun M11 => if r = 0 then some M11 else (f44_draw a 1000 M11).bind fun x_1 => ((if x_1.1 < sAsk (rowG w k d x) 22 p (wSum w 1 x k) then some (1 : Int32) else some 0) : Option Int32).bind fun v14 => ((if v14 = 0 then some (0 : Int32) else some 1) : Option Int32).bind fun v15 => (f45_enter 1 a (zn p) (zn x) v14 (zs x_1.2 a 6 (x_1.2 a 6 + v15))).bind fun M17 => some M17)
      ∧ fixIs A1 1 (rowG w k d x) n k c b ∧ momIs A1 a (rowG w k d x) n ∧ ∀ o, o ≠ 16 → o ≠ 41 → o ≠ a → A1 o = A o := by
  have hn10 := hok.1.1
  have hwk := hok.2.2.1
  obtain ⟨x1, x2, x3⟩ := pBest_4096 hwk.1 hx
  have hwi : wrkIs A 21 w k := hf.2.2.1
  obtain ⟨x', hx', ex⟩ := plan_cls (M := A) hwi hwk hn10 hp (show 24 - e ≤ 24 by omega) hd
  have hxx := pBest_uniq hx' hx
  subst hxx
  have m4 : A a 4 = zn e := hm.1.1.trans h1
  have m8 : A a 8 = zn d := hm.1.2.2.2.2.1.trans h6
  have hu : wSum w 1 x' k ≤ 24 := by omega
  have hfr : ∀ q v v', (∀ o, o ≠ a → (zs (zs A a q v) a 7 v') o = A o) := fun q v v' o ho => by rw [zs_ap, if_neg ho, zs_ap, if_neg ho]
  have hfixG : ∀ v v', fixIs (zs (zs A a 8 v) a 7 v') 1 (rowG w k d x') n k c b := fun v v' => fixIs_row rowG_F hok (fixIs_of hf (fun o ho => hfr 8 v v' o (by rcases ha with rfl | rfl <;> omega)))
  have hwi4 : wrkIs (zs A a 8 (A a 8 ||| zn x')) 21 w k := by
    have : ∀ o, o ≠ a → (zs A a 8 (A a 8 ||| zn x')) o = A o := fun o ho => by rw [zs_ap, if_neg ho]
    unfold wrkIs at hwi ⊢
    rw [this 21 (by omega), this (21 + 1) (by omega), this (21 + 2) (by omega), this (21 + 3) (by omega), this (21 + 4) (by omega), this (21 + 5) (by omega), this (21 + 6) (by omega)]
    exact hwi
  have hm6 := momIs_G (k := k) (x := x') hm h6
  have hmo6 := momOk_G (k := k) hmo hd x2
  obtain ⟨A7, a1, a2⟩ := asks_cls (u := wSum w 1 x' k) (W := 257) (W' := 21) ha hp hu (Or.inr (Or.inl ⟨rfl, rfl⟩)) (hfixG (A a 8 ||| zn x') (A a 7 + zn (wSum w 2 x' k))) (fixOk_row rowG_F hok) hm6 hmo6
  obtain ⟨A8, b1, b2⟩ := asks_cls (M := A7) (u := wSum w 1 x' k) (W := 258) (W' := 22) ha hp hu (Or.inr (Or.inr ⟨rfl, rfl⟩)) (fixIs_of (hfixG (A a 8 ||| zn x') (A a 7 + zn (wSum w 2 x' k))) (fun o ho => a2 o (by omega) (by omega))) (fixOk_row rowG_F hok) (momIs_of hm6 (fun o h1 h2 => a2 o (by omega) (by omega))) hmo6
  refine ⟨A8, ?_, fixIs_of (hfixG (A a 8 ||| zn x') (A a 7 + zn (wSum w 2 x' k))) (fun o ho => (b2 o (by omega) (by omega)).trans (a2 o (by omega) (by omega))), momIs_of hm6 (fun o h1 h2 => (b2 o (by omega) (by omega)).trans (a2 o (by omega) (by omega))), fun o g1 g2 g3 => (b2 o g1 g2).trans ((a2 o g1 g2).trans (hfr 8 _ _ o g3))⟩
  have e24 : (24 : Int32) - zn e = zn (24 - e) := zn_sub (i := 24) he
  unfold f38_giveTo f39_hoursLeft
  rw [m4, e24]
  simp only [Option.bind_some]
  rw [show (1 : Nat) + 20 = 21 from rfl, show (1 : Nat) + 22 = 23 from rfl, show (1 : Nat) + 23 = 24 from rfl, m8, ex]
  simp only [Option.bind_some]
  rw [show f42_sum 21 (zn x') 23 A = some (zn (wSum w 1 x' k)) from sum_cls hwi hwk hn10 (f := 1) (by decide) x2]
  simp only [Option.bind_some, zlet]
  rw [← m8, show f42_sum 21 (zn x') 24 (zs A a 8 (A a 8 ||| zn x')) = some (zn (wSum w 2 x' k)) from sum_cls hwi4 hwk hn10 (f := 2) (by decide) x2]
  simp only [Option.bind_some]
  have e7 : (zs A a 8 (A a 8 ||| zn x')) a 7 = A a 7 := by rw [zs_ap, if_pos rfl, upd_ap, if_neg (by decide)]
  rw [e7, a1]
  simp only [Option.bind_some]
  rw [b1]
  rfl
/-- the reference, up to the same -/
theorem give_ref {B : ZI} {w : Nat → Int32} {n k c b Y p e d : Nat} (hw : B 149 = w) (hp : p < n) (hok : fixOk w n k c b) (hmo : momOk w n Y) (h1 : w 1 = zn e) (he : e ≤ 24) (h6 : w 6 = zn d) (hd : d < 4096) {x : Nat} (hx : pBest w k p (24 - e) d (2 ^ k) x) :
    ∃ B1, f218_gets (zn p) B = ((f217_notes 0 (zn p) (zn (wSum w 1 x k)) B1).bind fun M11 => (f218_l69 (zn x) zfu 0 M11).bind fun M16 => if zin (27 + zn p) 2064 = true then if zin (27 + zn p) 2064 = true then zlet (zs M16 149 (zi (27 + zn p)) (M16 149 (zi (27 + zn p)) + 1)) fun M18 => if zin (37 + zn p) 2064 = true then zlet (zs M18 149 (zi (37 + zn p)) (-1)) fun M19 => (f202_lesser 24 (M19 149 1 + sAsk (rowG w k d x) 21 p (wSum w 1 x k))).bind fun v20 => zlet (zs M19 149 1 v20) fun M21 => if M21 148 30 = 0 then some M21 else (f227_draw 1000 M21).bind fun x_1 => if x_1.1 < sAsk (rowG w k d x) 22 p (wSum w 1 x k) then zlet (zs x_1.2 149 2 (x_1.2 149 2 + 1)) fun M24 => (f217_notes 4 (zn p) 0 M24).bind fun M25 => some M25 else some x_1.2 else none else none else none)
      ∧ B1 149 = rowG w k d x ∧ ∀ o, o ≠ 149 → o ≠ 159 → o ≠ 160 → B1 o = B o := by
  have hn10 := hok.1.1
  have hwk := hok.2.2.1
  obtain ⟨x1, x2, x3⟩ := pBest_4096 hwk.1 hx
  obtain ⟨x', hx', ex⟩ := plan_ref (M := B) (p := p) hw hwk hn10 (show 24 - e ≤ 24 by omega) hd h6
  have hxx := pBest_uniq hx' hx
  subst hxx
  have hu : wSum w 1 x' k ≤ 24 := by omega
  have e24 : (24 : Int32) - zn e = zn (24 - e) := zn_sub (i := 24) he
  have eG : (zs (zs B 149 6 (zn (d ||| x'))) 149 3 (w 3 + zn (wSum w 2 x' k))) 149 = rowG w k d x' := by
    subst hw
    rfl
  obtain ⟨B7, a1, a2⟩ := wear_ref (u := wSum w 1 x' k) eG hp (fixOk_row rowG_F hok) (momOk_G (k := k) hmo hd x2)
  obtain ⟨B8, b1, b2⟩ := notice_ref (M := B7) (u := wSum w 1 x' k) ((a2 149 (by decide) (by decide)).trans eG) hp (fixOk_row rowG_F hok) (momOk_G (k := k) hmo hd x2)
  refine ⟨B8, ?_, (b2 149 (by decide) (by decide)).trans ((a2 149 (by decide) (by decide)).trans eG), fun o g1 g2 g3 => (b2 o g2 g3).trans ((a2 o g2 g3).trans (by rw [zs_ap, if_neg g1, zs_ap, if_neg g1]))⟩
  have hs2 : f221_sumOf (zn x') 2 (zs B 149 6 (zn (d ||| x'))) = some (zn (wSum w 2 x' k)) := by
    have hr : rowF w ((zs B 149 6 (zn (d ||| x'))) 149) := fun j h1 h2 => by rw [zs_ap, if_pos rfl, upd_ap, if_neg (by omega), hw]
    have := sum_ref2 (M := zs B 149 6 (zn (d ||| x'))) (f := 2) rfl (fixOk_row hr hok).2.2.1 hn10 (by decide) x2
    rw [show (2 : Int32) = zn 2 from rfl, this]
    congr 2
    exact wSum_row hr hwk.1 (by decide)
  unfold f218_gets f219_hoursNow
  rw [hw, h1, e24]
  simp only [Option.bind_some]
  rw [ex]
  simp only [Option.bind_some]
  rw [show f221_sumOf (zn x') 1 B = some (zn (wSum w 1 x' k)) from sum_ref2 hw hwk hn10 (f := 1) (by decide) x2]
  simp only [Option.bind_some]
  rw [h6, zn_or]
  have z : ∀ {α : Type} (f : ZI → Option α) (m : ZI), zlet m f = f m := fun f m => rfl
  rw [z, hs2]
  simp only [Option.bind_some]
  rw [z, show (zs B 149 6 (zn (d ||| x'))) 149 3 = w 3 by rw [zs_ap, if_pos rfl, upd_ap, if_neg (by decide), hw], a1]
  simp only [Option.bind_some]
  rw [b1]
  rfl
end
section
-- ===== who is GIVEN: to the end, in step =====
theorem bkIs_row {A A' : ZI} {w w' : Nat → Int32} (h : bkIs A w) (hA : (∀ o, 8 ≤ o → o ≤ 11 → A' o = A o) ∧ A' 2 10 = A 2 10 ∧ A' 2 5 = A 2 5) (hw : w' 0 = w 0 ∧ w' 5 = w 5 ∧ ∀ j, 578 ≤ j → j < 1178 → w' j = w j) : bkIs A' w' := by
  obtain ⟨h1, h2, h3, l, hl, h4⟩ := h
  refine ⟨fun i hi => ?_, by rw [hA.2.1, hw.2.1]; exact h2, by rw [hA.2.2, hw.1]; exact h3, l, hl, by rw [hw.2.1]; exact h4⟩
  rw [hA.1 _ (by omega) (by omega), hA.1 _ (by omega) (by omega), hA.1 _ (by omega) (by omega), hA.1 _ (by omega) (by omega), hw.2.2 _ (by omega) (by omega), hw.2.2 _ (by omega) (by omega), hw.2.2 _ (by omega) (by omega), hw.2.2 _ (by omega) (by omega)]
  exact h1 i hi
/-- what holds between the class's moment at a and the row when all is done but growing older; x is who had it -/
def preIs (A : ZI) (a : Nat) (v : Nat → Int32) (n : Nat) (x : Int32) : Prop := (A a 4 = v 1 ∧ A a 5 = v 0 ∧ A a 6 = v 2 ∧ A a 7 = v 3 ∧ A a 8 = v 6 ∧ A a 9 = v 4 ∧ A a 10 = v 5) ∧ ∀ p, p < n → A (a + 1) p = v (17 + p) ∧ A (a + 4) p = v (7 + p) ∧ (if zn p = x then v (27 + p) = A (a + 2) p + 1 ∧ v (37 + p) = -1 else v (27 + p) = A (a + 2) p ∧ v (37 + p) = A (a + 3) p)
def preOk (v : Nat → Int32) (n Y : Nat) : Prop := (∃ k, k ≤ 24 ∧ v 1 = zn k) ∧ (∃ y, y ≤ Y ∧ v 0 = zn y ∧ ∀ p, p < n → ∃ h, h ≤ y + 1 ∧ v (27 + p) = zn h) ∧ (∃ b, b ≤ 150 ∧ v 5 = zn b) ∧ (∃ d, d < 4096 ∧ v 6 = zn d) ∧ ∀ p, p < n → (∃ a, a ≤ 99 ∧ v (17 + p) = zn a) ∧ ∃ s, s < 1024 ∧ v (7 + p) = zn s ∧ s.testBit p = false
theorem zmin_range {x : Int32} {k m : Nat} (hx : x = zn k) (hk : k < 1000000) (hm : m < 1000000) : ∃ e, e ≤ m ∧ zmin (zn m) x = zn e := by
  subst hx
  unfold zmin
  split
  · rename_i h
    rw [zn_lt (by omega) (by omega)] at h
    exact ⟨k, by omega, rfl⟩
  · exact ⟨m, Nat.le_refl _, rfl⟩
/-- what a line of THE BOOK and the WORKS' leave -/
theorem give_eq {A B : ZI} {w : Nat → Int32} {a n k c b Y p : Nat} {r : Int32} (hr : (a = 2 ∧ r = 1 ∧ B 148 30 = 1 ∧ bookIs A 7 w) ∨ (a = 114 ∧ r = 0 ∧ B 148 30 = 0)) (hw : B 149 = w) (hp : p < n) (hf : fixIs A 1 w n k c b) (hok : fixOk w n k c b) (hm : momIs A a w n) (hmo : momOk w n Y) :
    ∃ A' B', f38_giveTo 1 a (zn p) r A = some A' ∧ f218_gets (zn p) B = some B' ∧ fixIs A' 1 (B' 149) n k c b ∧ preIs A' a (B' 149) n (zn p) ∧ preOk (B' 149) n Y ∧ (∀ o, o ≠ 16 → o ≠ 41 → o ≠ a → (r = 1 → ¬ (8 ≤ o ∧ o ≤ 11)) → A' o = A o) ∧ (∀ o, o ≠ 149 → o ≠ 159 → o ≠ 160 → B' o = B o) ∧ rowF w (B' 149) ∧ (r = 0 → ∀ j, 48 ≤ j → B' 149 j = w j) ∧ (r = 1 → bookIs A' 7 (B' 149)) := by
  have ha : a = 2 ∨ a = 114 := hr.elim (fun h => Or.inl h.1) (fun h => Or.inr h.1)
  have hn10 := hok.1.1
  have hwk := hok.2.2.1
  obtain ⟨e, he, h1⟩ := hmo.1
  obtain ⟨d, hd, h6⟩ := hmo.2.2.2.1
  obtain ⟨x, hx, -⟩ := plan_ref (M := B) (p := p) hw hwk hn10 (show 24 - e ≤ 24 by omega) hd h6
  obtain ⟨x1, x2, x3⟩ := pBest_4096 hwk.1 hx
  have hu : wSum w 1 x k ≤ 24 := by omega
  obtain ⟨A1, eA, gA1, gA2, gA3⟩ := give_cls (r := r) ha hp hf hok hm hmo h1 he h6 hd hx
  obtain ⟨B1, eB, gB1, gB2⟩ := give_ref hw hp hok hmo h1 he h6 hd hx
  have hmoG := momOk_G (k := k) hmo hd x2
  have hokG : fixOk (rowG w k d x) n k c b := fixOk_row rowG_F hok
  obtain ⟨wv, hwv, ewv⟩ := sAsk_range (w := rowG w k d x) (W' := 21) (p := p) (u := wSum w 1 x k) hu (Or.inr rfl)
  generalize hw1 : rowG w k d x = w1 at *
  generalize sAsk w1 21 p (wSum w 1 x k) = vw at *
  generalize sAsk w1 22 p (wSum w 1 x k) = vn at *
  subst ewv
  have hF1 : rowF w w1 := by rw [← hw1]; exact rowG_F
  have hlo : ∀ j, j ≠ 3 → j ≠ 6 → w1 j = w j := fun j a b => by rw [← hw1]; exact rowG_lo a b
  have z27 : (27 : Int32) + zn p = zn (27 + p) := zn_add 27 p
  have z37 : (37 : Int32) + zn p = zn (37 + p) := zn_add 37 p
  have hz27 : zin (zn (27 + p)) 2064 = true := (zn_zin (by omega)).mpr (by omega)
  have hz37 : zin (zn (37 + p)) 2064 = true := (zn_zin (by omega)).mpr (by omega)
  have y27 : zi (zn (27 + p)) = 27 + p := zn_zi (by omega)
  have y37 : zi (zn (37 + p)) = 37 + p := zn_zi (by omega)
  obtain ⟨e1, he1, ee1⟩ := hmoG.1
  obtain ⟨ew, hew, eew⟩ := zmin_range (x := w1 1 + zn wv) (k := e1 + wv) (m := 24) (by rw [ee1, zn_add]) (by omega) (by decide)
  obtain ⟨⟨m1, m2, m3, m4, m5, m6, m7⟩, m8⟩ := gA2
  obtain ⟨-, ⟨y, hy, hy0, hyh⟩, hb5, hd6, hag⟩ := hmoG
  rw [eA, eB]
  unfold f23_wearBy
  rw [z27, z37]
  simp only [zlet, Option.bind_some, hz27, hz37, y27, y37, ↓reduceIte, les_eq]
  rcases hr with ⟨rfl, rfl, ht, hbk⟩ | ⟨rfl, rfl, ht⟩
  · -- in truth
    rw [if_neg (by decide)]
    unfold f44_draw
    simp only [zlet]
    rw [if_pos (by decide), if_neg (by decide)]
    simp only [Option.bind_some]
    have eD : (zs A1 2 4 (zmin 24 (A1 2 4 + zn wv))) 2 9 = w1 4 := by rw [zs_ap, if_pos rfl, upd_ap, if_neg (by decide)]; exact m6
    rw [eD]
    generalize hA3 : zs (zs A1 2 4 (zmin 24 (A1 2 4 + zn wv))) 2 9 (1664525 * w1 4 + 1013904223) = A3
    have hA39 : A3 2 9 = 1664525 * w1 4 + 1013904223 := by rw [← hA3, zs_ap, if_pos rfl, upd_ap, if_pos rfl]
    rw [hA39]
    generalize hDr : (1664525 * w1 4 + 1013904223 : Int32) = dr at *
    have hA3o : ∀ o, o ≠ 2 → A3 o = A1 o := fun o ho => by rw [← hA3, zs_ap, if_neg ho, zs_ap, if_neg ho]
    have hA3j : ∀ j, j ≠ 4 → j ≠ 9 → A3 2 j = A1 2 j := fun j h1 h2 => by rw [← hA3, zs_ap, if_pos rfl, upd_ap, if_neg h2, zs_ap, if_pos rfl, upd_ap, if_neg h1]
    have hA34 : A3 2 4 = zmin 24 (w1 1 + zn wv) := by rw [← hA3, zs_ap, if_pos rfl, upd_ap, if_neg (by decide), zs_ap, if_pos rfl, upd_ap, if_pos rfl, m1]
    obtain ⟨v14, hv14, hv01⟩ : ∃ v14 : Int32, ((if zrem (zushr dr 8) 1000 < vn then some (1 : Int32) else some 0) : Option Int32) = some v14 ∧ ((zrem (zushr dr 8) 1000 < vn ∧ v14 = 1) ∨ (¬ zrem (zushr dr 8) 1000 < vn ∧ v14 = 0)) := by
      by_cases hc : zrem (zushr dr 8) 1000 < vn
      · exact ⟨1, by rw [if_pos hc], Or.inl ⟨hc, rfl⟩⟩
      · exact ⟨0, by rw [if_neg hc], Or.inr ⟨hc, rfl⟩⟩
    rw [hv14]
    have hv15 : ((if v14 = 0 then some (0 : Int32) else some 1) : Option Int32) = some v14 := by
      rcases hv01 with ⟨-, rfl⟩ | ⟨-, rfl⟩ <;> rfl
    simp only [Option.bind_some]
    rw [hv15]
    simp only [Option.bind_some]
    generalize hA4 : zs A3 2 6 (A3 2 6 + v14) = A4
    have hA4o : ∀ o, o ≠ 2 → A4 o = A1 o := fun o ho => by rw [← hA4, zs_ap, if_neg ho]; exact hA3o o ho
    have hA4j : ∀ j, j ≠ 4 → j ≠ 9 → j ≠ 6 → A4 2 j = A1 2 j := fun j h1 h2 h3 => by rw [← hA4, zs_ap, if_pos rfl, upd_ap, if_neg h3]; exact hA3j j h1 h2
    have hA44 : A4 2 4 = zmin 24 (w1 1 + zn wv) := by rw [← hA4, zs_ap, if_pos rfl, upd_ap, if_neg (by decide)]; exact hA34
    have hA49 : A4 2 9 = dr := by rw [← hA4, zs_ap, if_pos rfl, upd_ap, if_neg (by decide)]; exact hA39
    have hA46' : A4 2 6 = w1 2 + v14 := by rw [← hA4, zs_ap, if_pos rfl, upd_ap, if_pos rfl, hA3j 6 (by decide) (by decide), m3]
    have hbk4 : bkIs A4 w1 := by
      refine ⟨fun i hi => ?_, by rw [hA4j 10 (by decide) (by decide) (by decide)]; exact m7, by rw [hA4j 5 (by decide) (by decide) (by decide)]; exact m2, hb5⟩
      have g : ∀ o, 8 ≤ o → o ≤ 11 → A4 o = A o := fun o h1 h2 => (hA4o o (by omega)).trans (gA3 o (by omega) (by omega) (by omega))
      rw [g _ (by omega) (by omega), g _ (by omega) (by omega), g _ (by omega) (by omega), g _ (by omega) (by omega), hlo _ (by omega) (by omega), hlo _ (by omega) (by omega), hlo _ (by omega) (by omega), hlo _ (by omega) (by omega)]
      exact hbk i hi
    have hwi4 : wrkIs A4 21 w1 k := by
      have := gA1.2.2.1
      unfold wrkIs at this ⊢
      simp only [Nat.reduceAdd] at this ⊢
      rw [hA4o 21 (by decide), hA4o 22 (by decide), hA4o 23 (by decide), hA4o 24 (by decide), hA4o 25 (by decide), hA4o 26 (by decide), hA4o 27 (by decide)]
      exact this
    have hwk1 := hokG.2.2.1
    unfold f45_enter
    rw [show (1 : Nat) + 20 = 21 from rfl, show (1 : Nat) + 22 = 23 from rfl, show (1 : Nat) + 6 = 7 from rfl, show f42_sum 21 (zn x) 23 A4 = some (zn (wSum w1 1 x k)) from sum_cls hwi4 hwk1 hn10 (f := 1) (by decide) x2, wSum_row hF1 hwk.1 (by decide)]
    simp only [Option.bind_some]
    have ht1 : B1 148 30 = 1 := by rw [gB2 148 (by decide) (by decide) (by decide)]; exact ht
    obtain ⟨A5, B5, c1, c2, c3, c4, c5, c6⟩ := note_eq (x := 0) (y := zn p) (z := zn (wSum w 1 x k)) gB1 ht1 hbk4
    rw [c1, c2]
    simp only [Option.bind_some]
    have hF5 : rowF w (B5 149) := fun j h1 h2 => (c4 j (by omega) h2).trans (hF1 j h1 h2)
    have hwi5 : wrkIs A5 21 (B5 149) k := by
      have e1 : ∀ o, 21 ≤ o → o ≤ 27 → A5 o = A4 o := fun o h1 h2 => c6.1 o (by omega) (by omega) (by omega) (by omega) (by omega)
      have e2 : rowF w1 (B5 149) := fun j h1 h2 => c4 j (by omega) h2
      obtain ⟨q1, q2⟩ := hwi4
      refine ⟨by rw [e1 _ (by omega) (by omega), e2 _ (by omega) (by omega)]; exact q1, fun i hi => ?_⟩
      have := hwk.1
      rw [e1 _ (by omega) (by omega), e1 _ (by omega) (by omega), e1 _ (by omega) (by omega), e1 _ (by omega) (by omega), e1 _ (by omega) (by omega), e1 _ (by omega) (by omega), e2 _ (by omega) (by omega), e2 _ (by omega) (by omega), e2 _ (by omega) (by omega), e2 _ (by omega) (by omega), e2 _ (by omega) (by omega), e2 _ (by omega) (by omega)]
      exact q2 i hi
    obtain ⟨A6, B6, d1, d2, d3, d4, d5, d6⟩ := works_note (s := x) rfl (by rw [c5 148 (by decide)]; exact ht1) c3 hwi5 (fixOk_row hF5 hok).2.2.1 x2
    rw [d1, d2]
    simp only [Option.bind_some]
    have hB46 : rowB w1 (B6 149) := rowB_trans c4 d4
    have hA46 : bkFr A4 A6 := bkFr_trans c6 d6
    have hB6o : ∀ o, o ≠ 149 → B6 o = B1 o := fun o ho => (d5 o ho).trans (c5 o ho)
    have e48 : (zs (zs (zs B6 149 (27 + p) (B6 149 (27 + p) + 1)) 149 (37 + p) (-1)) 149 1 (zmin 24 (w1 1 + zn wv))) 148 30 = 1 := by
      rw [zs_ap, if_neg (by decide), zs_ap, if_neg (by decide), zs_ap, if_neg (by decide), hB6o 148 (by decide)]; exact ht1
    have e491 : (zs (zs B6 149 (27 + p) (B6 149 (27 + p) + 1)) 149 (37 + p) (-1)) 149 1 = w1 1 := by
      rw [zs_ap, if_pos rfl, upd_ap, if_neg (by omega), zs_ap, if_pos rfl, upd_ap, if_neg (by omega)]
      exact hB46 1 (by decide) (by omega)
    rw [e491, if_neg (show ¬ (zs (zs (zs B6 149 (27 + p) (B6 149 (27 + p) + 1)) 149 (37 + p) (-1)) 149 1 (zmin 24 (w1 1 + zn wv))) 148 30 = 0 by rw [e48]; decide)]
    unfold f227_draw
    simp only [zlet]
    rw [if_neg (show ¬ (1000 : Int32) = 0 by decide)]
    simp only [Option.bind_some]
    generalize hB7 : zs (zs (zs B6 149 (27 + p) (B6 149 (27 + p) + 1)) 149 (37 + p) (-1)) 149 1 (zmin 24 (w1 1 + zn wv)) = B7
    have e74 : B7 149 4 = w1 4 := by
      rw [← hB7, zs_ap, if_pos rfl, upd_ap, if_neg (by decide), zs_ap, if_pos rfl, upd_ap, if_neg (by omega), zs_ap, if_pos rfl, upd_ap, if_neg (by omega)]
      exact hB46 4 (by decide) (by omega)
    rw [e74, hDr]
    have e749 : (zs B7 149 4 dr) 149 4 = dr := by rw [zs_ap, if_pos rfl, upd_ap, if_pos rfl]
    rw [e749]
    -- the row ahead of the last line
    have row7 : ∀ j, j ≠ 27 + p → j ≠ 37 + p → j ≠ 1 → j ≠ 4 → (zs B7 149 4 dr) 149 j = B6 149 j := fun j h1 h2 h3 h4 => by
      rw [zs_ap, if_pos rfl, upd_ap, if_neg h4, ← hB7, zs_ap, if_pos rfl, upd_ap, if_neg h3, zs_ap, if_pos rfl, upd_ap, if_neg h2, zs_ap, if_pos rfl, upd_ap, if_neg h1]
    have row27 : (zs B7 149 4 dr) 149 (27 + p) = w1 (27 + p) + 1 := by
      rw [zs_ap, if_pos rfl, upd_ap, if_neg (by omega), ← hB7, zs_ap, if_pos rfl, upd_ap, if_neg (by omega), zs_ap, if_pos rfl, upd_ap, if_neg (by omega), zs_ap, if_pos rfl, upd_ap, if_pos rfl, hB46 _ (by omega) (by omega)]
    have row37 : (zs B7 149 4 dr) 149 (37 + p) = -1 := by
      rw [zs_ap, if_pos rfl, upd_ap, if_neg (by omega), ← hB7, zs_ap, if_pos rfl, upd_ap, if_neg (by omega), zs_ap, if_pos rfl, upd_ap, if_pos rfl]
    have row1 : (zs B7 149 4 dr) 149 1 = zmin 24 (w1 1 + zn wv) := by
      rw [zs_ap, if_pos rfl, upd_ap, if_neg (by decide), ← hB7, zs_ap, if_pos rfl, upd_ap, if_pos rfl]
    have hB8o : ∀ o, o ≠ 149 → (zs B7 149 4 dr) o = B1 o := fun o ho => by
      rw [zs_ap, if_neg ho, ← hB7, zs_ap, if_neg ho, zs_ap, if_neg ho, zs_ap, if_neg ho]
      exact hB6o o ho
    generalize zs B7 149 4 dr = B8 at *
    -- whatever the last line is, this is what is left
    have fin : ∀ (A9 B9 : ZI), bkIs A9 (B9 149) → bkFr A6 A9 → (∀ o, o ≠ 149 → B9 o = B8 o) → (∀ j, j ≠ 2 → j ≠ 5 → ¬ (578 ≤ j ∧ j < 1178) → B9 149 j = B8 149 j) → B9 149 2 = w1 2 + v14 →
        fixIs A9 1 (B9 149) n k c b ∧ preIs A9 2 (B9 149) n (zn p) ∧ preOk (B9 149) n Y ∧ (∀ o, o ≠ 16 → o ≠ 41 → o ≠ 2 → (True → ¬ (8 ≤ o ∧ o ≤ 11)) → A9 o = A o) ∧ (∀ o, o ≠ 149 → o ≠ 159 → o ≠ 160 → B9 o = B o) ∧ rowF w (B9 149) ∧ ((1 : Int32) = 0 → ∀ j, 48 ≤ j → B9 149 j = w j) ∧ (True → bookIs A9 7 (B9 149)) := by
      intro A9 B9 g1 g2 g3 g4 g5
      have row : ∀ j, j ≠ 2 → j ≠ 5 → ¬ (578 ≤ j ∧ j < 1178) → j ≠ 27 + p → j ≠ 37 + p → j ≠ 1 → j ≠ 4 → B9 149 j = w1 j := fun j q1 q2 q3 q4 q5 q6 q7 => (g4 j q1 q2 q3).trans ((row7 j q4 q5 q6 q7).trans (hB46 j q2 q3))
      have hF9 : rowF w1 (B9 149) := fun j q1 q2 => row j (by omega) (by omega) q2 (by omega) (by omega) (by omega) (by omega)
      have hA9 : bkFr A4 A9 := bkFr_trans hA46 g2
      have hA9o : ∀ o, o ≠ 2 → ¬ (8 ≤ o ∧ o ≤ 11) → A9 o = A1 o := fun o q1 q2 => (hA9.1 o q1 (by omega) (by omega) (by omega) (by omega)).trans (hA4o o q1)
      have hA9j : ∀ j, j ≠ 10 → A9 2 j = A4 2 j := hA9.2
      refine ⟨fixIs_row hF9 hokG (fixIs_of gA1 (fun o ho => hA9o o (by omega) (by omega))), ⟨⟨?_, ?_, ?_, ?_, ?_, ?_, ?_⟩, fun q hq => ?_⟩, ⟨?_, ?_, ?_, ?_, fun q hq => ?_⟩, fun o q1 q2 q3 q4 => (hA9o o q3 (q4 trivial)).trans (gA3 o q1 q2 q3), fun o q1 q2 q3 => (g3 o q1).trans ((hB8o o q1).trans (gB2 o q1 q2 q3)), rowF_trans hF1 hF9, fun hc => absurd hc (by decide), fun _ => g1.1⟩
      · rw [hA9j 4 (by decide), hA44, g4 1 (by decide) (by decide) (by omega), row1]
      · rw [hA9j 5 (by decide), hA4j 5 (by decide) (by decide) (by decide), m2, row 0 (by decide) (by decide) (by omega) (by omega) (by omega) (by decide) (by decide)]
      · rw [hA9j 6 (by decide), hA46', g5]
      · rw [hA9j 7 (by decide), hA4j 7 (by decide) (by decide) (by decide), m4, row 3 (by decide) (by decide) (by omega) (by omega) (by omega) (by decide) (by decide)]
      · rw [hA9j 8 (by decide), hA4j 8 (by decide) (by decide) (by decide), m5, row 6 (by decide) (by decide) (by omega) (by omega) (by omega) (by decide) (by decide)]
      · rw [hA9j 9 (by decide), hA49, g4 4 (by decide) (by decide) (by omega), e749]
      · exact g1.2.1
      · obtain ⟨r1, r2, r3, r4⟩ := m8 q hq
        simp only [Nat.reduceAdd] at r1 r2 r3 r4 ⊢
        rw [hA9o 3 (by decide) (by omega), hA9o 6 (by decide) (by omega), hA9o 4 (by decide) (by omega), hA9o 5 (by decide) (by omega), row (17 + q) (by omega) (by omega) (by omega) (by omega) (by omega) (by omega) (by omega), row (7 + q) (by omega) (by omega) (by omega) (by omega) (by omega) (by omega) (by omega)]
        refine ⟨r1, r4, ?_⟩
        by_cases hqp : q = p
        · subst hqp
          rw [if_pos rfl, g4 _ (by omega) (by omega) (by omega), g4 _ (by omega) (by omega) (by omega), row27, row37, r2]
          exact ⟨rfl, rfl⟩
        · rw [if_neg (by rw [zn_eq (by omega) (by omega)]; exact hqp), row (27 + q) (by omega) (by omega) (by omega) (by omega) (by omega) (by omega) (by omega), row (37 + q) (by omega) (by omega) (by omega) (by omega) (by omega) (by omega) (by omega), r2, r3]
          exact ⟨rfl, rfl⟩
      · exact ⟨ew, hew, by rw [g4 1 (by decide) (by decide) (by omega), row1]; exact eew⟩
      · refine ⟨y, hy, by rw [row 0 (by decide) (by decide) (by omega) (by omega) (by omega) (by decide) (by decide)]; exact hy0, fun q hq => ?_⟩
        obtain ⟨h, hh, eh⟩ := hyh q hq
        by_cases hqp : q = p
        · subst hqp
          exact ⟨h + 1, by omega, by rw [g4 _ (by omega) (by omega) (by omega), row27, eh, zadd1]⟩
        · exact ⟨h, by omega, by rw [row (27 + q) (by omega) (by omega) (by omega) (by omega) (by omega) (by omega) (by omega)]; exact eh⟩
      · exact g1.2.2.2
      · rw [row 6 (by decide) (by decide) (by omega) (by omega) (by omega) (by decide) (by decide)]
        exact hd6
      · rw [row (17 + q) (by omega) (by omega) (by omega) (by omega) (by omega) (by omega) (by omega), row (7 + q) (by omega) (by omega) (by omega) (by omega) (by omega) (by omega) (by omega)]
        exact hag q hq
    have hbk6 : bkIs A6 (B8 149) := bkIs_row d3 ⟨fun _ _ _ => rfl, rfl, rfl⟩ ⟨row7 0 (by omega) (by omega) (by decide) (by decide), row7 5 (by omega) (by omega) (by decide) (by decide), fun j q1 q2 => row7 j (by omega) (by omega) (by omega) (by omega)⟩
    have h82 : B8 149 2 = w1 2 := (row7 2 (by omega) (by omega) (by decide) (by decide)).trans (hB46 2 (by decide) (by omega))
    rcases hv01 with ⟨hc, rfl⟩ | ⟨hc, rfl⟩
    · rw [if_neg (by decide), if_pos hc]
      have hbk7 : bkIs A6 ((zs B8 149 2 (B8 149 2 + 1)) 149) := bkIs_row hbk6 ⟨fun _ _ _ => rfl, rfl, rfl⟩ ⟨by rw [zs_ap, if_pos rfl, upd_ap, if_neg (by decide)], by rw [zs_ap, if_pos rfl, upd_ap, if_neg (by decide)], fun j q1 q2 => by rw [zs_ap, if_pos rfl, upd_ap, if_neg (by omega)]⟩
      obtain ⟨A9, B9, f1, f2, f3, f4, f5, f6⟩ := note_eq (x := 4) (y := zn p) (z := 0) (B := zs B8 149 2 (B8 149 2 + 1)) rfl (by rw [zs_ap, if_neg (by decide), hB8o 148 (by decide)]; exact ht1) hbk7
      rw [f1, f2]
      simp only [Option.bind_some]
      refine ⟨A9, B9, rfl, rfl, fin A9 B9 f3 f6 (fun o ho => (f5 o ho).trans (by rw [zs_ap, if_neg ho])) (fun j q1 q2 q3 => (f4 j q2 q3).trans (by rw [zs_ap, if_pos rfl, upd_ap, if_neg q1])) ?_⟩
      rw [f4 2 (by decide) (by omega), zs_ap, if_pos rfl, upd_ap, if_pos rfl, h82]
    · rw [if_pos rfl, if_neg hc]
      refine ⟨A6, B8, rfl, rfl, fin A6 B8 hbk6 (bkFr_refl A6) (fun _ _ => rfl) (fun _ _ _ _ => rfl) ?_⟩
      rw [h82, Int32.add_zero]
  · -- in thought
    rw [if_pos rfl]
    have ht1 : B1 148 30 = 0 := by rw [gB2 148 (by decide) (by decide) (by decide)]; exact ht
    have hn : ∀ m : ZI, m 148 30 = 0 → ∀ a b c, f217_notes a b c m = some m := fun m hm a b c => by
      unfold f217_notes
      rw [if_pos hm]
    rw [hn B1 ht1]
    simp only [Option.bind_some]
    have hwk1 := hokG.2.2.1
    have hloop : f218_l69 (zn x) zfu 0 B1 = some B1 := by
      obtain ⟨m, h1, h2⟩ := zloop (fun fu (m : ZI) c => f218_l69 (zn x) fu c m) k (fun _ m => m = B1) (fun m => m = B1) (fun fu i m hi hm => by
        subst hm
        left
        refine ⟨m, rfl, ?_⟩
        (try dsimp only)
        have hk12 := hwk.1
        rw [f218_l69, gB1, hwk1.2.1, if_pos ((zn_lt (by omega) (by omega)).mpr hi), zbit x2 (by omega), zadd1, show f222_ofWork (zn i) 1 m = some (m 149 (90 + 1 + 6 * i)) from ofWork_eq (f := 1) (by omega) (by decide)]
        simp only [Option.bind_some, hn m ht1]
        split <;> rfl) (fun fu m hm => by
        subst hm
        refine ⟨m, rfl, ?_⟩
        (try dsimp only)
        have hk12 := hwk.1
        rw [f218_l69, gB1, hwk1.2.1, if_neg (by rw [zn_lt (by omega) (by omega)]; omega)]) zfu 0 B1 (by omega) (by have := hwk.1; rw [zfu_eq]; omega) rfl
      have h1 : f218_l69 (zn x) zfu 0 B1 = some m := h1
      rw [h1, h2]
    rw [hloop]
    simp only [Option.bind_some]
    have e491 : (zs (zs B1 149 (27 + p) (B1 149 (27 + p) + 1)) 149 (37 + p) (-1)) 149 1 = w1 1 := by
      rw [zs_ap, if_pos rfl, upd_ap, if_neg (by omega), zs_ap, if_pos rfl, upd_ap, if_neg (by omega), gB1]
    rw [e491]
    generalize hB7 : zs (zs (zs B1 149 (27 + p) (B1 149 (27 + p) + 1)) 149 (37 + p) (-1)) 149 1 (zmin 24 (w1 1 + zn wv)) = B7
    have hB7o : ∀ o, o ≠ 149 → B7 o = B1 o := fun o ho => by rw [← hB7, zs_ap, if_neg ho, zs_ap, if_neg ho, zs_ap, if_neg ho]
    rw [if_pos (by rw [hB7o 148 (by decide)]; exact ht1)]
    have row : ∀ j, j ≠ 27 + p → j ≠ 37 + p → j ≠ 1 → B7 149 j = w1 j := fun j h1 h2 h3 => by
      rw [← hB7, zs_ap, if_pos rfl, upd_ap, if_neg h3, zs_ap, if_pos rfl, upd_ap, if_neg h2, zs_ap, if_pos rfl, upd_ap, if_neg h1, gB1]
    have row27 : B7 149 (27 + p) = w1 (27 + p) + 1 := by
      rw [← hB7, zs_ap, if_pos rfl, upd_ap, if_neg (by omega), zs_ap, if_pos rfl, upd_ap, if_neg (by omega), zs_ap, if_pos rfl, upd_ap, if_pos rfl, gB1]
    have row37 : B7 149 (37 + p) = -1 := by
      rw [← hB7, zs_ap, if_pos rfl, upd_ap, if_neg (by omega), zs_ap, if_pos rfl, upd_ap, if_pos rfl]
    have row1 : B7 149 1 = zmin 24 (w1 1 + zn wv) := by
      rw [← hB7, zs_ap, if_pos rfl, upd_ap, if_pos rfl]
    have hF7 : rowF w1 (B7 149) := fun j q1 q2 => row j (by omega) (by omega) (by omega)
    generalize hA2 : zs A1 114 4 (zmin 24 (A1 114 4 + zn wv)) = A2
    have hA2o : ∀ o, o ≠ 114 → A2 o = A1 o := fun o ho => by rw [← hA2, zs_ap, if_neg ho]
    have hA2j : ∀ j, j ≠ 4 → A2 114 j = A1 114 j := fun j hj => by rw [← hA2, zs_ap, if_pos rfl, upd_ap, if_neg hj]
    refine ⟨A2, B7, rfl, rfl, fixIs_row hF7 hokG (fixIs_of gA1 (fun o ho => hA2o o (by omega))), ⟨⟨?_, ?_, ?_, ?_, ?_, ?_, ?_⟩, fun q hq => ?_⟩, ⟨?_, ?_, ?_, ?_, fun q hq => ?_⟩, fun o q1 q2 q3 _ => (hA2o o q3).trans (gA3 o q1 q2 q3), fun o q1 q2 q3 => (hB7o o q1).trans (gB2 o q1 q2 q3), rowF_trans hF1 hF7, fun _ j hj => (row j (by omega) (by omega) (by omega)).trans (hlo j (by omega) (by omega)), fun hc => absurd hc (by decide)⟩
    · rw [← hA2, zs_ap, if_pos rfl, upd_ap, if_pos rfl, m1, row1]
    · rw [hA2j 5 (by decide), m2, row 0 (by omega) (by omega) (by decide)]
    · rw [hA2j 6 (by decide), m3, row 2 (by omega) (by omega) (by decide)]
    · rw [hA2j 7 (by decide), m4, row 3 (by omega) (by omega) (by decide)]
    · rw [hA2j 8 (by decide), m5, row 6 (by omega) (by omega) (by decide)]
    · rw [hA2j 9 (by decide), m6, row 4 (by omega) (by omega) (by decide)]
    · rw [hA2j 10 (by decide), m7, row 5 (by omega) (by omega) (by decide)]
    · obtain ⟨r1, r2, r3, r4⟩ := m8 q hq
      rw [hA2o _ (by decide), hA2o _ (by decide), hA2o _ (by decide), hA2o _ (by decide), row (17 + q) (by omega) (by omega) (by omega), row (7 + q) (by omega) (by omega) (by omega)]
      refine ⟨r1, r4, ?_⟩
      by_cases hqp : q = p
      · subst hqp
        rw [if_pos rfl, row27, row37, r2]
        exact ⟨rfl, rfl⟩
      · rw [if_neg (by rw [zn_eq (by omega) (by omega)]; exact hqp), row (27 + q) (by omega) (by omega) (by omega), row (37 + q) (by omega) (by omega) (by omega), r2, r3]
        exact ⟨rfl, rfl⟩
    · exact ⟨ew, hew, by rw [row1]; exact eew⟩
    · refine ⟨y, hy, by rw [row 0 (by omega) (by omega) (by decide)]; exact hy0, fun q hq => ?_⟩
      obtain ⟨h, hh, eh⟩ := hyh q hq
      by_cases hqp : q = p
      · subst hqp
        exact ⟨h + 1, by omega, by rw [row27, eh, zadd1]⟩
      · exact ⟨h, by omega, by rw [row (27 + q) (by omega) (by omega) (by omega)]; exact eh⟩
    · rw [row 5 (by omega) (by omega) (by decide)]; exact hb5
    · rw [row 6 (by omega) (by omega) (by decide)]; exact hd6
    · rw [row (17 + q) (by omega) (by omega) (by omega), row (7 + q) (by omega) (by omega) (by omega)]
      exact hag q hq
end
section
-- ===== A YEAR, in step =====
theorem sSum_congr {w vo vo' : Nat → Int32} {n p : Nat} (h : ∀ v, v < n → vo v = vo' v) : ∀ m, m ≤ n → sSum w vo p m = sSum w vo' p m
  | 0, _ => rfl
  | m + 1, hm => by
    unfold sSum
    rw [sSum_congr h m (by omega), h m (by omega)]
theorem sNam_congr {vo vo' : Nat → Int32} {n p : Nat} (h : ∀ v, v < n → vo v = vo' v) : ∀ m, m ≤ n → sNam vo p m = sNam vo' p m
  | 0, _ => rfl
  | m + 1, hm => by
    unfold sNam
    rw [sNam_congr h m (by omega), h m (by omega)]
theorem sGiv_congr {w vo vo' : Nat → Int32} {n : Nat} (h : ∀ v, v < n → vo v = vo' v) : ∀ i, sGiv w vo n i = sGiv w vo' n i
  | 0 => rfl
  | i + 1 => by
    unfold sGiv
    rw [sGiv_congr h i, sSum_congr h n (Nat.le_refl _), sNam_congr h n (Nat.le_refl _)]
    have : ∀ q, sBef w vo n i q = sBef w vo' n i q := by
      intro q
      cases q with
      | none => rfl
      | some q => simp only [sBef, sSum_congr h n (Nat.le_refl _)]
    rw [this]
def gNow (w : Nat → Int32) (n : Nat) : Option Nat := sGiv w (fun v => w (80 + v)) n n
theorem gNow_vo {w : Nat → Int32} {n : Nat} (hn : n ≤ 10) : sGiv w (sVo w (-1) (-1)) n n = gNow w n :=
  sGiv_congr (fun v hv => by
    unfold sVo
    rw [if_neg (zn_ne_neg (by omega))]) n
/-- what both answer of a YEAR on the row w -/
def yAns (w : Nat → Int32) (n : Nat) (x v : Int32) : Prop := (¬ w 1 < w 50 ∧ x = -2 ∧ v = -1) ∨ (w 1 < w 50 ∧ ((x = -1 ∧ v = -1) ∨ ∃ p, p < n ∧ x = zn p ∧ v = zn p))
theorem pre_of {A : ZI} {a : Nat} {w : Nat → Int32} {n : Nat} {x : Int32} (h : momIs A a w n) (hx : x = -1 ∨ x = -2) (hn : n ≤ 10) : preIs A a w n x := by
  refine ⟨h.1, fun p hp => ?_⟩
  obtain ⟨q1, q2, q3, q4⟩ := h.2 p hp
  refine ⟨q1, q4, ?_⟩
  have hne : ¬ zn p = x := by
    rcases hx with rfl | rfl
    · exact zn_ne_neg (by omega)
    · intro hc
      have := congrArg Int32.toInt hc
      rw [zn_toInt (by omega)] at this
      have h2 : Int32.toInt (-2) = -2 := rfl
      omega
  rw [if_neg hne]
  exact ⟨q2.symm, q3.symm⟩
theorem preOk_of {w : Nat → Int32} {n Y : Nat} (h : momOk w n Y) : preOk w n Y := by
  obtain ⟨h1, ⟨y, h2, h3, h4⟩, h5⟩ := h
  exact ⟨h1, ⟨y, h2, h3, fun p hp => by
    obtain ⟨q, q1, q2⟩ := h4 p hp
    exact ⟨q, by omega, q2⟩⟩, h5⟩
/-- growing older: the end of a YEAR on both sides -/
theorem grow_eq {A B : ZI} {a n k c b Y : Nat} {x : Int32} (ha : a = 2 ∨ a = 114) (hf : fixIs A 1 (B 149) n k c b) (hok : fixOk (B 149) n k c b) (hp : preIs A a (B 149) n x) (hpo : preOk (B 149) n Y) :
    ∃ A' B', f47_growOlder a (zn n) x A = some A' ∧ (∃ B1, f204_l93 zfu 0 B = some B1 ∧ B' = zs B1 149 0 (B1 149 0 + 1)) ∧ fixIs A' 1 (B' 149) n k c b ∧ fixOk (B' 149) n k c b ∧ momIs A' a (B' 149) n ∧ momOk (B' 149) n (Y + 1) ∧ (∀ o, o ≠ a → o ≠ a + 1 → o ≠ a + 2 → o ≠ a + 3 → A' o = A o) ∧ (∀ o, o ≠ 149 → B' o = B o) ∧ ∀ j, 48 ≤ j → B' 149 j = B 149 j := by
  have hn10 := hok.1.1
  have h48 := hok.1.2.1
  obtain ⟨A', eA, gA1, gA2, gA3⟩ := grow_cls (A := A) (whom := x) ha hn10
  obtain ⟨B1, eB, gB1, gB2, gB3⟩ := grow_ref (B := B) rfl hn10 h48
  refine ⟨A', _, eA, ⟨B1, eB, rfl⟩, ?_⟩
  have row0 : (zs B1 149 0 (B1 149 0 + 1)) 149 0 = B 149 0 + 1 := by rw [zs_ap, if_pos rfl, upd_ap, if_pos rfl, gB3 0 (by omega) (by omega)]
  have rowG : ∀ p, p < n → (zs B1 149 0 (B1 149 0 + 1)) 149 (37 + p) = B 149 (37 + p) + 1 ∧ (zs B1 149 0 (B1 149 0 + 1)) 149 (17 + p) = zmin 99 (B 149 (17 + p) + 1) := fun p hp => by
    rw [zs_ap, if_pos rfl, upd_ap, if_neg (by omega), upd_ap, if_neg (by omega)]
    exact gB2 p hp
  have row : ∀ j, j ≠ 0 → ¬ (37 ≤ j ∧ j < 37 + n) → ¬ (17 ≤ j ∧ j < 17 + n) → (zs B1 149 0 (B1 149 0 + 1)) 149 j = B 149 j := fun j h1 h2 h3 => by
    rw [zs_ap, if_pos rfl, upd_ap, if_neg h1]
    exact gB3 j h2 h3
  have hBo : ∀ o, o ≠ 149 → (zs B1 149 0 (B1 149 0 + 1)) o = B o := fun o ho => by rw [zs_ap, if_neg ho]; exact gB1 o ho
  generalize zs B1 149 0 (B1 149 0 + 1) = B' at *
  have hF : rowF (B 149) (B' 149) := fun j h1 h2 => row j (by omega) (by omega) (by omega)
  obtain ⟨⟨m1, m2, m3, m4, m5, m6, m7⟩, m8⟩ := hp
  obtain ⟨p1, ⟨y, p2, p3, p4⟩, p5, p6, p7⟩ := hpo
  refine ⟨fixIs_row hF hok (fixIs_of hf (fun o ho => gA1 o (by omega) (by omega) (by omega) (by omega))), fixOk_row hF hok, ⟨?_, fun p hp => ?_⟩, ⟨?_, ⟨y + 1, by omega, by rw [row0, p3, zadd1], fun p hp => ?_⟩, ?_, ?_, fun p hp => ?_⟩, gA1, hBo, fun j hj => row j (by omega) (by omega) (by omega)⟩
  · rw [gA2, gA2, gA2, gA2, gA2, gA2, gA2, if_neg (by decide), if_pos rfl, if_neg (by decide), if_neg (by decide), if_neg (by decide), if_neg (by decide), if_neg (by decide), row 1 (by decide) (by omega) (by omega), row0, row 2 (by decide) (by omega) (by omega), row 3 (by decide) (by omega) (by omega), row 6 (by decide) (by omega) (by omega), row 4 (by decide) (by omega) (by omega), row 5 (by decide) (by omega) (by omega)]
    exact ⟨m1, by rw [m2], m3, m4, m5, m6, m7⟩
  · obtain ⟨g1, g2, g3⟩ := gA3 p hp
    obtain ⟨r1, r2⟩ := rowG p hp
    obtain ⟨q1, q2, q3⟩ := m8 p hp
    rw [g1, g2, g3, r1, r2, gA1 (a + 4) (by omega) (by omega) (by omega) (by omega), row (27 + p) (by omega) (by omega) (by omega), row (7 + p) (by omega) (by omega) (by omega), q1]
    refine ⟨rfl, ?_, ?_, q2⟩
    · split
      · rename_i hc
        rw [if_pos hc] at q3
        exact q3.1.symm
      · rename_i hc
        rw [if_neg hc] at q3
        exact q3.1.symm
    · split
      · rename_i hc
        rw [if_pos hc] at q3
        rw [q3.2]
        rfl
      · rename_i hc
        rw [if_neg hc] at q3
        rw [q3.2]
  · rw [row 1 (by decide) (by omega) (by omega)]; exact p1
  · rw [row (27 + p) (by omega) (by omega) (by omega)]; exact p4 p hp
  · rw [row 5 (by decide) (by omega) (by omega)]; exact p5
  · rw [row 6 (by decide) (by omega) (by omega)]; exact p6
  · obtain ⟨⟨ag, h1, h2⟩, s, h3, h4, h5⟩ := p7 p hp
    refine ⟨?_, s, h3, by rw [row (7 + p) (by omega) (by omega) (by omega)]; exact h4, h5⟩
    rw [(rowG p hp).2, h2]
    obtain ⟨e, he, ee⟩ := zmin_range (x := zn ag + 1) (k := ag + 1) (m := 99) (zadd1 ag) (by omega) (by decide)
    exact ⟨e, he, ee⟩
theorem pass_eq {A B : ZI} {a n k c b Y : Nat} {r : Int32} (hr : (a = 2 ∧ r = 1 ∧ B 148 30 = 1 ∧ bookIs A 7 (B 149)) ∨ (a = 114 ∧ r = 0 ∧ B 148 30 = 0)) (hf : fixIs A 1 (B 149) n k c b) (hok : fixOk (B 149) n k c b) (hm : momIs A a (B 149) n) (hmo : momOk (B 149) n Y) :
    ∃ x v A' B', f25_pass 1 a r A = some (x, A') ∧ f204_aYear B = some (v, B') ∧ fixIs A' 1 (B' 149) n k c b ∧ fixOk (B' 149) n k c b ∧ momIs A' a (B' 149) n ∧ momOk (B' 149) n (Y + 1) ∧ (r = 1 → bookIs A' 7 (B' 149)) ∧ yAns (B 149) n x v ∧ (r = 0 → ∀ j, 48 ≤ j → B' 149 j = B 149 j) ∧ (∀ o, o ≠ 149 → o ≠ 159 → o ≠ 160 → B' o = B o) ∧ ∀ o, o ≠ 16 → o ≠ 33 → o ≠ 40 → o ≠ 41 → o ≠ a → o ≠ a + 1 → o ≠ a + 2 → o ≠ a + 3 → (r = 1 → ¬ (8 ≤ o ∧ o ≤ 11)) → A' o = A o := by
  have ha : a = 2 ∨ a = 114 := hr.elim (fun h => Or.inl h.1) (fun h => Or.inr h.1)
  have hn10 := hok.1.1
  have h48 := hok.1.2.1
  -- the end of a YEAR, once the class stands at A1 and the reference at B1
  have fin : ∀ (A1 B1 : ZI) (x v : Int32), fixIs A1 1 (B1 149) n k c b → fixOk (B1 149) n k c b → preIs A1 a (B1 149) n x → preOk (B1 149) n Y → (r = 1 → bookIs A1 7 (B1 149)) → yAns (B 149) n x v → (r = 0 → ∀ j, 48 ≤ j → B1 149 j = B 149 j) → (∀ o, o ≠ 149 → o ≠ 159 → o ≠ 160 → B1 o = B o) → (∀ o, o ≠ 16 → o ≠ 33 → o ≠ 40 → o ≠ 41 → o ≠ a → o ≠ a + 1 → o ≠ a + 2 → o ≠ a + 3 → (r = 1 → ¬ (8 ≤ o ∧ o ≤ 11)) → A1 o = A o) →
      ∃ A' B', ((f47_growOlder a (A1 1 11) x A1).bind fun M11 => some (x, M11)) = some (x, A') ∧ ((f204_l93 zfu 0 B1).bind fun M18 => zlet (zs M18 149 0 (M18 149 0 + 1)) fun M20 => some (v, M20)) = some (v, B') ∧ fixIs A' 1 (B' 149) n k c b ∧ fixOk (B' 149) n k c b ∧ momIs A' a (B' 149) n ∧ momOk (B' 149) n (Y + 1) ∧ (r = 1 → bookIs A' 7 (B' 149)) ∧ yAns (B 149) n x v ∧ (r = 0 → ∀ j, 48 ≤ j → B' 149 j = B 149 j) ∧ (∀ o, o ≠ 149 → o ≠ 159 → o ≠ 160 → B' o = B o) ∧ ∀ o, o ≠ 16 → o ≠ 33 → o ≠ 40 → o ≠ 41 → o ≠ a → o ≠ a + 1 → o ≠ a + 2 → o ≠ a + 3 → (r = 1 → ¬ (8 ≤ o ∧ o ≤ 11)) → A' o = A o := by
    intro A1 B1 x v g1 g2 g3 g4 g5 g6 g7 g8 g9
    obtain ⟨A', B', e1, ⟨B2, e2, rfl⟩, h1, h2, h3, h4, h5, h6, h7⟩ := grow_eq ha g1 g2 g3 g4
    refine ⟨A', _, ?_, ?_, h1, h2, h3, h4, fun hr1 => ?_, g6, fun h0 j hj => (h7 j hj).trans (g7 h0 j hj), fun o q1 q2 q3 => (h6 o q1).trans (g8 o q1 q2 q3), fun o q1 q2 q3 q4 q5 q6 q7 q8 q9 => (h5 o q5 q6 q7 q8).trans (g9 o q1 q2 q3 q4 q5 q6 q7 q8 q9)⟩
    · rw [g1.1.1.1.trans g2.1.2.1, e1]; rfl
    · rw [e2]; rfl
    · intro i hi
      have := g5 hr1 i hi
      rw [h7 _ (by omega), h7 _ (by omega), h7 _ (by omega), h7 _ (by omega), h5 _ (by omega) (by omega) (by omega) (by omega), h5 _ (by omega) (by omega) (by omega) (by omega), h5 _ (by omega) (by omega) (by omega) (by omega), h5 _ (by omega) (by omega) (by omega) (by omega)]
      exact this
  have m4 : A a 4 = B 149 1 := hm.1.1
  have f13 : A 1 13 = B 149 50 := hf.1.1.2.2.1
  have f12 : A 1 12 = B 149 49 := hf.1.1.2.1
  -- a line of its own: rested or kept
  have line : ∀ (A1 B1 : ZI) (kd x : Int32), (x = -1 ∨ x = -2) → fixIs A1 1 (B1 149) n k c b → fixOk (B1 149) n k c b → momIs A1 a (B1 149) n → momOk (B1 149) n Y → (r = 1 → bookIs A1 7 (B1 149)) → (∀ o, o ≠ 149 → o ≠ 159 → o ≠ 160 → B1 o = B o) →
      ∃ A2 B2, ((if r = 0 then some A1 else (f46_write (1 + 6) a kd (-1) 0 A1).bind fun M8 => some M8) : Option ZI) = some A2 ∧ f217_notes kd (-1) 0 B1 = some B2 ∧ fixIs A2 1 (B2 149) n k c b ∧ fixOk (B2 149) n k c b ∧ preIs A2 a (B2 149) n x ∧ preOk (B2 149) n Y ∧ (r = 1 → bookIs A2 7 (B2 149)) ∧ (r = 0 → B2 = B1) ∧ (∀ o, o ≠ 149 → B2 o = B1 o) ∧ ∀ o, o ≠ a → (r = 1 → ¬ (8 ≤ o ∧ o ≤ 11)) → A2 o = A1 o := by
    intro A1 B1 kd x hx g1 g2 g3 g4 g5 g6
    rcases hr with ⟨rfl, rfl, ht, -⟩ | ⟨rfl, rfl, ht⟩
    · have hbk : bkIs A1 (B1 149) := ⟨g5 rfl, g3.1.2.2.2.2.2.2, g3.1.2.1, g4.2.2.1⟩
      obtain ⟨A2, B2, e1, e2, e3, e4, e5, e6⟩ := note_eq (x := kd) (y := -1) (z := 0) rfl (by rw [g6 148 (by decide) (by decide) (by decide)]; exact ht) hbk
      have hF : rowF (B1 149) (B2 149) := fun j q1 q2 => e4 j (by omega) q2
      have hA2 : ∀ o, o ≠ 2 → ¬ (8 ≤ o ∧ o ≤ 11) → A2 o = A1 o := fun o q1 q2 => e6.1 o q1 (by omega) (by omega) (by omega) (by omega)
      have hm2 : momIs A2 2 (B2 149) n := by
        obtain ⟨⟨m1, m2, m3, m4, m5, m6, m7⟩, m8⟩ := g3
        refine ⟨⟨?_, ?_, ?_, ?_, ?_, ?_, e3.2.1⟩, fun p hp => ?_⟩
        · rw [e6.2 4 (by decide), e4 1 (by decide) (by omega)]; exact m1
        · rw [e6.2 5 (by decide), e4 0 (by decide) (by omega)]; exact m2
        · rw [e6.2 6 (by decide), e4 2 (by decide) (by omega)]; exact m3
        · rw [e6.2 7 (by decide), e4 3 (by decide) (by omega)]; exact m4
        · rw [e6.2 8 (by decide), e4 6 (by decide) (by omega)]; exact m5
        · rw [e6.2 9 (by decide), e4 4 (by decide) (by omega)]; exact m6
        · rw [hA2 _ (by omega) (by omega), hA2 _ (by omega) (by omega), hA2 _ (by omega) (by omega), hA2 _ (by omega) (by omega), e4 _ (by omega) (by omega), e4 _ (by omega) (by omega), e4 _ (by omega) (by omega), e4 _ (by omega) (by omega)]
          exact m8 p hp
      have hmo2 : momOk (B2 149) n Y := by
        obtain ⟨p1, ⟨y, p2, p3, p4⟩, p5, p6, p7⟩ := g4
        refine ⟨by rw [e4 1 (by decide) (by omega)]; exact p1, ⟨y, p2, by rw [e4 0 (by decide) (by omega)]; exact p3, fun p hp => by rw [e4 _ (by omega) (by omega)]; exact p4 p hp⟩, e3.2.2.2, by rw [e4 6 (by decide) (by omega)]; exact p6, fun p hp => by rw [e4 _ (by omega) (by omega), e4 _ (by omega) (by omega)]; exact p7 p hp⟩
      refine ⟨A2, B2, by rw [if_neg (by decide), e1]; rfl, e2, fixIs_row hF g2 (fixIs_of g1 (fun o ho => hA2 o (by omega) (by omega))), fixOk_row hF g2, pre_of hm2 hx hn10, preOk_of hmo2, fun _ => e3.1, fun h => absurd h (by decide), e5, fun o q1 q2 => hA2 o q1 (q2 rfl)⟩
    · refine ⟨A1, B1, by rw [if_pos rfl], by unfold f217_notes; rw [if_pos (by rw [g6 148 (by decide) (by decide) (by decide)]; exact ht)], g1, g2, pre_of g3 hx hn10, preOk_of g4, g5, fun _ => rfl, fun _ _ => rfl, fun _ _ _ => rfl⟩
  unfold f25_pass f204_aYear
  rw [m4, f13, f12]
  by_cases hrest : B 149 1 < B 149 50
  · rw [if_pos hrest, if_pos hrest]
    simp only [Option.bind_some, ↓reduceIte]
    obtain ⟨A1, a1, a2, a3⟩ := weigh_cls ha hf hok hm hmo
    have hf1 : fixIs A1 1 (B 149) n k c b := fixIs_of hf (fun o ho => a3 o (by omega) (by omega) (by omega))
    obtain ⟨A2, b1, b2⟩ := elect_cls (voter := -1) (other := -1) hf1 hok hmo a2
    obtain ⟨B2, c1, c2⟩ := giv_ref (M := B) rfl (ask_of hok) hmo
    rw [a1]
    simp only [Option.bind_some]
    rw [b1, c1, gNow_vo hn10]
    simp only [Option.bind_some]
    have hA2 : ∀ o, o ≠ 16 → o ≠ 41 → o ≠ 40 → o ≠ 33 → A2 o = A o := fun o q1 q2 q3 q4 => (b2 o q4).trans (a3 o q1 q2 q3)
    have e149 : B2 149 = B 149 := c2 149 (by decide) (by decide)
    have hf2 : fixIs A2 1 (B2 149) n k c b := by rw [e149]; exact fixIs_of hf (fun o ho => hA2 o (by omega) (by omega) (by omega) (by omega))
    have hm2 : momIs A2 a (B2 149) n := by rw [e149]; exact momIs_of hm (fun o q1 q2 => hA2 o (by omega) (by omega) (by omega) (by omega))
    have hbk2 : r = 1 → bookIs A2 7 (B2 149) := fun h1 => by
      rcases hr with ⟨-, -, -, hbk⟩ | ⟨-, h0, -⟩
      · rw [e149]
        intro i hi
        rw [hA2 _ (by omega) (by omega) (by omega) (by omega), hA2 _ (by omega) (by omega) (by omega) (by omega), hA2 _ (by omega) (by omega) (by omega) (by omega), hA2 _ (by omega) (by omega) (by omega) (by omega)]
        exact hbk i hi
      · rw [h0] at h1; exact absurd h1 (by decide)
    have hgn : sGiv (B 149) (fun v => B 149 (80 + v)) n n = gNow (B 149) n := rfl
    rw [hgn]
    cases hg : gNow (B 149) n with
    | none =>
      rw [optI_none, if_pos (show (-1 : Int32) < 0 by decide), if_pos rfl, if_neg (show ¬ (-1 : Int32) = -2 by decide)]
      simp only [Option.bind_some]
      obtain ⟨A3, B3, d1, d2, d3, d4, d5, d6, d7, d8, d9, d10⟩ := line A2 B2 2 (-1) (Or.inl rfl) hf2 (by rw [e149]; exact hok) hm2 (by rw [e149]; exact hmo) hbk2 (fun o q1 q2 q3 => c2 o q2 q3)
      rw [d1, d2]
      simp only [Option.bind_some]
      obtain ⟨A4, B4, f1, f2, f3⟩ := fin A3 B3 (-1) (-1) d3 d4 d5 d6 d7 (Or.inr ⟨hrest, Or.inl ⟨rfl, rfl⟩⟩) (fun h0 j hj => by rw [d8 h0, e149]) (fun o q1 q2 q3 => (d9 o q1).trans (c2 o q2 q3)) (fun o q1 q2 q3 q4 q5 q6 q7 q8 q9 => (d10 o q5 q9).trans (hA2 o q1 q4 q3 q2))
      exact ⟨-1, -1, A4, B4, f1, f2, f3⟩
    | some p =>
      have hp : p < n := (sGiv_lt _ _ _ _ _ hg).1
      have eo : optI (some p) = zn p := rfl
      rw [eo, if_neg (zn_nneg (by omega)), if_neg (zn_ne_neg (by omega))]
      obtain ⟨A3, B3, d1, d2, d3, d4, d5, d6, d7, d8, d9, d10⟩ := give_eq (A := A2) (B := B2) (r := r) (hr.imp (fun h => ⟨h.1, h.2.1, by rw [c2 148 (by decide) (by decide)]; exact h.2.2.1, hbk2 h.2.1⟩) (fun h => ⟨h.1, h.2.1, by rw [c2 148 (by decide) (by decide)]; exact h.2.2⟩)) rfl hp hf2 (by rw [e149]; exact hok) hm2 (by rw [e149]; exact hmo)
      rw [d1, d2]
      simp only [Option.bind_some]
      rw [e149] at d8 d9
      obtain ⟨A4, B4, f1, f2, f3⟩ := fin A3 B3 (zn p) (zn p) d3 (fixOk_row d8 hok) d4 d5 d10 (Or.inr ⟨hrest, Or.inr ⟨p, hp, rfl, rfl⟩⟩) d9 (fun o q1 q2 q3 => (d7 o q1 q2 q3).trans (c2 o q2 q3)) (fun o q1 q2 q3 q4 q5 q6 q7 q8 q9 => (d6 o q1 q4 q5 q9).trans (hA2 o q1 q4 q3 q2))
      exact ⟨zn p, zn p, A4, B4, f1, f2, f3⟩
  · rw [if_neg hrest, if_neg hrest]
    simp only [Option.bind_some, zlet]
    have h10 : ¬ (1 : Int32) = 0 := by decide
    have h20 : (-2 : Int32) < 0 := by decide
    simp only [Option.bind_some, gre_eq, if_neg h10, if_pos h20, ↓reduceIte]
    have hF : rowF (B 149) ((zs B 149 1 (zmax 0 (B 149 1 - B 149 49))) 149) := fun j q1 q2 => by rw [zs_ap, if_pos rfl, upd_ap, if_neg (by omega)]
    have hA1 : ∀ o, o ≠ a → (zs A a 4 (zmax 0 (B 149 1 - B 149 49))) o = A o := fun o ho => by rw [zs_ap, if_neg ho]
    have hrow : ∀ j, j ≠ 1 → (zs B 149 1 (zmax 0 (B 149 1 - B 149 49))) 149 j = B 149 j := fun j hj => by rw [zs_ap, if_pos rfl, upd_ap, if_neg hj]
    have hm1 : momIs (zs A a 4 (zmax 0 (B 149 1 - B 149 49))) a ((zs B 149 1 (zmax 0 (B 149 1 - B 149 49))) 149) n := by
      obtain ⟨⟨m1, m2, m3, m4, m5, m6, m7⟩, m8⟩ := hm
      refine ⟨?_, fun p hp => ?_⟩
      · simp only [zs_ap, upd_ap, Nat.reduceEqDiff, ↓reduceIte]
        exact ⟨trivial, m2, m3, m4, m5, m6, m7⟩
      · rw [hA1 _ (by omega), hA1 _ (by omega), hA1 _ (by omega), hA1 _ (by omega), hrow _ (by omega), hrow _ (by omega), hrow _ (by omega), hrow _ (by omega)]
        exact m8 p hp
    have hmo1 : momOk ((zs B 149 1 (zmax 0 (B 149 1 - B 149 49))) 149) n Y := by
      obtain ⟨⟨e, p0, p1⟩, ⟨y, p2, p3, p4⟩, p5, p6, p7⟩ := hmo
      obtain ⟨rr, q0, q1⟩ := hok.1.2.2.1
      refine ⟨?_, ⟨y, p2, by rw [hrow _ (by decide)]; exact p3, fun p hp => by rw [hrow _ (by omega)]; exact p4 p hp⟩, by rw [hrow _ (by decide)]; exact p5, by rw [hrow _ (by decide)]; exact p6, fun p hp => by rw [hrow _ (by omega), hrow _ (by omega)]; exact p7 p hp⟩
      rw [zs_ap, if_pos rfl, upd_ap, if_pos rfl, p1, q1]
      have hall : ∀ e : Fin 25, ∀ q : Fin 25, zmax 0 (zn e.val - zn q.val) = zn (e.val - q.val) := by decide +kernel
      have h2 := hall ⟨e, by omega⟩ ⟨rr, by omega⟩
      exact ⟨e - rr, by omega, h2⟩
    obtain ⟨A3, B3, d1, d2, d3, d4, d5, d6, d7, d8, d9, d10⟩ := line (zs A a 4 (zmax 0 (B 149 1 - B 149 49))) (zs B 149 1 (zmax 0 (B 149 1 - B 149 49))) 1 (-2) (Or.inr rfl) (fixIs_row hF hok (fixIs_of hf (fun o ho => hA1 o (by omega)))) (fixOk_row hF hok) hm1 hmo1 (fun h1 => by
      rcases hr with ⟨rfl, -, -, hbk⟩ | ⟨-, h0, -⟩
      · intro i hi
        rw [hA1 _ (by omega), hA1 _ (by omega), hA1 _ (by omega), hA1 _ (by omega), hrow _ (by omega), hrow _ (by omega), hrow _ (by omega), hrow _ (by omega)]
        exact hbk i hi
      · rw [h0] at h1; exact absurd h1 (by decide)) (fun o q1 _ _ => by rw [zs_ap, if_neg q1])
    rw [d1, d2]
    simp only [Option.bind_some]
    obtain ⟨A4, B4, f1, f2, f3⟩ := fin A3 B3 (-2) (-1) d3 d4 d5 d6 d7 (Or.inl ⟨hrest, rfl, rfl⟩) (fun h0 j hj => by rw [d8 h0]; exact hrow j (by omega)) (fun o q1 q2 q3 => (d9 o q1).trans (by rw [zs_ap, if_neg q1])) (fun o q1 q2 q3 q4 q5 q6 q7 q8 q9 => (d10 o q5 q9).trans (hA1 o q5))
    exact ⟨-2, -1, A4, B4, f1, f2, f3⟩
end
section
-- ===== WHAT HOLDS between the class (in memory A) and the reference (in memory B) from call to call =====
def pastIs (A B : ZI) (n : Nat) : Prop := ∃ o m, o < 6 ∧ m ≤ 6 ∧ A 0 4 = zn o ∧ A 0 5 = zn m ∧ B 148 4 = zn m ∧ ∀ j, j < m → momIs A (84 + 5 * ((o + j) % 6)) (fun x => B 151 (48 * j + x)) n ∧ momOk (fun x => B 151 (48 * j + x)) n 999
def imgIs (A B : ZI) : Prop := A 0 2 = B 148 5 ∧ (A 0 2 = 0 ∨ (A 0 2 = 1 ∧ ∃ n k c b, fixIs A 42 (B 150) n k c b ∧ fixOk (B 150) n k c b ∧ momIs A 43 (B 150) n ∧ momOk (B 150) n 999 ∧ bookIs A 48 (B 150)))
def tapeIs (A B : ZI) : Prop := ∃ t, t ≤ 400 ∧ A 119 1 = zn t ∧ B 148 19 = zn t ∧ (∀ i, i < t → A 120 i = B 158 i ∧ ∃ x, x < 256 ∧ A 120 i = zn x) ∧ A 119 10 = B 148 26 ∧ A 119 11 = B 148 28
def Inv5 (A B : ZI) (n k c b : Nat) : Prop := fixIs A 1 (B 149) n k c b ∧ fixOk (B 149) n k c b ∧ momIs A 2 (B 149) n ∧ momOk (B 149) n 999 ∧ bookIs A 7 (B 149)
def Inv2 (A B : ZI) : Prop := ∃ n k c b, Inv5 A B n k c b ∧ pastIs A B n ∧ imgIs A B ∧ tapeIs A B
theorem bookIs_of {A A' : ZI} {t : Nat} {w : Nat → Int32} (h : bookIs A t w) (g : ∀ o, t + 1 ≤ o → o ≤ t + 4 → A' o = A o) : bookIs A' t w := by
  intro i hi
  rw [g (t + 1) (by omega) (by omega), g (t + 2) (by omega) (by omega), g (t + 3) (by omega) (by omega), g (t + 4) (by omega) (by omega)]
  exact h i hi
theorem bookIs_row {A : ZI} {t : Nat} {w w' : Nat → Int32} (h : bookIs A t w) (g : ∀ j, 578 ≤ j → j < 1178 → w' j = w j) : bookIs A t w' := by
  intro i hi
  rw [g _ (by omega) (by omega), g _ (by omega) (by omega), g _ (by omega) (by omega), g _ (by omega) (by omega)]
  exact h i hi
theorem momIs_row {A : ZI} {a n : Nat} {v v' : Nat → Int32} (h : momIs A a v n) (hn : n ≤ 10) (g : ∀ j, j < 48 → v' j = v j) : momIs A a v' n := by
  obtain ⟨h1, h2⟩ := h
  refine ⟨by rw [g 1 (by decide), g 0 (by decide), g 2 (by decide), g 3 (by decide), g 6 (by decide), g 4 (by decide), g 5 (by decide)]; exact h1, fun p hp => ?_⟩
  rw [g _ (by omega), g _ (by omega), g _ (by omega), g _ (by omega)]
  exact h2 p hp
theorem momOk_row {n Y : Nat} {v v' : Nat → Int32} (h : momOk v n Y) (hn : n ≤ 10) (g : ∀ j, j < 48 → v' j = v j) : momOk v' n Y := by
  obtain ⟨h1, ⟨y, h2, h3, h4⟩, h5, h6, h7⟩ := h
  refine ⟨by rw [g 1 (by decide)]; exact h1, ⟨y, h2, by rw [g 0 (by decide)]; exact h3, fun p hp => by rw [g _ (by omega)]; exact h4 p hp⟩, by rw [g 5 (by decide)]; exact h5, by rw [g 6 (by decide)]; exact h6, fun p hp => ?_⟩
  rw [g _ (by omega), g _ (by omega)]
  exact h7 p hp
theorem momOk_mono {n Y Y' : Nat} {v : Nat → Int32} (h : momOk v n Y) (hY : Y ≤ Y') : momOk v n Y' := by
  obtain ⟨h1, ⟨y, h2, h3⟩, h4⟩ := h
  exact ⟨h1, ⟨y, by omega, h3⟩, h4⟩
theorem momOk_exact {n Y y : Nat} {v : Nat → Int32} (h : momOk v n Y) (h0 : v 0 = zn y) (hy : y < 2000000) (hY : Y < 2000000) : momOk v n y := by
  obtain ⟨h1, ⟨y', h2, h3, h3'⟩, h4⟩ := h
  have : y' = y := by
    rw [h3, zn_eq (by omega) (by omega)] at h0
    exact h0
  subst this
  exact ⟨h1, ⟨y', Nat.le_refl _, h3, h3'⟩, h4⟩
theorem pastIs_of {A A' B B' : ZI} {n : Nat} (h : pastIs A B n) (hA : A' 0 4 = A 0 4 ∧ A' 0 5 = A 0 5 ∧ ∀ o, 84 ≤ o → o < 114 → A' o = A o) (hB : B' 148 4 = B 148 4 ∧ B' 151 = B 151) : pastIs A' B' n := by
  obtain ⟨o, m, h1, h2, h3, h4, h5, h6⟩ := h
  refine ⟨o, m, h1, h2, by rw [hA.1]; exact h3, by rw [hA.2.1]; exact h4, by rw [hB.1]; exact h5, fun j hj => ?_⟩
  rw [hB.2]
  have := Nat.mod_lt (o + j) (show 0 < 6 by decide)
  exact ⟨momIs_of (h6 j hj).1 (fun q g1 g2 => hA.2.2 q (by omega) (by omega)), (h6 j hj).2⟩
theorem imgIs_of {A A' B B' : ZI} (h : imgIs A B) (hA : A' 0 2 = A 0 2 ∧ ∀ o, 42 ≤ o → o < 84 → A' o = A o) (hB : B' 148 5 = B 148 5 ∧ B' 150 = B 150) : imgIs A' B' := by
  obtain ⟨h1, h2⟩ := h
  refine ⟨by rw [hA.1, hB.1]; exact h1, ?_⟩
  rw [hA.1, hB.2]
  rcases h2 with h2 | ⟨h2, n, k, c, b, g1, g2, g3, g4, g5⟩
  · exact Or.inl h2
  · exact Or.inr ⟨h2, n, k, c, b, fixIs_of g1 (fun o ho => hA.2 o (by omega) (by omega)), g2, momIs_of g3 (fun o q1 q2 => hA.2 o (by omega) (by omega)), g4, bookIs_of g5 (fun o q1 q2 => hA.2 o (by omega) (by omega))⟩
theorem tapeIs_of {A A' B B' : ZI} (h : tapeIs A B) (hA : A' 119 1 = A 119 1 ∧ A' 119 10 = A 119 10 ∧ A' 119 11 = A 119 11 ∧ A' 120 = A 120) (hB : B' 148 19 = B 148 19 ∧ B' 148 26 = B 148 26 ∧ B' 148 28 = B 148 28 ∧ B' 158 = B 158) : tapeIs A' B' := by
  obtain ⟨t, h1, h2, h3, h4, h5, h6⟩ := h
  refine ⟨t, h1, by rw [hA.1]; exact h2, by rw [hB.1]; exact h3, fun i hi => by rw [hA.2.2.2, hB.2.2.2]; exact h4 i hi, by rw [hA.2.1, hB.2.1]; exact h5, by rw [hA.2.2.1, hB.2.2.1]; exact h6⟩
theorem wrkIs_of {A A' : ZI} {t k : Nat} {w : Nat → Int32} (h : wrkIs A t w k) (g6 : A' t 6 = A t 6) (g : ∀ o, t + 1 ≤ o → o ≤ t + 6 → A' o = A o) : wrkIs A' t w k := by
  unfold wrkIs at h ⊢
  rw [g6, g (t + 1) (by omega) (by omega), g (t + 2) (by omega) (by omega), g (t + 3) (by omega) (by omega), g (t + 4) (by omega) (by omega), g (t + 5) (by omega) (by omega), g (t + 6) (by omega) (by omega)]
  exact h
/-- what the class may scratch in, and the reference -/
def scrA (A A' : ZI) : Prop := (∀ o, o ≠ 16 → o ≠ 33 → o ≠ 40 → o ≠ 41 → o ≠ 28 → o ≠ 147 → o ≠ 21 → ¬ (114 ≤ o ∧ o ≤ 118) → A' o = A o) ∧ ∀ j, j ≠ 8 → j ≠ 9 → A' 21 j = A 21 j
def scrB (B B' : ZI) : Prop := (∀ o, o ≠ 148 → o ≠ 152 → o ≠ 159 → o ≠ 160 → o ≠ 161 → B' o = B o) ∧ ∀ j, j ≠ 30 → B' 148 j = B 148 j
theorem scrA_of {A A' : ZI} (h : ∀ o, o ≠ 16 → o ≠ 33 → o ≠ 40 → o ≠ 41 → o ≠ 28 → o ≠ 147 → ¬ (114 ≤ o ∧ o ≤ 118) → A' o = A o) : scrA A A' :=
  ⟨fun o a b c d e f _ g => h o a b c d e f g, fun j _ _ => by rw [h 21 (by decide) (by decide) (by decide) (by decide) (by decide) (by decide) (by omega)]⟩
theorem scrB_of {B B' : ZI} (h : ∀ o, o ≠ 152 → o ≠ 159 → o ≠ 160 → o ≠ 161 → B' o = B o) : scrB B B' :=
  ⟨fun o _ b c d e => h o b c d e, fun j _ => by rw [h 148 (by decide) (by decide) (by decide) (by decide)]⟩
theorem scrA_refl (A : ZI) : scrA A A := ⟨fun _ _ _ _ _ _ _ _ _ => rfl, fun _ _ _ => rfl⟩
theorem scrB_refl (B : ZI) : scrB B B := ⟨fun _ _ _ _ _ _ => rfl, fun _ _ => rfl⟩
theorem scrA_trans {A A' A'' : ZI} (h1 : scrA A A') (h2 : scrA A' A'') : scrA A A'' := ⟨fun o a b c d e f g h => (h2.1 o a b c d e f g h).trans (h1.1 o a b c d e f g h), fun j a b => (h2.2 j a b).trans (h1.2 j a b)⟩
theorem scrB_trans {B B' B'' : ZI} (h1 : scrB B B') (h2 : scrB B' B'') : scrB B B'' := ⟨fun o a b c d e => (h2.1 o a b c d e).trans (h1.1 o a b c d e), fun j a => (h2.2 j a).trans (h1.2 j a)⟩
theorem fix_scr {A A' : ZI} {w : Nat → Int32} {n k c b : Nat} (h : fixIs A 1 w n k c b) (hA : scrA A A') : fixIs A' 1 w n k c b := by
  obtain ⟨h1, h2⟩ := hA
  have hall : ∀ o, o ≠ 16 → o ≠ 33 → o ≠ 40 → o ≠ 41 → o ≠ 28 → o ≠ 147 → o ≠ 21 → ¬ (114 ≤ o ∧ o ≤ 118) → A' o = A o := h1
  obtain ⟨g1, g2, g3, g4, g5⟩ := h
  have f : fixIs (fun o => if o = 21 then A 21 else A' o) 1 w n k c b := fixIs_of ⟨g1, g2, g3, g4, g5⟩ (fun o ho => by
    show (if o = 21 then A 21 else A' o) = A o
    by_cases ho21 : o = 21
    · rw [if_pos ho21, ho21]
    · rw [if_neg ho21]
      exact h1 o (by omega) (by omega) (by omega) (by omega) (by omega) (by omega) ho21 (by omega))
  obtain ⟨f1, f2, f3, f4, f5⟩ := f
  refine ⟨f1, f2, ?_, f4, f5⟩
  exact wrkIs_of g3 (h2 6 (by decide) (by decide)) (fun o q1 q2 => h1 o (by omega) (by omega) (by omega) (by omega) (by omega) (by omega) (by omega) (by omega))
theorem Inv5_scr {A A' B B' : ZI} {n k c b : Nat} (h : Inv5 A B n k c b) (hA : scrA A A') (hB : B' 149 = B 149) : Inv5 A' B' n k c b := by
  obtain ⟨h1, h2, h3, h4, h5⟩ := h
  unfold Inv5
  rw [hB]
  exact ⟨fix_scr h1 hA, h2, momIs_of h3 (fun o q1 q2 => hA.1 o (by omega) (by omega) (by omega) (by omega) (by omega) (by omega) (by omega) (by omega)), h4, bookIs_of h5 (fun o q1 q2 => hA.1 o (by omega) (by omega) (by omega) (by omega) (by omega) (by omega) (by omega) (by omega))⟩
theorem rest_scr {A A' B B' : ZI} {n : Nat} (h : pastIs A B n ∧ imgIs A B ∧ tapeIs A B) (hA : scrA A A') (hB : scrB B B') : pastIs A' B' n ∧ imgIs A' B' ∧ tapeIs A' B' := by
  have a : ∀ o, o ≠ 16 → o ≠ 33 → o ≠ 40 → o ≠ 41 → o ≠ 28 → o ≠ 147 → o ≠ 21 → ¬ (114 ≤ o ∧ o ≤ 118) → A' o = A o := hA.1
  have a0 : A' 0 = A 0 := a 0 (by decide) (by decide) (by decide) (by decide) (by decide) (by decide) (by decide) (by omega)
  have a119 : A' 119 = A 119 := a 119 (by decide) (by decide) (by decide) (by decide) (by decide) (by decide) (by decide) (by omega)
  have a120 : A' 120 = A 120 := a 120 (by decide) (by decide) (by decide) (by decide) (by decide) (by decide) (by decide) (by omega)
  have b : ∀ o, o ≠ 148 → o ≠ 152 → o ≠ 159 → o ≠ 160 → o ≠ 161 → B' o = B o := hB.1
  refine ⟨pastIs_of h.1 ⟨by rw [a0], by rw [a0], fun o q1 q2 => a o (by omega) (by omega) (by omega) (by omega) (by omega) (by omega) (by omega) (by omega)⟩ ⟨hB.2 4 (by decide), b 151 (by decide) (by decide) (by decide) (by decide) (by decide)⟩, imgIs_of h.2.1 ⟨by rw [a0], fun o q1 q2 => a o (by omega) (by omega) (by omega) (by omega) (by omega) (by omega) (by omega) (by omega)⟩ ⟨hB.2 5 (by decide), b 150 (by decide) (by decide) (by decide) (by decide) (by decide)⟩, tapeIs_of h.2.2 ⟨by rw [a119], by rw [a119], by rw [a119], a120⟩ ⟨hB.2 19 (by decide), hB.2 26 (by decide), hB.2 28 (by decide), b 158 (by decide) (by decide) (by decide) (by decide) (by decide)⟩⟩
theorem Inv2_scr {A A' B B' : ZI} (h : Inv2 A B) (hA : scrA A A') (hB : scrB B B') : Inv2 A' B' := by
  obtain ⟨n, k, c, b, h1, h2⟩ := h
  exact ⟨n, k, c, b, Inv5_scr h1 hA (hB.1 149 (by decide) (by decide) (by decide) (by decide) (by decide)), rest_scr h2 hA hB⟩
theorem Inv2_of {A A' B B' : ZI} (h : Inv2 A B) (hA : ∀ o, o < 148 → A' o = A o) (hB : ∀ o, 148 ≤ o → B' o = B o) : Inv2 A' B' := by
  obtain ⟨n, k, c, b, ⟨h1, h2, h3, h4, h5⟩, h6, h7, h8⟩ := h
  refine ⟨n, k, c, b, ?_, ?_, ?_, ?_⟩
  · unfold Inv5
    rw [hB 149 (by decide)]
    exact ⟨fixIs_of h1 (fun o ho => hA o (by omega)), h2, momIs_of h3 (fun o q1 q2 => hA o (by omega)), h4, bookIs_of h5 (fun o q1 q2 => hA o (by omega))⟩
  · exact pastIs_of h6 ⟨by rw [hA 0 (by decide)], by rw [hA 0 (by decide)], fun o q1 q2 => hA o (by omega)⟩ ⟨by rw [hB 148 (by decide)], hB 151 (by decide)⟩
  · exact imgIs_of h7 ⟨by rw [hA 0 (by decide)], fun o q1 q2 => hA o (by omega)⟩ ⟨by rw [hB 148 (by decide)], hB 150 (by decide)⟩
  · exact tapeIs_of h8 ⟨by rw [hA 119 (by decide)], by rw [hA 119 (by decide)], by rw [hA 119 (by decide)], hA 120 (by decide)⟩ ⟨by rw [hB 148 (by decide)], by rw [hB 148 (by decide)], by rw [hB 148 (by decide)], hB 158 (by decide)⟩
/-- a call goes in step -/
def sync (fC fR : ZI → Option (Int32 × ZI)) : Prop := ∀ A B, Inv2 A B → ∃ v A' B', fC A = some (v, A') ∧ fR B = some (v, B') ∧ Inv2 A' B' ∧ (∀ o, 148 ≤ o → A' o = A o) ∧ ∀ o, o < 148 → B' o = B o
theorem one_of_sync {fC fR : ZI → Option (Int32 × ZI)} (h : sync fC fR) {M : ZI} (hM : Inv2 M M) : ∃ v M1 M2, fC M = some (v, M1) ∧ fR M1 = some (v, M2) ∧ Inv2 M2 M2 := by
  obtain ⟨v, A1, B1, e1, e2, -, e4, -⟩ := h M M hM
  obtain ⟨v', A2, B2, f1, f2, f3, f4, f5⟩ := h M A1 (Inv2_of hM (fun _ _ => rfl) e4)
  have : (v, A1) = (v', A2) := Option.some.inj (e1.symm.trans f1)
  cases this
  exact ⟨v, A1, B2, e1, f2, Inv2_of f3 f5 (fun _ _ => rfl)⟩
/-- a call that leaves all but scratch as it was -/
theorem sync_q {fC fR : ZI → Option (Int32 × ZI)} (h : ∀ A B n k c b, Inv5 A B n k c b → ∃ v A' B', fC A = some (v, A') ∧ fR B = some (v, B') ∧ scrA A A' ∧ scrB B B' ∧ (∀ o, 148 ≤ o → A' o = A o) ∧ ∀ o, o < 148 → B' o = B o) : sync fC fR := by
  intro A B hI
  obtain ⟨n, k, c, b, h1, h2⟩ := id hI
  obtain ⟨v, A', B', e1, e2, e3, e4, e5, e6⟩ := h A B n k c b h1
  exact ⟨v, A', B', e1, e2, Inv2_scr hI e3 e4, e5, e6⟩
-- what can be undone
theorem copy_mom {A : ZI} {t a n : Nat} {v : Nat → Int32} (h : momIs A a v n) (hn : n ≤ 10) (hd : t + 4 < a ∨ a + 4 < t) : ∃ A', f21_copy t a A = some A' ∧ momIs A' t v n ∧ ∀ o, ¬ (t ≤ o ∧ o ≤ t + 4) → A' o = A o := by
  obtain ⟨⟨m1, m2, m3, m4, m5, m6, m7⟩, m8⟩ := h
  have e : ∀ q, ¬ (t ≤ q ∧ q ≤ t + 4) → ∀ d, d ≤ 4 → q ≠ t + d := fun q hq d hd => by omega
  refine ⟨_, rfl, ⟨?_, fun p hp => ?_⟩, fun o ho => ?_⟩
  · simp only [zs_ap, upd_ap, zc_ap, cpy_ap, Nat.reduceEqDiff, ↓reduceIte, if_neg (show ¬ a = t by omega), if_neg (show ¬ a = t + 1 by omega), if_neg (show ¬ a = t + 2 by omega), if_neg (show ¬ a = t + 3 by omega), if_neg (show ¬ a = t + 4 by omega)]
    exact ⟨m1, m2, m3, m4, m5, m6, m7⟩
  · obtain ⟨q1, q2, q3, q4⟩ := m8 p hp
    have hp10 : p < 10 := by omega
    simp only [zs_ap, upd_ap, zc_ap, cpy_ap, Nat.add_left_cancel_iff, Nat.reduceEqDiff, ↓reduceIte, if_pos hp10, if_neg (show ¬ t + 1 = t by omega), if_neg (show ¬ t + 2 = t by omega), if_neg (show ¬ t + 3 = t by omega), if_neg (show ¬ t + 4 = t by omega), if_neg (show ¬ a + 1 = t by omega), if_neg (show ¬ a + 1 = t + 1 by omega), if_neg (show ¬ a + 2 = t by omega), if_neg (show ¬ a + 2 = t + 1 by omega), if_neg (show ¬ a + 2 = t + 2 by omega), if_neg (show ¬ a + 3 = t by omega), if_neg (show ¬ a + 3 = t + 1 by omega), if_neg (show ¬ a + 3 = t + 2 by omega), if_neg (show ¬ a + 3 = t + 3 by omega), if_neg (show ¬ a + 4 = t by omega), if_neg (show ¬ a + 4 = t + 1 by omega), if_neg (show ¬ a + 4 = t + 2 by omega), if_neg (show ¬ a + 4 = t + 3 by omega), if_neg (show ¬ a + 4 = t + 4 by omega)]
    exact ⟨q1, q2, q3, q4⟩
  · simp only [zs_ap, zc_ap, if_neg (show ¬ o = t by omega), if_neg (show ¬ o = t + 1 by omega), if_neg (show ¬ o = t + 2 by omega), if_neg (show ¬ o = t + 3 by omega), if_neg (show ¬ o = t + 4 by omega)]
theorem zrem6 {x : Nat} (h : x < 13) : zrem (zn x) 6 = zn (x % 6) := by
  have : ∀ x : Fin 13, zrem (zn x.val) 6 = zn (x.val % 6) := by decide +kernel
  exact this ⟨x, h⟩
/-- the reference's row goes into the m-th place -/
theorem save_ref {B : ZI} {m : Nat} (hm : m < 6) (h4 : B 148 4 = zn m) : ∃ B', f200_l51 zfu 0 B = some B' ∧ (∀ o, o ≠ 151 → B' o = B o) ∧ (∀ x, x < 48 → B' 151 (48 * m + x) = B 149 x) ∧ ∀ j, ¬ (48 * m ≤ j ∧ j < 48 * m + 48) → B' 151 j = B 151 j := by
  obtain ⟨b, h1, h2⟩ := zloop (fun fu (b : ZI) c => f200_l51 fu c b) 48 (fun i b => (∀ o, o ≠ 151 → b o = B o) ∧ (∀ x, x < i → b 151 (48 * m + x) = B 149 x) ∧ ∀ j, ¬ (48 * m ≤ j ∧ j < 48 * m + i) → b 151 j = B 151 j) (fun b => (∀ o, o ≠ 151 → b o = B o) ∧ (∀ x, x < 48 → b 151 (48 * m + x) = B 149 x) ∧ ∀ j, ¬ (48 * m ≤ j ∧ j < 48 * m + 48) → b 151 j = B 151 j) (fun fu i b hi hb => by
    obtain ⟨g1, g2, g3⟩ := hb
    left
    (try dsimp only)
    rw [f200_l51, if_pos (show zn i < 48 by rw [zl48, zn_lt (by omega) (by decide)]; exact hi), g1 148 (by decide), h4, zl48, zn_mul, zn_add, if_pos ((zn_zin (by omega)).mpr (by omega)), if_pos ((zn_zin (by omega)).mpr (by omega)), zn_zi (by omega), zn_zi (by omega), zadd1, g1 149 (by decide)]
    simp only [zlet]
    refine ⟨_, ⟨fun o ho => ?_, fun x hx => ?_, fun j hj => ?_⟩, rfl⟩
    · rw [zs_ap, if_neg ho]; exact g1 o ho
    · rw [zs_ap, if_pos rfl, upd_ap]
      by_cases hxi : x = i
      · rw [if_pos (by omega), hxi]
      · rw [if_neg (by omega)]; exact g2 x (by omega)
    · rw [zs_ap, if_pos rfl, upd_ap, if_neg (by omega)]
      exact g3 j (by omega)) (fun fu b hb => by
    refine ⟨b, hb, ?_⟩
    (try dsimp only)
    rw [f200_l51, if_neg (by decide)]) zfu 0 B (by omega) (by rw [zfu_eq]; omega) ⟨fun _ _ => rfl, fun x hx => by omega, fun _ _ => rfl⟩
  exact ⟨b, h1, h2⟩
theorem shift_ref {B : ZI} : ∃ B', f200_l11 zfu 0 B = some B' ∧ (∀ o, o ≠ 151 → B' o = B o) ∧ ∀ j, j < 240 → B' 151 j = B 151 (j + 48) := by
  obtain ⟨b, h1, h2, h3, -⟩ := zloop (fun fu (b : ZI) c => f200_l11 fu c b) 240 (fun i b => (∀ o, o ≠ 151 → b o = B o) ∧ (∀ j, j < i → b 151 j = B 151 (j + 48)) ∧ ∀ j, i ≤ j → b 151 j = B 151 j) (fun b => (∀ o, o ≠ 151 → b o = B o) ∧ (∀ j, j < 240 → b 151 j = B 151 (j + 48)) ∧ True) (fun fu i b hi hb => by
    obtain ⟨g1, g2, g3⟩ := hb
    left
    (try dsimp only)
    rw [f200_l11, if_pos (show zn i < 240 by rw [zl240, zn_lt (by omega) (by decide)]; exact hi), zl48, zn_add, if_pos ((zn_zin (by omega)).mpr (by omega)), if_pos ((zn_zin (by omega)).mpr (by omega)), zn_zi (by omega), zn_zi (by omega), zadd1]
    simp only [zlet]
    refine ⟨_, ⟨fun o ho => ?_, fun j hj => ?_, fun j hj => ?_⟩, rfl⟩
    · rw [zs_ap, if_neg ho]; exact g1 o ho
    · rw [zs_ap, if_pos rfl, upd_ap]
      by_cases hxi : j = i
      · rw [if_pos hxi, hxi]; exact g3 _ (by omega)
      · rw [if_neg hxi]; exact g2 j (by omega)
    · rw [zs_ap, if_pos rfl, upd_ap, if_neg (by omega)]
      exact g3 j (by omega)) (fun fu b hb => by
    refine ⟨b, ⟨hb.1, hb.2.1, trivial⟩, ?_⟩
    (try dsimp only)
    rw [f200_l11, if_neg (by decide)]) zfu 0 B (by omega) (by rw [zfu_eq]; omega) ⟨fun _ _ => rfl, fun x hx => by omega, fun _ _ => rfl⟩
  exact ⟨b, h1, h2, h3⟩
def keepA (A A' : ZI) : Prop := (∀ o, o ≠ 0 → ¬ (84 ≤ o ∧ o < 114) → A' o = A o) ∧ ∀ j, j ≠ 4 → j ≠ 5 → A' 0 j = A 0 j
def keepB (B B' : ZI) : Prop := (∀ o, o ≠ 148 → o ≠ 151 → B' o = B o) ∧ ∀ j, j ≠ 4 → B' 148 j = B 148 j
theorem keep_eq {A B : ZI} {n : Nat} (h : pastIs A B n) (hn : n ≤ 10) (hm : momIs A 2 (B 149) n) (hmo : momOk (B 149) n 999) : ∃ A' B', f20_keepPast A = some A' ∧ f200_keeps B = some B' ∧ pastIs A' B' n ∧ keepA A A' ∧ keepB B B' := by
  -- once there is room
  have core : ∀ (A1 B1 : ZI) (o m : Nat), o < 6 → m < 6 → A1 0 4 = zn o → A1 0 5 = zn m → B1 148 4 = zn m → (∀ j, j < m → momIs A1 (84 + 5 * ((o + j) % 6)) (fun x => B1 151 (48 * j + x)) n ∧ momOk (fun x => B1 151 (48 * j + x)) n 999) → (∀ q, q ≠ 0 → A1 q = A q) → (∀ j, j ≠ 4 → j ≠ 5 → A1 0 j = A 0 j) → (∀ q, q ≠ 148 → q ≠ 151 → B1 q = B q) → (∀ j, j ≠ 4 → B1 148 j = B 148 j) →
      ∃ A' B', ((if zin (zrem ((A1 0 4) + (A1 0 5)) (6 : Int32)) 6 = true then (f21_copy (zpa (zrem ((A1 0 4) + (A1 0 5)) (6 : Int32))) 2 A1).bind fun M5 => zlet (zs M5 0 5 ((M5 0 5) + (1 : Int32))) fun (M6 : ZI) => some M6 else none) : Option ZI) = some A' ∧ ((f200_l51 zfu (0 : Int32) B1).bind fun M6 => zlet (zs M6 148 4 ((M6 148 4) + (1 : Int32))) fun (M8 : ZI) => some M8) = some B' ∧ pastIs A' B' n ∧ keepA A A' ∧ keepB B B' := by
    intro A1 B1 o m ho hm6 h1 h2 h3 h4 h5 h6 h7 h8
    have hmod := Nat.mod_lt (o + m) (show 0 < 6 by decide)
    have hm1 : momIs A1 2 (B 149) n := momIs_of hm (fun q q1 q2 => h5 q (by omega))
    obtain ⟨A2, e1, e2, e3⟩ := copy_mom (t := 84 + 5 * ((o + m) % 6)) hm1 hn (by omega)
    obtain ⟨B2, f1, f2, f3, f4⟩ := save_ref hm6 h3
    rw [h1, h2, zn_add, zrem6 (by omega), if_pos ((zn_zin (by omega)).mpr hmod), show zpa (zn ((o + m) % 6)) = 84 + 5 * ((o + m) % 6) by rw [zpa, zn_zi (by omega)], e1, f1]
    refine ⟨zs A2 0 5 (A2 0 5 + 1), zs B2 148 4 (B2 148 4 + 1), rfl, rfl, ⟨o, m + 1, ho, by omega, ?_, ?_, ?_, ?_⟩, ⟨?_, ?_⟩, ⟨?_, ?_⟩⟩
    · rw [zs_ap, if_pos rfl, upd_ap, if_neg (by decide), e3 0 (by omega)]; exact h1
    · rw [zs_ap, if_pos rfl, upd_ap, if_pos rfl, e3 0 (by omega), h2, zadd1]
    · rw [zs_ap, if_pos rfl, upd_ap, if_pos rfl, f2 148 (by decide), h3, zadd1]
    · intro j hj
      have hr : (zs B2 148 4 (B2 148 4 + 1)) 151 = B2 151 := by rw [zs_ap, if_neg (by decide)]
      rw [hr]
      have hA' : ∀ q, q ≠ 0 → (zs A2 0 5 (A2 0 5 + 1)) q = A2 q := fun q hq => by rw [zs_ap, if_neg hq]
      by_cases hjm : j = m
      · subst hjm
        have hrow : ∀ x, x < 48 → B2 151 (48 * j + x) = B 149 x := fun x hx => (f3 x hx).trans (by rw [h7 149 (by decide) (by decide)])
        exact ⟨momIs_row (momIs_of e2 (fun q q1 q2 => hA' q (by omega))) hn hrow, momOk_row hmo hn hrow⟩
      · have hrow : ∀ x, x < 48 → B2 151 (48 * j + x) = B1 151 (48 * j + x) := fun x hx => f4 _ (by omega)
        obtain ⟨g1, g2⟩ := h4 j (by omega)
        have hne : (o + j) % 6 ≠ (o + m) % 6 := by omega
        have hmod2 := Nat.mod_lt (o + j) (show 0 < 6 by decide)
        exact ⟨momIs_row (momIs_of g1 (fun q q1 q2 => (hA' q (by omega)).trans (e3 q (by omega)))) hn hrow, momOk_row g2 hn hrow⟩
    · intro q q1 q2
      rw [zs_ap, if_neg q1, e3 q (by omega)]
      exact h5 q q1
    · intro j q1 q2
      rw [zs_ap, if_pos rfl, upd_ap, if_neg q2, e3 0 (by omega)]
      exact h6 j q1 q2
    · intro q q1 q2
      rw [zs_ap, if_neg q1, f2 q q2]
      exact h7 q q1 q2
    · intro j q1
      rw [zs_ap, if_pos rfl, upd_ap, if_neg q1, f2 148 (by decide)]
      exact h8 j q1
  obtain ⟨o, m, ho, hm6, h1, h2, h3, h4⟩ := h
  unfold f20_keepPast f200_keeps
  rw [h2, h3]
  by_cases hf : m = 6
  · subst hf
    rw [if_pos (show zn 6 = 6 from rfl)]
    simp only [zlet]
    obtain ⟨B1, e1, e2, e3⟩ := shift_ref (B := B)
    rw [h1, show zn o + 1 = zn (o + 1) from zn_add o 1, zrem6 (by omega)]
    have := core (zs (zs A 0 4 (zn ((o + 1) % 6))) 0 5 (zn 6 - 1)) (zs B1 148 4 (B1 148 4 - 1)) ((o + 1) % 6) 5 (Nat.mod_lt _ (by decide)) (by decide) (by rw [zs_ap, if_pos rfl, upd_ap, if_neg (by decide), zs_ap, if_pos rfl, upd_ap, if_pos rfl]) (by rw [zs_ap, if_pos rfl, upd_ap, if_pos rfl]; rfl) (by rw [zs_ap, if_pos rfl, upd_ap, if_pos rfl, e2 148 (by decide), h3]; rfl) (fun j hj => by
      obtain ⟨g1, g2⟩ := h4 (j + 1) (by omega)
      have hr : (zs B1 148 4 (B1 148 4 - 1)) 151 = B1 151 := by rw [zs_ap, if_neg (by decide)]
      rw [hr, show ((o + 1) % 6 + j) % 6 = (o + (j + 1)) % 6 by omega]
      have hrow : ∀ x, x < 48 → B1 151 (48 * j + x) = B 151 (48 * (j + 1) + x) := fun x hx => (e3 _ (by omega)).trans (by rw [show 48 * j + x + 48 = 48 * (j + 1) + x by omega])
      have hmod2 := Nat.mod_lt (o + (j + 1)) (show 0 < 6 by decide)
      exact ⟨momIs_row (momIs_of g1 (fun q q1 q2 => by rw [zs_ap, if_neg (by omega), zs_ap, if_neg (by omega)])) hn hrow, momOk_row g2 hn hrow⟩) (fun q hq => by rw [zs_ap, if_neg hq, zs_ap, if_neg hq]) (fun j q1 q2 => by rw [zs_ap, if_pos rfl, upd_ap, if_neg q2, zs_ap, if_pos rfl, upd_ap, if_neg q1]) (fun q q1 q2 => by rw [zs_ap, if_neg q1]; exact e2 q q2) (fun j q1 => by rw [zs_ap, if_pos rfl, upd_ap, if_neg q1, e2 148 (by decide)])
    obtain ⟨A', B', a1, a2, a3⟩ := this
    refine ⟨A', B', ?_, ?_, a3⟩
    · rw [← a1]
      have : (zs A 0 4 (zn ((o + 1) % 6))) 0 5 = zn 6 := by rw [zs_ap, if_pos rfl, upd_ap, if_neg (by decide), h2]
      rw [this]
      rfl
    · rw [if_pos (show zn 6 = 6 from rfl), e1]
      simp only [Option.bind_some]
      exact a2
  · rw [if_neg (show ¬ zn m = 6 by rw [zl6, zn_eq (by omega) (by decide)]; exact hf)]
    simp only [zlet]
    rw [if_neg (show ¬ zn m = 6 by rw [zl6, zn_eq (by omega) (by decide)]; exact hf)]
    simp only [Option.bind_some]
    exact core A B o m ho (by omega) h1 h2 h3 h4 (fun _ _ => rfl) (fun _ _ _ => rfl) (fun _ _ _ => rfl) (fun _ _ => rfl)
end
section
-- ===== the parts of the row, one by one =====
theorem sRun_L {F w w' : Nat → Int32} (h : ∀ j, 1178 ≤ j → w' j = w j) : ∀ (k i : Nat) (st : List Int32), sRun F w' k i st = sRun F w k i st
  | 0, _, _ => rfl
  | k + 1, i, st => by
    unfold sRun
    rw [h (1244 + 2 * i) (by omega), h (1245 + 2 * i) (by omega)]
    congr 1
    funext s
    exact sRun_L h k (i + 1) s
theorem lawOk_L {w w' : Nat → Int32} {c : Nat} (h58 : w' 58 = w 58) (h : ∀ j, 1178 ≤ j → w' j = w j) (hk : lawOk w c) : lawOk w' c := by
  obtain ⟨l1, L, l2, l3, l4⟩ := hk
  refine ⟨l1, L, l2, by rw [h58]; exact l3, fun i hi => ?_⟩
  obtain ⟨f, m, t, q1, q2, q3, q4, q5, q6, q7, q8, q9⟩ := l4 i hi
  refine ⟨f, m, t, q1, q2, q3, by rw [h _ (by omega)]; exact q4, by rw [h _ (by omega)]; exact q5, by rw [h _ (by omega)]; exact q6, by rw [h _ (by omega)]; exact q7, fun F => ?_, ?_⟩
  · rw [sRun_L h]; exact q8 F
  · rcases q9 with q9 | q9
    · exact Or.inl q9
    · exact Or.inr fun F => by rw [sRun_L h]; exact q9 F
theorem lawIs_L {A : ZI} {t c : Nat} {w w' : Nat → Int32} (h58 : w' 58 = w 58) (h : ∀ j, 1178 ≤ j → w' j = w j) (hk : lawIs A t w c) : lawIs A t w' c := by
  obtain ⟨g1, g2, g3, g4⟩ := hk
  refine ⟨by rw [h58]; exact g1, g2, fun j hj => by rw [h _ (by omega), h _ (by omega)]; exact g3 j hj, fun i hi => ?_⟩
  rw [h58] at hi
  rw [h _ (by omega), h _ (by omega), h _ (by omega), h _ (by omega)]
  exact g4 i hi
theorem lawIs_of {A A' : ZI} {t c : Nat} {w : Nat → Int32} (h : lawIs A t w c) (g : ∀ o, (t ≤ o ∧ o ≤ t + 3) ∨ (t + 5 ≤ o ∧ o ≤ t + 8) → A' o = A o) : lawIs A' t w c := by
  unfold lawIs at h ⊢
  rw [g t (by omega), g (t + 1) (by omega), g (t + 2) (by omega), g (t + 3) (by omega), g (t + 5) (by omega), g (t + 6) (by omega), g (t + 7) (by omega), g (t + 8) (by omega)]
  exact h
theorem wrkOk_W {w w' : Nat → Int32} {n n' k : Nat} (h52 : w' 52 = w 52) (h : ∀ j, 90 ≤ j → j < 162 → w' j = w j) (hn : n ≤ n') (hk : wrkOk w n k) : wrkOk w' n' k := by
  obtain ⟨k1, k2, k3⟩ := hk
  refine ⟨k1, by rw [h52]; exact k2, fun i hi => ?_⟩
  obtain ⟨⟨o, ho, q1⟩, q2, q3, q4, q5, q6⟩ := k3 i hi
  refine ⟨⟨o, by omega, by rw [h _ (by omega) (by omega)]; exact q1⟩, by rw [h _ (by omega) (by omega)]; exact q2, by rw [h _ (by omega) (by omega)]; exact q3, by rw [h _ (by omega) (by omega)]; exact q4, by rw [h _ (by omega) (by omega)]; exact q5, ?_⟩
  rw [h _ (by omega) (by omega)]
  rcases q6 with q6 | ⟨j, hj, q6, q7⟩
  · exact Or.inl q6
  · exact Or.inr ⟨j, hj, q6, by rw [h _ (by omega) (by omega), h _ (by omega) (by omega)]; exact q7⟩
theorem wrkIs_W {A : ZI} {t k : Nat} {w w' : Nat → Int32} (h52 : w' 52 = w 52) (h : ∀ j, 90 ≤ j → j < 162 → w' j = w j) (hk12 : k ≤ 12) (hk : wrkIs A t w k) : wrkIs A t w' k := by
  obtain ⟨h1, h2⟩ := hk
  refine ⟨by rw [h52]; exact h1, fun i hi => ?_⟩
  rw [h _ (by omega) (by omega), h _ (by omega) (by omega), h _ (by omega) (by omega), h _ (by omega) (by omega), h _ (by omega) (by omega), h _ (by omega) (by omega)]
  exact h2 i hi
theorem cRun_C {S : Nat} {w w' : Nat → Int32} (h : ∀ j, 162 ≤ j → j < 562 → w' j = w j) : ∀ (k i : Nat) (st : List Int32), i + k ≤ 400 → cRun S w' k i st = cRun S w k i st
  | 0, _, _, _ => rfl
  | k + 1, i, st, hi => by
    unfold cRun
    rw [h (162 + i) (by omega) (by omega)]
    congr 1
    funext s
    exact cRun_C h k (i + 1) s (by omega)
theorem ruleOk_C {w w' : Nat → Int32} (h53 : w' 53 = w 53) (h54 : w' 54 = w 54) (h : ∀ j, 162 ≤ j → j < 562 → w' j = w j) (hk : ruleOk w) : ruleOk w' := by
  obtain ⟨rl, r1, r2, r3, r4, r5⟩ := hk
  exact ⟨rl, r1, by rw [h54]; exact r2, by rw [h53]; exact r3, fun j hj => by rw [h _ (by omega) (by omega)]; exact r4 j hj, fun S hS => by rw [cRun_C h rl 0 [] (by omega)]; exact r5 S hS⟩
theorem ruleIs_C {A : ZI} {t : Nat} {w w' : Nat → Int32} (h53 : w' 53 = w 53) (h54 : w' 54 = w 54) (h : ∀ j, 162 ≤ j → j < 562 → w' j = w j) (hok : ruleOk w) (hk : ruleIs A t w) : ruleIs A t w' := by
  obtain ⟨rl, r1, r2, -⟩ := hok
  obtain ⟨i1, i2, i3⟩ := hk
  have zR : zi (w 54) = rl := by rw [r2, zn_zi (by omega)]
  refine ⟨by rw [h53]; exact i1, by rw [h54]; exact i2, fun j hj => ?_⟩
  rw [h54, zR] at hj
  rw [h _ (by omega) (by omega)]
  exact i3 j (by rw [zR]; exact hj)
theorem ruleIs_of {A A' : ZI} {t : Nat} {w : Nat → Int32} (h : ruleIs A t w) (g : ∀ o, t ≤ o → o ≤ t + 3 → A' o = A o) : ruleIs A' t w := by
  unfold ruleIs at h ⊢
  rw [g t (by omega) (by omega), g (t + 1) (by omega) (by omega), g (t + 2) (by omega) (by omega), g (t + 3) (by omega) (by omega)]
  exact h
theorem bidIs_D {A : ZI} {t b : Nat} {w w' : Nat → Int32} (h55 : w' 55 = w 55) (h : ∀ j, 562 ≤ j → j < 578 → w' j = w j) (hb : b ≤ 8) (hk : bidIs A t w b) : bidIs A t w' b := by
  obtain ⟨h1, h2⟩ := hk
  refine ⟨by rw [h55]; exact h1, fun i hi => ?_⟩
  rw [h _ (by omega) (by omega), h _ (by omega) (by omega)]
  exact h2 i hi
theorem bidIs_of {A A' : ZI} {t b : Nat} {w : Nat → Int32} (h : bidIs A t w b) (g : ∀ o, t ≤ o → o ≤ t + 2 → A' o = A o) : bidIs A' t w b := by
  unfold bidIs at h ⊢
  rw [g t (by omega) (by omega), g (t + 1) (by omega) (by omega), g (t + 2) (by omega) (by omega)]
  exact h
theorem pplIs_of {A A' : ZI} {t n : Nat} {w : Nat → Int32} (h : pplIs A t w n) (g : ∀ o, o = t ∨ (t + 36 ≤ o ∧ o ≤ t + 38) → A' o = A o) : pplIs A' t w n := by
  unfold pplIs at h ⊢
  rw [g t (by omega), g (t + 36) (by omega), g (t + 37) (by omega), g (t + 38) (by omega)]
  exact h
theorem voiceN_P {w w' : Nat → Int32} : ∀ n, (∀ p, p < n → w' (80 + p) = w (80 + p)) → voiceN w' n = voiceN w n
  | 0, _ => rfl
  | n + 1, h => by
    unfold voiceN
    rw [voiceN_P n (fun p hp => h p (by omega)), h n (by omega)]
/-- law, works, rule and bids are as they were: what is left to show is that of the PEOPLE -/
theorem fix_rest {A A' : ZI} {w w' : Nat → Int32} {n n' k c b : Nat} (hf : fixIs A 1 w n k c b) (hok : fixOk w n k c b) (hn : n ≤ n') (g : ∀ o, 2 ≤ o → o ≠ 16 → o ≠ 33 → o ≠ 40 → o ≠ 41 → o ≠ 28 → o < 2 ∨ 7 ≤ o → o < 37 ∨ 39 < o → A' o = A o) (h : ∀ j, 48 ≤ j → ¬ (578 ≤ j ∧ j < 1178) → ¬ (60 ≤ j ∧ j < 90) → j ≠ 48 → j ≠ 49 → j ≠ 50 → j ≠ 51 → j ≠ 56 → j ≠ 57 → w' j = w j) (hp : pplIs A' 1 w' n') (hpo : pplOk w' n') : fixIs A' 1 w' n' k c b ∧ fixOk w' n' k c b := by
  obtain ⟨-, f2, f3, f4, f5⟩ := hf
  obtain ⟨-, o2, o3, o4, o5, o6⟩ := hok
  have hk12 := o3.1
  have e : ∀ j, 90 ≤ j → j < 578 → w' j = w j := fun j q1 q2 => h j (by omega) (by omega) (by omega) (by omega) (by omega) (by omega) (by omega) (by omega) (by omega)
  have e2 : ∀ j, 1178 ≤ j → w' j = w j := fun j q1 => h j (by omega) (by omega) (by omega) (by omega) (by omega) (by omega) (by omega) (by omega) (by omega)
  have e3 : ∀ j, j = 52 ∨ j = 53 ∨ j = 54 ∨ j = 55 ∨ j = 58 → w' j = w j := fun j q1 => h j (by omega) (by omega) (by omega) (by omega) (by omega) (by omega) (by omega) (by omega) (by omega)
  refine ⟨⟨hp, ?_, ?_, ?_, ?_⟩, ⟨hpo, ?_, ?_, ?_, o5, ?_⟩⟩
  · exact lawIs_L (e3 58 (by omega)) e2 (lawIs_of f2 (fun o ho => g o (by omega) (by omega) (by omega) (by omega) (by omega) (by omega) (by omega) (by omega)))
  · exact wrkIs_W (e3 52 (by omega)) (fun j q1 q2 => e j (by omega) (by omega)) hk12 (wrkIs_of f3 (by rw [g 21 (by decide) (by decide) (by decide) (by decide) (by decide) (by decide) (by omega) (by omega)]) (fun o q1 q2 => g o (by omega) (by omega) (by omega) (by omega) (by omega) (by omega) (by omega) (by omega)))
  · exact ruleIs_C (e3 53 (by omega)) (e3 54 (by omega)) (fun j q1 q2 => e j (by omega) (by omega)) o4 (ruleIs_of f4 (fun o q1 q2 => g o (by omega) (by omega) (by omega) (by omega) (by omega) (by omega) (by omega) (by omega)))
  · exact bidIs_D (e3 55 (by omega)) (fun j q1 q2 => e j (by omega) (by omega)) o5 (bidIs_of f5 (fun o q1 q2 => g o (by omega) (by omega) (by omega) (by omega) (by omega) (by omega) (by omega) (by omega)))
  · exact lawOk_L (e3 58 (by omega)) e2 o2
  · exact wrkOk_W (e3 52 (by omega)) (fun j q1 q2 => e j (by omega) (by omega)) hn o3
  · exact ruleOk_C (e3 53 (by omega)) (e3 54 (by omega)) (fun j q1 q2 => e j (by omega) (by omega)) o4
  · rw [e3 55 (by omega)]; exact o6
end
section
-- ===== calls that tell: state, person, set, tie, sit, traces, bid, feed, end =====
theorem zn_nat {n : Nat} (h : n ≤ 1000000) : (0 : Int32) ≤ zn n ∧ zn n ≤ 1000000 := by
  constructor
  · rw [Int32.le_iff_toInt_le, zn_toInt (by omega)]; show (0 : Int) ≤ _; omega
  · rw [Int32.le_iff_toInt_le, zn_toInt (by omega)]; show _ ≤ (1000000 : Int); omega
theorem range_ex {x : Int32} {lo hi : Nat} (h1 : ¬ x < zn lo) (h2 : ¬ zn hi < x) (hlo : lo ≤ 1000000) (hhi : hi ≤ 1000000) : ∃ k, lo ≤ k ∧ k ≤ hi ∧ x = zn k := by
  have a := zn_nat hlo
  have h0 : ¬ x < 0 := by grind
  have hx : zi x < 2147483648 := Int32.toNatClampNeg_lt x
  have e := zi_zn h0
  rw [← e, zn_lt hx (by omega)] at h1
  rw [← e, zn_lt (by omega) hx] at h2
  exact ⟨zi x, by omega, by omega, e.symm⟩
theorem within_ex {x : Int32} {lo hi : Nat} (hlo : lo ≤ 1000000) (hhi : hi ≤ 1000000) : (∃ k, lo ≤ k ∧ k ≤ hi ∧ x = zn k ∧ f13_within x (zn lo) (zn hi) = some 1 ∧ f149_isIn x (zn lo) (zn hi) = some 1) ∨ (f13_within x (zn lo) (zn hi) = some 0 ∧ f149_isIn x (zn lo) (zn hi) = some 0) := by
  rw [within_eq, isIn_eq]
  by_cases h : x < zn lo ∨ zn hi < x
  · rw [if_pos h]
    exact Or.inr ⟨rfl, rfl⟩
  · rw [if_neg h]
    obtain ⟨k, h1, h2, h3⟩ := range_ex (fun hc => h (Or.inl hc)) (fun hc => h (Or.inr hc)) hlo hhi
    exact Or.inl ⟨k, h1, h2, h3, rfl, rfl⟩
theorem has_eq {A B : ZI} {n k c b : Nat} (h : Inv5 A B n k c b) (x : Int32) : (∃ p, p < n ∧ x = zn p ∧ f17_has 1 x A = some 1 ∧ f152_isPerson x B = some 1) ∨ (f17_has 1 x A = some 0 ∧ f152_isPerson x B = some 0) := by
  have hn10 := h.2.1.1.1
  have h48 := h.2.1.1.2.1
  have h11 : A 1 11 = zn n := h.1.1.1.1.trans h48
  unfold f17_has f152_isPerson
  rw [isIn_eq, h48, h11]
  have a := zn_nat (n := n) (by omega)
  by_cases h0 : x < 0
  · rw [if_pos h0, if_pos (Or.inl h0)]
    exact Or.inr ⟨rfl, rfl⟩
  · rw [if_neg h0]
    by_cases h1 : x < zn n
    · rw [if_pos h1, if_neg (by grind)]
      have hx : zi x < 2147483648 := Int32.toNatClampNeg_lt x
      have e := zi_zn h0
      rw [← e, zn_lt hx (by omega)] at h1
      exact Or.inl ⟨zi x, h1, e.symm, rfl, rfl⟩
    · rw [if_neg h1, if_pos (by grind)]
      exact Or.inr ⟨rfl, rfl⟩
/-- both forget what could be undone -/
theorem forget_past {A A' B B' : ZI} {n n' : Nat} (h : pastIs A B n) (h4 : A' 0 4 = A 0 4) (h5 : A' 0 5 = 0) (hB : B' 148 4 = 0) : pastIs A' B' n' := by
  obtain ⟨o, m, h1, -, h3, -⟩ := h
  exact ⟨o, 0, h1, by omega, by rw [h4]; exact h3, h5, hB, fun j hj => by omega⟩
theorem sync_state (a : Int32) : sync (f10_state a) (f146_state a) := by
  rintro A B ⟨n, k, c, b, ⟨h1, h2, h3, h4, h5⟩, h6, h7, h8⟩
  have hn10 := h2.1.1
  have e : A 2 9 = B 149 4 := h3.1.2.2.2.2.2.1
  refine ⟨B 149 4, zs (zs A 2 9 a) 0 5 0, zs (zs B 149 4 a) 148 4 0, by unfold f10_state; rw [e]; rfl, rfl, ?_, fun o ho => by rw [zs_ap, if_neg (by omega), zs_ap, if_neg (by omega)], fun o ho => by rw [zs_ap, if_neg (by omega), zs_ap, if_neg (by omega)]⟩
  have hA : ∀ q, q ≠ 2 → q ≠ 0 → (zs (zs A 2 9 a) 0 5 0) q = A q := fun q q1 q2 => by rw [zs_ap, if_neg q2, zs_ap, if_neg q1]
  have hB : ∀ q, q ≠ 149 → q ≠ 148 → (zs (zs B 149 4 a) 148 4 0) q = B q := fun q q1 q2 => by rw [zs_ap, if_neg q2, zs_ap, if_neg q1]
  have hr : ∀ j, j ≠ 4 → (zs (zs B 149 4 a) 148 4 0) 149 j = B 149 j := fun j hj => by rw [zs_ap, if_neg (by decide), zs_ap, if_pos rfl, upd_ap, if_neg hj]
  have hr8 : ∀ j, j ≠ 4 → (zs (zs B 149 4 a) 148 4 0) 148 j = B 148 j := fun j hj => by rw [zs_ap, if_pos rfl, upd_ap, if_neg hj, zs_ap, if_neg (by decide)]
  have hr0 : ∀ j, j ≠ 5 → (zs (zs A 2 9 a) 0 5 0) 0 j = A 0 j := fun j hj => by rw [zs_ap, if_pos rfl, upd_ap, if_neg hj, zs_ap, if_neg (by decide)]
  have hF : rowF (B 149) ((zs (zs B 149 4 a) 148 4 0) 149) := fun j q1 q2 => hr j (by omega)
  refine ⟨n, k, c, b, ⟨fixIs_row hF h2 (fixIs_of h1 (fun o ho => hA o (by omega) (by omega))), fixOk_row hF h2, ?_, ?_, ?_⟩, forget_past h6 (hr0 4 (by decide)) (by rw [zs_ap, if_pos rfl, upd_ap, if_pos rfl]) (by rw [zs_ap, if_pos rfl, upd_ap, if_pos rfl]), imgIs_of h7 ⟨hr0 2 (by decide), fun o q1 q2 => hA o (by omega) (by omega)⟩ ⟨hr8 5 (by decide), hB 150 (by decide) (by decide)⟩, tapeIs_of h8 ⟨by rw [hA 119 (by decide) (by decide)], by rw [hA 119 (by decide) (by decide)], by rw [hA 119 (by decide) (by decide)], hA 120 (by decide) (by decide)⟩ ⟨hr8 19 (by decide), hr8 26 (by decide), hr8 28 (by decide), hB 158 (by decide) (by decide)⟩⟩
  · obtain ⟨⟨m1, m2, m3, m4, m5, m6, m7⟩, m8⟩ := h3
    refine ⟨?_, fun p hp => ?_⟩
    · simp only [zs_ap, upd_ap, Nat.reduceEqDiff, ↓reduceIte]
      exact ⟨m1, m2, m3, m4, m5, trivial, m7⟩
    · rw [hA _ (by omega) (by omega), hA _ (by omega) (by omega), hA _ (by omega) (by omega), hA _ (by omega) (by omega), hr _ (by omega), hr _ (by omega), hr _ (by omega), hr _ (by omega)]
      exact m8 p hp
  · obtain ⟨p1, ⟨y, p2, p3, p4⟩, p5, p6, p7⟩ := h4
    refine ⟨by rw [hr _ (by omega)]; exact p1, ⟨y, p2, by rw [hr _ (by omega)]; exact p3, fun p hp => by rw [hr _ (by omega)]; exact p4 p hp⟩, by rw [hr _ (by omega)]; exact p5, by rw [hr _ (by omega)]; exact p6, fun p hp => by rw [hr _ (by omega), hr _ (by omega)]; exact p7 p hp⟩
  · exact bookIs_row (bookIs_of h5 (fun o q1 q2 => hA o (by omega) (by omega))) (fun j q1 q2 => hr j (by omega))
theorem sync_same {fC fR : ZI → Option (Int32 × ZI)} {A B : ZI} {v : Int32} (hI : Inv2 A B) (h1 : fC A = some (v, A)) (h2 : fR B = some (v, B)) : ∃ v A' B', fC A = some (v, A') ∧ fR B = some (v, B') ∧ Inv2 A' B' ∧ (∀ o, 148 ≤ o → A' o = A o) ∧ ∀ o, o < 148 → B' o = B o :=
  ⟨v, A, B, h1, h2, hI, fun _ _ => rfl, fun _ _ => rfl⟩
theorem sync_person (x y : Int32) : sync (f12_person x y) (f148_person x y) := by
  rintro A B ⟨n, k, c, b, h0, h6, h7, h8⟩
  have hI : Inv2 A B := ⟨n, k, c, b, h0, h6, h7, h8⟩
  obtain ⟨h1, h2, h3, h4, h5⟩ := h0
  have hn10 := h2.1.1
  have h48 := h2.1.2.1
  have h11 : A 1 11 = zn n := h1.1.1.1.trans h48
  rcases within_ex (x := x) (lo := 0) (hi := 99) (by decide) (by decide) with ⟨ag, -, hag, rfl, e1, e2⟩ | ⟨e1, e2⟩
  case inr =>
    refine sync_same (v := -1) hI ?_ ?_
    · unfold f12_person; rw [show f13_within x 0 99 = some 0 from e1]; rfl
    · unfold f148_person; rw [show f149_isIn x 0 99 = some 0 from e2]; rfl
  rcases within_ex (x := y) (lo := 0) (hi := 24) (by decide) (by decide) with ⟨nd, -, hnd, rfl, e3, e4⟩ | ⟨e3, e4⟩
  case inr =>
    refine sync_same (v := -1) hI ?_ ?_
    · unfold f12_person; rw [show f13_within (zn ag) 0 99 = some 1 from e1, show f13_within y 0 24 = some 0 from e3]; rfl
    · unfold f148_person; rw [show f149_isIn (zn ag) 0 99 = some 1 from e2, show f149_isIn y 0 24 = some 0 from e4]; rfl
  by_cases hn : n = 10
  · refine sync_same (v := -1) hI ?_ ?_
    · unfold f12_person; rw [show f13_within (zn ag) 0 99 = some 1 from e1, show f13_within (zn nd) 0 24 = some 1 from e3, h11, hn]; rfl
    · unfold f148_person; rw [show f149_isIn (zn ag) 0 99 = some 1 from e2, show f149_isIn (zn nd) 0 24 = some 1 from e4, h48, hn]; rfl
  have hz : zin (zn n) 10 = true := (zn_zin (by omega)).mpr (by omega)
  have zz : zi (zn n) = n := zn_zi (by omega)
  have hA' : f12_person (zn ag) (zn nd) A = some (zn n, zs (zs (zs (zs (zs (zs (zs (zs (zs A 0 5 0) 37 n (zn nd)) 38 n 999) 39 n (-1)) 3 n (zn ag)) 4 n 0) 5 n 0) 6 n 0) 1 11 (zn n + 1)) := by
    unfold f12_person
    rw [show f13_within (zn ag) 0 99 = some 1 from e1, show f13_within (zn nd) 0 24 = some 1 from e3, h11]
    simp only [Option.bind_some]
    rw [if_neg (by decide), if_neg (by decide), if_pos (show zn n < 10 by rw [zl10, zn_lt (by omega) (by decide)]; omega)]
    unfold f11_forgetPasts f14_welcome
    simp only [zlet, Option.bind_some, Nat.reduceAdd]
    have e11 : (zs A 0 5 0) 1 11 = zn n := by rw [zs_ap, if_neg (by decide)]; exact h11
    rw [e11, if_pos (show zn n < 10 by rw [zl10, zn_lt (by omega) (by decide)]; omega), zz]
    simp only [hz, ↓reduceIte]
    simp only [zs_ap, Nat.reduceEqDiff, ↓reduceIte, h11, Option.bind_some]
  have hB' : f148_person (zn ag) (zn nd) B = some (zn n, zs (zs (zs (zs (zs (zs (zs (zs (zs B 149 (17 + n) (zn ag)) 149 (60 + n) (zn nd)) 149 (70 + n) 999) 149 (27 + n) 0) 149 (37 + n) 0) 149 (7 + n) 0) 149 (80 + n) (-1)) 149 48 (zn n + 1)) 148 4 0) := by
    unfold f148_person
    rw [show f149_isIn (zn ag) 0 99 = some 1 from e2, show f149_isIn (zn nd) 0 24 = some 1 from e4, h48]
    simp only [Option.bind_some]
    have z : ∀ q : Nat, q ≤ 80 → zi (zn (q + n)) = q + n := fun q hq => zn_zi (by omega)
    have y : ∀ q : Nat, q ≤ 80 → zin (zn (q + n)) 2064 = true := fun q hq => (zn_zin (by omega)).mpr (by omega)
    rw [if_neg (by decide), if_neg (by decide), if_neg (show ¬ zn n = 10 by rw [zl10, zn_eq (by omega) (by decide)]; omega)]
    simp only [zlet]
    rw [show (17 : Int32) + zn n = zn (17 + n) from zn_add 17 n, show (60 : Int32) + zn n = zn (60 + n) from zn_add 60 n, show (70 : Int32) + zn n = zn (70 + n) from zn_add 70 n, show (27 : Int32) + zn n = zn (27 + n) from zn_add 27 n, show (37 : Int32) + zn n = zn (37 + n) from zn_add 37 n, show (7 : Int32) + zn n = zn (7 + n) from zn_add 7 n, show (80 : Int32) + zn n = zn (80 + n) from zn_add 80 n]
    have z17 := z 17 (by decide); have z60 := z 60 (by decide); have z70 := z 70 (by decide); have z27 := z 27 (by decide); have z37 := z 37 (by decide); have z7 := z 7 (by decide); have z80 := z 80 (by decide)
    have y17 := y 17 (by decide); have y60 := y 60 (by decide); have y70 := y 70 (by decide); have y27 := y 27 (by decide); have y37 := y 37 (by decide); have y7 := y 7 (by decide); have y80 := y 80 (by decide)
    simp only [zlet, z17, z60, z70, z27, z37, z7, z80, y17, y60, y70, y27, y37, y7, y80, ↓reduceIte, f147_forgets, Option.bind_some]
    have e48 : (zs (zs (zs (zs (zs (zs (zs B 149 (17 + n) (zn ag)) 149 (60 + n) (zn nd)) 149 (70 + n) 999) 149 (27 + n) 0) 149 (37 + n) 0) 149 (7 + n) 0) 149 (80 + n) (-1)) 149 48 = zn n := by
      simp only [zs_ap, upd_ap, ↓reduceIte]
      rw [if_neg (by omega), if_neg (by omega), if_neg (by omega), if_neg (by omega), if_neg (by omega), if_neg (by omega), if_neg (by omega)]
      exact h48
    rw [e48]
  refine ⟨zn n, _, _, hA', hB', ?_, fun o ho => ?_, fun o ho => ?_⟩
  rotate_left
  · simp only [zs_ap]
    rw [if_neg (by omega), if_neg (by omega), if_neg (by omega), if_neg (by omega), if_neg (by omega), if_neg (by omega), if_neg (by omega), if_neg (by omega), if_neg (by omega)]
  · simp only [zs_ap]
    rw [if_neg (by omega), if_neg (show ¬ o = 149 by omega), if_neg (show ¬ o = 149 by omega), if_neg (show ¬ o = 149 by omega), if_neg (show ¬ o = 149 by omega), if_neg (show ¬ o = 149 by omega), if_neg (show ¬ o = 149 by omega), if_neg (show ¬ o = 149 by omega), if_neg (show ¬ o = 149 by omega)]
  generalize hgA : zs (zs (zs (zs (zs (zs (zs (zs (zs A 0 5 0) 37 n (zn nd)) 38 n 999) 39 n (-1)) 3 n (zn ag)) 4 n 0) 5 n 0) 6 n 0) 1 11 (zn n + 1) = A'
  generalize hgB : zs (zs (zs (zs (zs (zs (zs (zs (zs B 149 (17 + n) (zn ag)) 149 (60 + n) (zn nd)) 149 (70 + n) 999) 149 (27 + n) 0) 149 (37 + n) 0) 149 (7 + n) 0) 149 (80 + n) (-1)) 149 48 (zn n + 1)) 148 4 0 = B'
  clear hA' hB'
  have hAo : ∀ o, o ≠ 0 → o ≠ 1 → o ≠ 3 → o ≠ 4 → o ≠ 5 → o ≠ 6 → o ≠ 37 → o ≠ 38 → o ≠ 39 → A' o = A o := fun o a b c d e f g h i => by
    rw [← hgA]; simp only [zs_ap, if_neg a, if_neg b, if_neg c, if_neg d, if_neg e, if_neg f, if_neg g, if_neg h, if_neg i]
  have hA1 : ∀ j, j ≠ 11 → A' 1 j = A 1 j := fun j hj => by rw [← hgA]; simp only [zs_ap, upd_ap, Nat.reduceEqDiff, ↓reduceIte, if_neg hj]
  have hA0 : ∀ j, j ≠ 5 → A' 0 j = A 0 j := fun j hj => by rw [← hgA]; simp only [zs_ap, upd_ap, Nat.reduceEqDiff, ↓reduceIte, if_neg hj]
  have hAp : ∀ q, q ≠ n → A' 3 q = A 3 q ∧ A' 4 q = A 4 q ∧ A' 5 q = A 5 q ∧ A' 6 q = A 6 q ∧ A' 37 q = A 37 q ∧ A' 38 q = A 38 q ∧ A' 39 q = A 39 q := fun q hq => by rw [← hgA]; simp only [zs_ap, upd_ap, Nat.reduceEqDiff, ↓reduceIte, if_neg hq]; refine ⟨?_, ?_, ?_, ?_, ?_, ?_, ?_⟩ <;> trivial
  have hAn : A' 3 n = zn ag ∧ A' 4 n = 0 ∧ A' 5 n = 0 ∧ A' 6 n = 0 ∧ A' 37 n = zn nd ∧ A' 38 n = 999 ∧ A' 39 n = -1 := by rw [← hgA]; simp only [zs_ap, upd_ap, Nat.reduceEqDiff, ↓reduceIte]; refine ⟨?_, ?_, ?_, ?_, ?_, ?_, ?_⟩ <;> trivial
  have hA11 : A' 1 11 = zn (n + 1) := by rw [← hgA]; simp only [zs_ap, upd_ap, ↓reduceIte]; exact zadd1 n
  have hA05 : A' 0 5 = 0 := by rw [← hgA]; simp only [zs_ap, upd_ap, Nat.reduceEqDiff, ↓reduceIte]
  have hBo : ∀ o, o ≠ 148 → o ≠ 149 → B' o = B o := fun o a b => by rw [← hgB]; simp only [zs_ap, if_neg a, if_neg b]
  have hB8 : ∀ j, j ≠ 4 → B' 148 j = B 148 j := fun j hj => by rw [← hgB]; simp only [zs_ap, upd_ap, Nat.reduceEqDiff, ↓reduceIte, if_neg hj]
  have hB84 : B' 148 4 = 0 := by rw [← hgB]; simp only [zs_ap, upd_ap, ↓reduceIte]
  have row : ∀ j, j ≠ 48 → j ≠ 17 + n → j ≠ 60 + n → j ≠ 70 + n → j ≠ 27 + n → j ≠ 37 + n → j ≠ 7 + n → j ≠ 80 + n → B' 149 j = B 149 j := fun j a b c d e f g h => by
    rw [← hgB]; simp only [zs_ap, upd_ap, Nat.reduceEqDiff, ↓reduceIte, if_neg a, if_neg b, if_neg c, if_neg d, if_neg e, if_neg f, if_neg g, if_neg h]
  have rown : B' 149 48 = zn (n + 1) ∧ B' 149 (17 + n) = zn ag ∧ B' 149 (60 + n) = zn nd ∧ B' 149 (70 + n) = zn 999 ∧ B' 149 (27 + n) = zn 0 ∧ B' 149 (37 + n) = zn 0 ∧ B' 149 (7 + n) = zn 0 ∧ B' 149 (80 + n) = -1 := by
    rw [← hgB]
    simp only [zs_ap, upd_ap, Nat.reduceEqDiff, ↓reduceIte]
    refine ⟨zadd1 n, ?_, ?_, ?_, ?_, ?_, ?_, ?_⟩
    · rw [if_neg (by omega), if_neg (by omega), if_neg (by omega), if_neg (by omega), if_neg (by omega), if_neg (by omega), if_neg (by omega)]
    · rw [if_neg (by omega), if_neg (by omega), if_neg (by omega), if_neg (by omega), if_neg (by omega), if_neg (by omega)]
    · rw [if_neg (by omega), if_neg (by omega), if_neg (by omega), if_neg (by omega), if_neg (by omega)]; rfl
    · rw [if_neg (by omega), if_neg (by omega), if_neg (by omega), if_neg (by omega)]; rfl
    · rw [if_neg (by omega), if_neg (by omega), if_neg (by omega)]; rfl
    · rw [if_neg (by omega), if_neg (by omega)]; rfl
    · rw [if_neg (by omega)]
  clear hgA hgB
  obtain ⟨n48, n17, n60, n70, n27, n37, n7, n80⟩ := rown
  have hvn : ∀ m, m ≤ n → voiceN (B' 149) m = voiceN (B 149) m := by
    intro m
    induction m with
    | zero => intro _; rfl
    | succ m ih =>
      intro hm
      unfold voiceN
      rw [ih (by omega), row (80 + m) (by omega) (by omega) (by omega) (by omega) (by omega) (by omega) (by omega) (by omega)]
  obtain ⟨⟨⟨b1, b2, b3, b4, b5⟩, b6⟩, -⟩ := id h1
  obtain ⟨⟨-, -, p3, p4, p5, p6, p7, p8⟩, -⟩ := id h2
  have r49 : ∀ j, 49 ≤ j → j < 58 → B' 149 j = B 149 j := fun j q1 q2 => row j (by omega) (by omega) (by omega) (by omega) (by omega) (by omega) (by omega) (by omega)
  have rq : ∀ q, q < n → B' 149 (17 + q) = B 149 (17 + q) ∧ B' 149 (60 + q) = B 149 (60 + q) ∧ B' 149 (70 + q) = B 149 (70 + q) ∧ B' 149 (27 + q) = B 149 (27 + q) ∧ B' 149 (37 + q) = B 149 (37 + q) ∧ B' 149 (7 + q) = B 149 (7 + q) ∧ B' 149 (80 + q) = B 149 (80 + q) := fun q hq => ⟨row _ (by omega) (by omega) (by omega) (by omega) (by omega) (by omega) (by omega) (by omega), row _ (by omega) (by omega) (by omega) (by omega) (by omega) (by omega) (by omega) (by omega), row _ (by omega) (by omega) (by omega) (by omega) (by omega) (by omega) (by omega) (by omega), row _ (by omega) (by omega) (by omega) (by omega) (by omega) (by omega) (by omega) (by omega), row _ (by omega) (by omega) (by omega) (by omega) (by omega) (by omega) (by omega) (by omega), row _ (by omega) (by omega) (by omega) (by omega) (by omega) (by omega) (by omega) (by omega), row _ (by omega) (by omega) (by omega) (by omega) (by omega) (by omega) (by omega) (by omega)⟩
  have r7 : ∀ j, j < 7 → B' 149 j = B 149 j := fun j hj => row j (by omega) (by omega) (by omega) (by omega) (by omega) (by omega) (by omega) (by omega)
  obtain ⟨hf', hok'⟩ := fix_rest (A' := A') (w' := B' 149) (n' := n + 1) h1 h2 (by omega) (fun o q1 q2 q3 q4 q5 q6 q7 q8 => hAo o (by omega) (by omega) (by omega) (by omega) (by omega) (by omega) (by omega) (by omega) (by omega)) (fun j q1 q2 q3 q4 q5 q6 q7 q8 q9 => row j (by omega) (by omega) (by omega) (by omega) (by omega) (by omega) (by omega) (by omega)) (by
    refine ⟨⟨by rw [hA11, n48], by rw [hA1 12 (by decide), r49 49 (by decide) (by decide)]; exact b2, by rw [hA1 13 (by decide), r49 50 (by decide) (by decide)]; exact b3, by rw [hA1 14 (by decide), r49 56 (by decide) (by decide)]; exact b4, by rw [hA1 15 (by decide), r49 57 (by decide) (by decide)]; exact b5⟩, fun q hq => ?_⟩
    show A' 37 q = _ ∧ A' 38 q = _ ∧ A' 39 q = _
    by_cases hqn : q = n
    · subst hqn
      rw [n60, n70, n80]
      exact ⟨hAn.2.2.2.2.1, hAn.2.2.2.2.2.1, hAn.2.2.2.2.2.2⟩
    · obtain ⟨e1, e2, e3, e4, e5, e6, e7⟩ := rq q (by omega)
      obtain ⟨f1, f2, f3, f4, f5, f6, f7⟩ := hAp q hqn
      rw [e2, e3, e7, f5, f6, f7]
      exact b6 q (by omega)) (by
    refine ⟨by omega, n48, by rw [r49 49 (by decide) (by decide)]; exact p3, by rw [r49 50 (by decide) (by decide)]; exact p4, by rw [r49 56 (by decide) (by decide)]; exact p5, by rw [r49 57 (by decide) (by decide)]; exact p6, ?_, fun q hq => ?_⟩
    · have hv : voiceN (B' 149) (n + 1) = voiceN (B' 149) n + (if B' 149 (80 + n) = -1 then 0 else 1) := rfl
      rw [r49 51 (by decide) (by decide), p7, hv, hvn n (Nat.le_refl _), n80, if_pos rfl, Nat.add_zero]
    · by_cases hqn : q = n
      · subst hqn
        exact ⟨⟨nd, hnd, n60⟩, ⟨999, by decide, n70⟩, Or.inl n80⟩
      · obtain ⟨e1, e2, e3, e4, e5, e6, e7⟩ := rq q (by omega)
        obtain ⟨g1, g2, g3⟩ := p8 q (by omega)
        rw [e2, e3, e7]
        refine ⟨g1, g2, ?_⟩
        rcases g3 with g3 | ⟨q', hq', g3⟩
        · exact Or.inl g3
        · exact Or.inr ⟨q', by omega, g3⟩)
  refine ⟨n + 1, k, c, b, ⟨hf', hok', ?_, ?_, ?_⟩, forget_past h6 (hA0 4 (by decide)) hA05 hB84, imgIs_of h7 ⟨hA0 2 (by decide), fun o q1 q2 => hAo o (by omega) (by omega) (by omega) (by omega) (by omega) (by omega) (by omega) (by omega) (by omega)⟩ ⟨hB8 5 (by decide), hBo 150 (by decide) (by decide)⟩, ?_⟩
  · obtain ⟨⟨m1, m2, m3, m4, m5, m6, m7⟩, m8⟩ := h3
    have e2 : A' 2 = A 2 := hAo 2 (by decide) (by decide) (by decide) (by decide) (by decide) (by decide) (by decide) (by decide) (by decide)
    refine ⟨by rw [e2, r7 1 (by decide), r7 0 (by decide), r7 2 (by decide), r7 3 (by decide), r7 6 (by decide), r7 4 (by decide), r7 5 (by decide)]; exact ⟨m1, m2, m3, m4, m5, m6, m7⟩, fun q hq => ?_⟩
    show A' 3 q = _ ∧ A' 4 q = _ ∧ A' 5 q = _ ∧ A' 6 q = _
    by_cases hqn : q = n
    · subst hqn
      rw [n17, n27, n37, n7]
      exact ⟨hAn.1, hAn.2.1, hAn.2.2.1, hAn.2.2.2.1⟩
    · obtain ⟨e1, e2, e3, e4, e5, e6, e7⟩ := rq q (by omega)
      obtain ⟨f1, f2, f3, f4, f5, f6, f7⟩ := hAp q hqn
      rw [e1, e4, e5, e6, f1, f2, f3, f4]
      exact m8 q (by omega)
  · obtain ⟨p1, ⟨y, p2, p3, p4⟩, p5, p6, p7⟩ := h4
    refine ⟨by rw [r7 1 (by decide)]; exact p1, ⟨y, p2, by rw [r7 0 (by decide)]; exact p3, fun q hq => ?_⟩, by rw [r7 5 (by decide)]; exact p5, by rw [r7 6 (by decide)]; exact p6, fun q hq => ?_⟩
    · by_cases hqn : q = n
      · subst hqn
        exact ⟨0, by omega, n27⟩
      · obtain ⟨e1, e2, e3, e4, e5, e6, e7⟩ := rq q (by omega)
        rw [e4]
        exact p4 q (by omega)
    · by_cases hqn : q = n
      · subst hqn
        exact ⟨⟨ag, hag, n17⟩, 0, by decide, n7, by simp⟩
      · obtain ⟨e1, e2, e3, e4, e5, e6, e7⟩ := rq q (by omega)
        rw [e1, e6]
        exact p7 q (by omega)
  · exact bookIs_row (bookIs_of h5 (fun o q1 q2 => hAo o (by omega) (by omega) (by omega) (by omega) (by omega) (by omega) (by omega) (by omega) (by omega))) (fun j q1 q2 => row j (by omega) (by omega) (by omega) (by omega) (by omega) (by omega) (by omega) (by omega))
  · have e119 : A' 119 = A 119 := hAo 119 (by decide) (by decide) (by decide) (by decide) (by decide) (by decide) (by decide) (by decide) (by decide)
    exact tapeIs_of h8 ⟨by rw [e119], by rw [e119], by rw [e119], hAo 120 (by decide) (by decide) (by decide) (by decide) (by decide) (by decide) (by decide) (by decide) (by decide)⟩ ⟨hB8 19 (by decide), hB8 26 (by decide), hB8 28 (by decide), hBo 158 (by decide) (by decide)⟩
end
section
theorem zs_sm (M : ZI) (o k : Nat) (v : Int32) (j : Nat) : (zs M o k v) o j = if j = k then v else M o j := by rw [zs_ap, if_pos rfl, upd_ap]
theorem zs_df {M : ZI} {o k : Nat} {v : Int32} {o' : Nat} (h : o' ≠ o) : (zs M o k v) o' = M o' := by rw [zs_ap, if_neg h]
/-- a call that changes cells of the PEOPLE's part on each side and forgets -/
theorem tell_eq {A B A' B' : ZI} {n k c b : Nat} (h0 : Inv5 A B n k c b) (h6 : pastIs A B n) (h7 : imgIs A B) (h8 : tapeIs A B) (hAo : ∀ r, r ≠ 0 → r ≠ 1 → r ≠ 2 → r ≠ 3 → r ≠ 37 → r ≠ 38 → A' r = A r) (hA0 : ∀ i, A' 0 i = if i = 5 then 0 else A 0 i) (hBo : ∀ o, o ≠ 148 → o ≠ 149 → B' o = B o) (hB8 : ∀ i, B' 148 i = if i = 4 then 0 else B 148 i)
    (hr : ∀ i, i ≠ 1 → i ≠ 49 → i ≠ 50 → i ≠ 56 → i ≠ 57 → ¬ (17 ≤ i ∧ i < 27) → ¬ (60 ≤ i ∧ i < 80) → B' 149 i = B 149 i) (hp : pplIs A' 1 (B' 149) n) (hpo : pplOk (B' 149) n) (hm : momIs A' 2 (B' 149) n) (hmo : momOk (B' 149) n 999) :
    Inv2 A' B' ∧ (∀ o, 148 ≤ o → A' o = A o) ∧ ∀ o, o < 148 → B' o = B o := by
  obtain ⟨h1, h2, h3, h4, h5⟩ := h0
  have hn10 := h2.1.1
  have key := fix_rest (A' := A') (w' := B' 149) (n' := n) h1 h2 (Nat.le_refl _) (fun r q1 q2 q3 q4 q5 q6 q7 q8 => hAo r (by omega) (by omega) (by omega) (by omega) (by omega) (by omega)) (fun i q1 q2 q3 q4 q5 q6 q7 q8 q9 => hr i (by omega) (by omega) (by omega) (by omega) (by omega) (by omega) (by omega)) hp hpo
  have e119 : A' 119 = A 119 := hAo 119 (by decide) (by decide) (by decide) (by decide) (by decide) (by decide)
  exact ⟨⟨n, k, c, b, ⟨key.1, key.2, hm, hmo, bookIs_row (bookIs_of h5 (fun r q1 q2 => hAo r (by omega) (by omega) (by omega) (by omega) (by omega) (by omega))) (fun i q1 q2 => hr i (by omega) (by omega) (by omega) (by omega) (by omega) (by omega) (by omega))⟩, forget_past h6 (by rw [hA0, if_neg (by decide)]) (by rw [hA0, if_pos rfl]) (by rw [hB8, if_pos rfl]), imgIs_of h7 ⟨by rw [hA0, if_neg (by decide)], fun r q1 q2 => hAo r (by omega) (by omega) (by omega) (by omega) (by omega) (by omega)⟩ ⟨by rw [hB8, if_neg (by decide)], hBo 150 (by decide) (by decide)⟩, tapeIs_of h8 ⟨by rw [e119], by rw [e119], by rw [e119], hAo 120 (by decide) (by decide) (by decide) (by decide) (by decide) (by decide)⟩ ⟨by rw [hB8, if_neg (by decide)], by rw [hB8, if_neg (by decide)], by rw [hB8, if_neg (by decide)], hBo 158 (by decide) (by decide)⟩⟩, fun r hr => hAo r (by omega) (by omega) (by omega) (by omega) (by omega) (by omega), fun r hr => hBo r (by omega) (by omega)⟩
/-- a number of the realm's own: REST, LIMIT, TRACES -/
theorem tell_realm {A B : ZI} {n k c b q j x : Nat} (h0 : Inv5 A B n k c b) (h6 : pastIs A B n) (h7 : imgIs A B) (h8 : tapeIs A B) (hq : (q = 12 ∧ j = 49 ∧ x ≤ 24) ∨ (q = 13 ∧ j = 50 ∧ 1 ≤ x ∧ x ≤ 24) ∨ (q = 14 ∧ j = 56 ∧ x ≤ 200) ∨ (q = 15 ∧ j = 57 ∧ x ≤ 200)) :
    Inv2 (zs (zs A 0 5 0) 1 q (zn x)) (zs (zs B 149 j (zn x)) 148 4 0) ∧ (∀ o, 148 ≤ o → (zs (zs A 0 5 0) 1 q (zn x)) o = A o) ∧ ∀ o, o < 148 → (zs (zs B 149 j (zn x)) 148 4 0) o = B o := by
  obtain ⟨h1, h2, h3, h4, h5⟩ := id h0
  have hn10 := h2.1.1
  have hj : j = 49 ∨ j = 50 ∨ j = 56 ∨ j = 57 := by omega
  have hrow : ∀ i, (zs (zs B 149 j (zn x)) 148 4 0) 149 i = if i = j then zn x else B 149 i := fun i => by rw [zs_ap, if_neg (by decide), zs_ap, if_pos rfl, upd_ap]
  have hlow : ∀ i, i ≠ j → (zs (zs B 149 j (zn x)) 148 4 0) 149 i = B 149 i := fun i hi => by rw [hrow, if_neg hi]
  have hA1 : ∀ i, (zs (zs A 0 5 0) 1 q (zn x)) 1 i = if i = q then zn x else A 1 i := fun i => by rw [zs_sm, zs_df (by decide)]
  have hAo : ∀ r, r ≠ 0 → r ≠ 1 → (zs (zs A 0 5 0) 1 q (zn x)) r = A r := fun r a b => by rw [zs_ap, if_neg b, zs_ap, if_neg a]
  obtain ⟨⟨⟨b1, b2, b3, b4, b5⟩, b6⟩, -⟩ := id h1
  obtain ⟨⟨-, p2, p3, p4, p5, p6, p7, p8⟩, -⟩ := id h2
  refine tell_eq h0 h6 h7 h8 (fun r a b _ _ _ _ => hAo r a b) (fun i => by rw [zs_ap, if_neg (by decide), zs_ap, if_pos rfl, upd_ap]) (fun o a b => by rw [zs_ap, if_neg a, zs_ap, if_neg b]) (fun i => by rw [zs_sm, zs_df (by decide)]) (fun i q1 q2 q3 q4 q5 q6 q7 => hlow i (by omega)) ?_ ?_ (momIs_row (momIs_of h3 (fun r a b => hAo r (by omega) (by omega))) hn10 (fun i hi => hlow i (by omega))) (momOk_row h4 hn10 (fun i hi => hlow i (by omega)))
  · refine ⟨?_, fun p hp => ?_⟩
    · rw [hA1, hA1, hA1, hA1, hA1, hrow, hrow, hrow, hrow, hrow]
      rcases hq with ⟨rfl, rfl, -⟩ | ⟨rfl, rfl, -⟩ | ⟨rfl, rfl, -⟩ | ⟨rfl, rfl, -⟩ <;> simp only [↓reduceIte, Nat.reduceEqDiff] <;> simp only [b1, b2, b3, b4, b5, and_self]
    · rw [hAo _ (by omega) (by omega), hAo _ (by omega) (by omega), hAo _ (by omega) (by omega), hlow _ (by omega), hlow _ (by omega), hlow _ (by omega)]
      exact b6 p hp
  · refine ⟨hn10, by rw [hlow _ (by omega)]; exact p2, ?_, ?_, ?_, ?_, ?_, fun p hp => by rw [hlow _ (by omega), hlow _ (by omega), hlow _ (by omega)]; exact p8 p hp⟩
    · by_cases h : 49 = j
      · rw [hrow, if_pos h]; exact ⟨x, by omega, rfl⟩
      · rw [hlow _ h]; exact p3
    · by_cases h : 50 = j
      · rw [hrow, if_pos h]; exact ⟨x, by omega, by omega, rfl⟩
      · rw [hlow _ h]; exact p4
    · by_cases h : 56 = j
      · rw [hrow, if_pos h]; exact ⟨x, by omega, rfl⟩
      · rw [hlow _ h]; exact p5
    · by_cases h : 57 = j
      · rw [hrow, if_pos h]; exact ⟨x, by omega, rfl⟩
      · rw [hlow _ h]; exact p6
    · rw [hlow _ (by omega), p7]
      congr 1
      exact (voiceN_P n (fun p hp => hlow _ (by omega))).symm
/-- NEED or BY of a PERSON -/
theorem tell_person {A B : ZI} {n k c b o d p x : Nat} (h0 : Inv5 A B n k c b) (h6 : pastIs A B n) (h7 : imgIs A B) (h8 : tapeIs A B) (hp : p < n) (hq : (o = 37 ∧ d = 60 ∧ x ≤ 24) ∨ (o = 38 ∧ d = 70 ∧ x ≤ 999)) :
    Inv2 (zs (zs A 0 5 0) o p (zn x)) (zs (zs B 149 (d + p) (zn x)) 148 4 0) ∧ (∀ r, 148 ≤ r → (zs (zs A 0 5 0) o p (zn x)) r = A r) ∧ ∀ r, r < 148 → (zs (zs B 149 (d + p) (zn x)) 148 4 0) r = B r := by
  obtain ⟨h1, h2, h3, h4, h5⟩ := id h0
  have hn10 := h2.1.1
  have ho : o = 37 ∨ o = 38 := by omega
  have hd : d = 60 ∨ d = 70 := by omega
  have hrow : ∀ i, (zs (zs B 149 (d + p) (zn x)) 148 4 0) 149 i = if i = d + p then zn x else B 149 i := fun i => by rw [zs_ap, if_neg (by decide), zs_ap, if_pos rfl, upd_ap]
  have hlow : ∀ i, i ≠ d + p → (zs (zs B 149 (d + p) (zn x)) 148 4 0) 149 i = B 149 i := fun i hi => by rw [hrow, if_neg hi]
  have hAo : ∀ r, r ≠ 0 → r ≠ o → (zs (zs A 0 5 0) o p (zn x)) r = A r := fun r a b => by rw [zs_ap, if_neg b, zs_ap, if_neg a]
  have hAp : ∀ i, (zs (zs A 0 5 0) o p (zn x)) o i = if i = p then zn x else A o i := fun i => by rw [zs_sm, zs_df (by omega)]
  obtain ⟨⟨⟨b1, b2, b3, b4, b5⟩, b6⟩, -⟩ := id h1
  obtain ⟨⟨-, p2, p3, p4, p5, p6, p7, p8⟩, -⟩ := id h2
  refine tell_eq h0 h6 h7 h8 (fun r a _ _ _ b c => hAo r a (by omega)) (fun i => by rw [zs_ap, if_neg (by omega), zs_ap, if_pos rfl, upd_ap]) (fun r a b => by rw [zs_ap, if_neg a, zs_ap, if_neg b]) (fun i => by rw [zs_sm, zs_df (by decide)]) (fun i q1 q2 q3 q4 q5 q6 q7 => hlow i (by omega)) ?_ ?_ (momIs_row (momIs_of h3 (fun r a b => hAo r (by omega) (by omega))) hn10 (fun i hi => hlow i (by omega))) (momOk_row h4 hn10 (fun i hi => hlow i (by omega)))
  · refine ⟨by rw [hAo 1 (by decide) (by omega), hlow _ (by omega), hlow _ (by omega), hlow _ (by omega), hlow _ (by omega), hlow _ (by omega)]; exact ⟨b1, b2, b3, b4, b5⟩, fun r hr => ?_⟩
    obtain ⟨e1, e2, e3⟩ := b6 r hr
    show (zs (zs A 0 5 0) o p (zn x)) 37 r = _ ∧ (zs (zs A 0 5 0) o p (zn x)) 38 r = _ ∧ (zs (zs A 0 5 0) o p (zn x)) 39 r = _
    rw [hAo 39 (by decide) (by omega), hlow (80 + r) (by omega)]
    rcases hq with ⟨rfl, rfl, -⟩ | ⟨rfl, rfl, -⟩
    · rw [hAp, hAo 38 (by decide) (by decide), hlow (70 + r) (by omega), hrow]
      refine ⟨?_, e2, e3⟩
      by_cases hrp : r = p
      · rw [if_pos hrp, if_pos (by omega)]
      · rw [if_neg hrp, if_neg (by omega)]; exact e1
    · rw [hAp, hAo 37 (by decide) (by decide), hlow (60 + r) (by omega), hrow]
      refine ⟨e1, ?_, e3⟩
      by_cases hrp : r = p
      · rw [if_pos hrp, if_pos (by omega)]
      · rw [if_neg hrp, if_neg (by omega)]; exact e2
  · refine ⟨hn10, by rw [hlow _ (by omega)]; exact p2, by rw [hlow _ (by omega)]; exact p3, by rw [hlow _ (by omega)]; exact p4, by rw [hlow _ (by omega)]; exact p5, by rw [hlow _ (by omega)]; exact p6, ?_, fun r hr => ?_⟩
    · rw [hlow _ (by omega), p7]
      congr 1
      exact (voiceN_P n (fun p hp => hlow _ (by omega))).symm
    · obtain ⟨g1, g2, g3⟩ := p8 r hr
      refine ⟨?_, ?_, by rw [hlow _ (by omega)]; exact g3⟩
      · by_cases h : 60 + r = d + p
        · rw [hrow, if_pos h]; exact ⟨x, by omega, rfl⟩
        · rw [hlow _ h]; exact g1
      · by_cases h : 70 + r = d + p
        · rw [hrow, if_pos h]; exact ⟨x, by omega, rfl⟩
        · rw [hlow _ h]; exact g2
/-- WEAR -/
theorem tell_wear {A B : ZI} {n k c b x : Nat} (h0 : Inv5 A B n k c b) (h6 : pastIs A B n) (h7 : imgIs A B) (h8 : tapeIs A B) (hx : x ≤ 24) :
    Inv2 (zs (zs A 0 5 0) 2 4 (zn x)) (zs (zs B 149 1 (zn x)) 148 4 0) ∧ (∀ r, 148 ≤ r → (zs (zs A 0 5 0) 2 4 (zn x)) r = A r) ∧ ∀ r, r < 148 → (zs (zs B 149 1 (zn x)) 148 4 0) r = B r := by
  obtain ⟨h1, h2, h3, h4, h5⟩ := id h0
  have hn10 := h2.1.1
  have hrow : ∀ i, (zs (zs B 149 1 (zn x)) 148 4 0) 149 i = if i = 1 then zn x else B 149 i := fun i => by rw [zs_ap, if_neg (by decide), zs_ap, if_pos rfl, upd_ap]
  have hlow : ∀ i, i ≠ 1 → (zs (zs B 149 1 (zn x)) 148 4 0) 149 i = B 149 i := fun i hi => by rw [hrow, if_neg hi]
  have hAo : ∀ r, r ≠ 0 → r ≠ 2 → (zs (zs A 0 5 0) 2 4 (zn x)) r = A r := fun r a b => by rw [zs_ap, if_neg b, zs_ap, if_neg a]
  have hF : rowF (B 149) ((zs (zs B 149 1 (zn x)) 148 4 0) 149) := fun i a _ => hlow i (by omega)
  have hf := fixIs_row hF h2 (fixIs_of (M := A) (M' := zs (zs A 0 5 0) 2 4 (zn x)) h1 (fun r hr => hAo r (by omega) (by omega)))
  refine tell_eq h0 h6 h7 h8 (fun r a _ b _ _ _ => hAo r a b) (fun i => by rw [zs_ap, if_neg (by decide), zs_ap, if_pos rfl, upd_ap]) (fun r a b => by rw [zs_ap, if_neg a, zs_ap, if_neg b]) (fun i => by rw [zs_sm, zs_df (by decide)]) (fun i q1 q2 q3 q4 q5 q6 q7 => hlow i (by omega)) hf.1 (fixOk_row hF h2).1 ?_ ?_
  · obtain ⟨⟨m1, m2, m3, m4, m5, m6, m7⟩, m8⟩ := h3
    refine ⟨?_, fun p hp => ?_⟩
    · simp only [zs_ap, upd_ap, Nat.reduceEqDiff, ↓reduceIte]
      exact ⟨trivial, m2, m3, m4, m5, m6, m7⟩
    · rw [hAo _ (by omega) (by omega), hAo _ (by omega) (by omega), hAo _ (by omega) (by omega), hAo _ (by omega) (by omega), hlow _ (by omega), hlow _ (by omega), hlow _ (by omega), hlow _ (by omega)]
      exact m8 p hp
  · obtain ⟨p1, ⟨y, p2, p3, p4⟩, p5, p6, p7⟩ := h4
    exact ⟨⟨x, hx, by rw [hrow, if_pos rfl]⟩, ⟨y, p2, by rw [hlow _ (by decide)]; exact p3, fun p hp => by rw [hlow _ (by omega)]; exact p4 p hp⟩, by rw [hlow _ (by decide)]; exact p5, by rw [hlow _ (by decide)]; exact p6, fun p hp => by rw [hlow _ (by omega), hlow _ (by omega)]; exact p7 p hp⟩
/-- AGE of a PERSON -/
theorem tell_age {A B : ZI} {n k c b p x : Nat} (h0 : Inv5 A B n k c b) (h6 : pastIs A B n) (h7 : imgIs A B) (h8 : tapeIs A B) (hp : p < n) (hx : x ≤ 99) :
    Inv2 (zs (zs A 0 5 0) 3 p (zn x)) (zs (zs B 149 (17 + p) (zn x)) 148 4 0) ∧ (∀ r, 148 ≤ r → (zs (zs A 0 5 0) 3 p (zn x)) r = A r) ∧ ∀ r, r < 148 → (zs (zs B 149 (17 + p) (zn x)) 148 4 0) r = B r := by
  obtain ⟨h1, h2, h3, h4, h5⟩ := id h0
  have hn10 := h2.1.1
  have hrow : ∀ i, (zs (zs B 149 (17 + p) (zn x)) 148 4 0) 149 i = if i = 17 + p then zn x else B 149 i := fun i => by rw [zs_ap, if_neg (by decide), zs_ap, if_pos rfl, upd_ap]
  have hlow : ∀ i, i ≠ 17 + p → (zs (zs B 149 (17 + p) (zn x)) 148 4 0) 149 i = B 149 i := fun i hi => by rw [hrow, if_neg hi]
  have hAo : ∀ r, r ≠ 0 → r ≠ 3 → (zs (zs A 0 5 0) 3 p (zn x)) r = A r := fun r a b => by rw [zs_ap, if_neg b, zs_ap, if_neg a]
  have hAp : ∀ i, (zs (zs A 0 5 0) 3 p (zn x)) 3 i = if i = p then zn x else A 3 i := fun i => by rw [zs_sm, zs_df (by decide)]
  have hF : rowF (B 149) ((zs (zs B 149 (17 + p) (zn x)) 148 4 0) 149) := fun i a _ => hlow i (by omega)
  have hf := fixIs_row hF h2 (fixIs_of (M := A) (M' := zs (zs A 0 5 0) 3 p (zn x)) h1 (fun r hr => hAo r (by omega) (by omega)))
  refine tell_eq h0 h6 h7 h8 (fun r a _ _ b _ _ => hAo r a b) (fun i => by rw [zs_ap, if_neg (by decide), zs_ap, if_pos rfl, upd_ap]) (fun r a b => by rw [zs_ap, if_neg a, zs_ap, if_neg b]) (fun i => by rw [zs_sm, zs_df (by decide)]) (fun i q1 q2 q3 q4 q5 q6 q7 => hlow i (by omega)) hf.1 (fixOk_row hF h2).1 ?_ ?_
  · obtain ⟨m0, m8⟩ := h3
    refine ⟨by rw [hAo 2 (by decide) (by decide), hlow _ (by omega), hlow _ (by omega), hlow _ (by omega), hlow _ (by omega), hlow _ (by omega), hlow _ (by omega), hlow _ (by omega)]; exact m0, fun r hr => ?_⟩
    obtain ⟨e1, e2⟩ := m8 r hr
    rw [hAo (2 + 2) (by decide) (by decide), hAo (2 + 3) (by decide) (by decide), hAo (2 + 4) (by decide) (by decide), hlow (27 + r) (by omega), hlow (37 + r) (by omega), hlow (7 + r) (by omega), show (2 : Nat) + 1 = 3 from rfl, hAp, hrow]
    refine ⟨?_, e2⟩
    by_cases hrp : r = p
    · rw [if_pos hrp, if_pos (by omega)]
    · rw [if_neg hrp, if_neg (by omega)]; exact e1
  · obtain ⟨p1, ⟨y, p2, p3, p4⟩, p5, p6, p7⟩ := h4
    refine ⟨by rw [hlow _ (by omega)]; exact p1, ⟨y, p2, by rw [hlow _ (by omega)]; exact p3, fun p hp => by rw [hlow _ (by omega)]; exact p4 p hp⟩, by rw [hlow _ (by omega)]; exact p5, by rw [hlow _ (by omega)]; exact p6, fun r hr => ?_⟩
    rw [hlow (7 + r) (by omega)]
    refine ⟨?_, (p7 r hr).2⟩
    by_cases h : 17 + r = 17 + p
    · rw [hrow, if_pos h]; exact ⟨x, hx, rfl⟩
    · rw [hlow _ h]; exact (p7 r hr).1
theorem sync_set (x y z : Int32) : sync (f15_set x y z) (f150_set x y z) := by
  rintro A B ⟨n, k, c, b, h0, h6, h7, h8⟩
  have hI : Inv2 A B := ⟨n, k, c, b, h0, h6, h7, h8⟩
  have hn10 := h0.2.1.1.1
  -- refused
  have no : f16_canBeSet x y z A = some 0 → f151_canSet x y z B = some 0 → ∃ v A' B', f15_set x y z A = some (v, A') ∧ f150_set x y z B = some (v, B') ∧ Inv2 A' B' ∧ (∀ o, 148 ≤ o → A' o = A o) ∧ ∀ o, o < 148 → B' o = B o := fun e1 e2 =>
    sync_same (v := 0) hI (by unfold f15_set; rw [e1]; rfl) (by unfold f150_set; rw [e2]; rfl)
  have yes : ∀ (o q j : Nat), j < 2000 → f16_canBeSet x y z A = some 1 → f151_canSet x y z B = some 1 → f153_placeOf x y = some (zn j) → f15_set x y z A = some (1, zs (zs A 0 5 0) o q z) → (Inv2 (zs (zs A 0 5 0) o q z) (zs (zs B 149 j z) 148 4 0) ∧ (∀ r, 148 ≤ r → (zs (zs A 0 5 0) o q z) r = A r) ∧ ∀ r, r < 148 → (zs (zs B 149 j z) 148 4 0) r = B r) → ∃ v A' B', f15_set x y z A = some (v, A') ∧ f150_set x y z B = some (v, B') ∧ Inv2 A' B' ∧ (∀ o, 148 ≤ o → A' o = A o) ∧ ∀ o, o < 148 → B' o = B o := by
    intro o q j hj2 e1 e2 e3 e4 hI'
    refine ⟨1, _, zs (zs B 149 j z) 148 4 0, e4, ?_, hI'⟩
    unfold f150_set
    rw [e2, e3]
    simp only [Option.bind_some]
    rw [if_neg (by decide), if_pos ((zn_zin (by omega)).mpr (by omega)), zn_zi (by omega)]
    rfl
  have cs : ∀ v : Int32, f16_canBeSet x y z A = some v → f15_set x y z A = (if v = 0 then some ((0 : Int32), A) else (f11_forgetPasts A).bind fun M2 => (if x = (0 : Int32) then zlet (zs M2 2 4 z) fun (M3 : ZI) => some ((1 : Int32), M3) else if x = (1 : Int32) then zlet (zs M2 1 12 z) fun (M4 : ZI) => some ((1 : Int32), M4) else if x = (2 : Int32) then zlet (zs M2 1 13 z) fun (M5 : ZI) => some ((1 : Int32), M5) else if x = (3 : Int32) then if zin y 10 = true then zlet (zs M2 37 (zi y) z) fun (M6 : ZI) => some ((1 : Int32), M6) else none else if x = (4 : Int32) then if zin y 10 = true then zlet (zs M2 38 (zi y) z) fun (M7 : ZI) => some ((1 : Int32), M7) else none else if zin y 10 = true then zlet (zs M2 3 (zi y) z) fun (M8 : ZI) => some ((1 : Int32), M8) else none)) := fun v hv => by
    unfold f15_set; rw [hv]; rfl
  by_cases c0 : x = 0
  · subst c0
    rcases within_ex (x := z) (lo := 0) (hi := 24) (by decide) (by decide) with ⟨u, -, hu, rfl, e1, e2⟩ | ⟨e1, e2⟩
    · have g1 : f16_canBeSet 0 y (zn u) A = some 1 := by unfold f16_canBeSet; rw [if_pos rfl, show f13_within (zn u) 0 24 = some 1 from e1]; rfl
      have g2 : f151_canSet 0 y (zn u) B = some 1 := by unfold f151_canSet; rw [if_pos rfl, show f149_isIn (zn u) 0 24 = some 1 from e2]; rfl
      exact yes 2 4 1 (by decide) g1 g2 rfl (by rw [cs 1 g1]; rfl) (tell_wear h0 h6 h7 h8 hu)
    · exact no (by unfold f16_canBeSet; rw [if_pos rfl, show f13_within z 0 24 = some 0 from e1]; rfl) (by unfold f151_canSet; rw [if_pos rfl, show f149_isIn z 0 24 = some 0 from e2]; rfl)
  by_cases c1 : x = 1
  · subst c1
    rcases within_ex (x := z) (lo := 0) (hi := 24) (by decide) (by decide) with ⟨u, -, hu, rfl, e1, e2⟩ | ⟨e1, e2⟩
    · have g1 : f16_canBeSet 1 y (zn u) A = some 1 := by unfold f16_canBeSet; rw [if_neg (by decide), if_pos rfl, show f13_within (zn u) 0 24 = some 1 from e1]; rfl
      have g2 : f151_canSet 1 y (zn u) B = some 1 := by unfold f151_canSet; rw [if_neg (by decide), if_pos rfl, show f149_isIn (zn u) 0 24 = some 1 from e2]; rfl
      exact yes 1 12 49 (by decide) g1 g2 rfl (by rw [cs 1 g1]; rfl) (tell_realm h0 h6 h7 h8 (Or.inl ⟨rfl, rfl, hu⟩))
    · exact no (by unfold f16_canBeSet; rw [if_neg (by decide), if_pos rfl, show f13_within z 0 24 = some 0 from e1]; rfl) (by unfold f151_canSet; rw [if_neg (by decide), if_pos rfl, show f149_isIn z 0 24 = some 0 from e2]; rfl)
  by_cases c2 : x = 2
  · subst c2
    rcases within_ex (x := z) (lo := 1) (hi := 24) (by decide) (by decide) with ⟨u, hu1, hu, rfl, e1, e2⟩ | ⟨e1, e2⟩
    · have g1 : f16_canBeSet 2 y (zn u) A = some 1 := by unfold f16_canBeSet; rw [if_neg (by decide), if_neg (by decide), if_pos rfl, show f13_within (zn u) 1 24 = some 1 from e1]; rfl
      have g2 : f151_canSet 2 y (zn u) B = some 1 := by unfold f151_canSet; rw [if_neg (by decide), if_neg (by decide), if_pos rfl, show f149_isIn (zn u) 1 24 = some 1 from e2]; rfl
      exact yes 1 13 50 (by decide) g1 g2 rfl (by rw [cs 1 g1]; rfl) (tell_realm h0 h6 h7 h8 (Or.inr (Or.inl ⟨rfl, rfl, hu1, hu⟩)))
    · exact no (by unfold f16_canBeSet; rw [if_neg (by decide), if_neg (by decide), if_pos rfl, show f13_within z 1 24 = some 0 from e1]; rfl) (by unfold f151_canSet; rw [if_neg (by decide), if_neg (by decide), if_pos rfl, show f149_isIn z 1 24 = some 0 from e2]; rfl)
  by_cases c35 : x = 3 ∨ x = 4 ∨ x = 5
  · -- of a PERSON
    have hi : ∃ hi, hi ≤ 999 ∧ (x = 3 → hi = 24) ∧ (x = 4 → hi = 999) ∧ (x = 5 → hi = 99) ∧ f16_canBeSet x y z A = ((f17_has 1 y A).bind fun v => if v = 0 then some 0 else (f13_within z (zn 0) (zn hi)).bind fun v5 => if v5 = 0 then some 0 else some 1) ∧ f151_canSet x y z B = ((f152_isPerson y B).bind fun v => if v = 0 then some 0 else (f149_isIn z (zn 0) (zn hi)).bind fun v5 => if v5 = 0 then some 0 else some 1) := by
      rcases c35 with rfl | rfl | rfl
      · exact ⟨24, by decide, fun _ => rfl, fun h => absurd h (by decide), fun h => absurd h (by decide), rfl, rfl⟩
      · exact ⟨999, by decide, fun h => absurd h (by decide), fun _ => rfl, fun h => absurd h (by decide), rfl, rfl⟩
      · exact ⟨99, by decide, fun h => absurd h (by decide), fun h => absurd h (by decide), fun _ => rfl, rfl, rfl⟩
    obtain ⟨hi, hhi, hi3, hi4, hi5, E1, E2⟩ := hi
    rcases has_eq h0 y with ⟨p, hp, rfl, e1, e2⟩ | ⟨e1, e2⟩
    · rw [e1] at E1
      rw [e2] at E2
      rcases within_ex (x := z) (lo := 0) (hi := hi) (by decide) (by omega) with ⟨u, -, hu, rfl, e3, e4⟩ | ⟨e3, e4⟩
      · rw [e3] at E1
        rw [e4] at E2
        have g1 : f16_canBeSet x (zn p) (zn u) A = some 1 := E1
        have g2 : f151_canSet x (zn p) (zn u) B = some 1 := E2
        have hz : zin (zn p) 10 = true := (zn_zin (by omega)).mpr (by omega)
        have zz : zi (zn p) = p := zn_zi (by omega)
        rcases c35 with rfl | rfl | rfl
        · have := hi3 rfl
          exact yes 37 p (60 + p) (by omega) g1 g2 (by unfold f153_placeOf; rw [if_neg (by decide), if_neg (by decide), if_neg (by decide), if_pos rfl]; exact congrArg some (zn_add 60 p)) (by rw [cs 1 g1, if_neg (by decide)]; simp only [f11_forgetPasts, zlet, Option.bind_some]; rw [if_neg (by decide), if_neg (by decide), if_neg (by decide), if_pos trivial, if_pos hz, zz]) (tell_person h0 h6 h7 h8 hp (Or.inl ⟨rfl, rfl, by omega⟩))
        · have := hi4 rfl
          exact yes 38 p (70 + p) (by omega) g1 g2 (by unfold f153_placeOf; rw [if_neg (by decide), if_neg (by decide), if_neg (by decide), if_neg (by decide), if_pos rfl]; exact congrArg some (zn_add 70 p)) (by rw [cs 1 g1, if_neg (by decide)]; simp only [f11_forgetPasts, zlet, Option.bind_some]; rw [if_neg (by decide), if_neg (by decide), if_neg (by decide), if_neg (by decide), if_pos trivial, if_pos hz, zz]) (tell_person h0 h6 h7 h8 hp (Or.inr ⟨rfl, rfl, by omega⟩))
        · have := hi5 rfl
          exact yes 3 p (17 + p) (by omega) g1 g2 (by unfold f153_placeOf; rw [if_neg (by decide), if_neg (by decide), if_neg (by decide), if_neg (by decide), if_neg (by decide)]; exact congrArg some (zn_add 17 p)) (by rw [cs 1 g1, if_neg (by decide)]; simp only [f11_forgetPasts, zlet, Option.bind_some]; rw [if_neg (by decide), if_neg (by decide), if_neg (by decide), if_neg (by decide), if_neg (by decide), if_pos hz, zz]) (tell_age h0 h6 h7 h8 hp (by omega))
      · rw [e3] at E1
        rw [e4] at E2
        exact no E1 E2
    · rw [e1] at E1
      rw [e2] at E2
      exact no E1 E2
  · have c3 : ¬ x = 3 := fun h => c35 (Or.inl h)
    have c4 : ¬ x = 4 := fun h => c35 (Or.inr (Or.inl h))
    have c5 : ¬ x = 5 := fun h => c35 (Or.inr (Or.inr h))
    exact no (by unfold f16_canBeSet; rw [if_neg c0, if_neg c1, if_neg c2, if_neg c3, if_neg c4, if_neg c5]) (by unfold f151_canSet; rw [if_neg c0, if_neg c1, if_neg c2, if_neg c3, if_neg c4, if_neg c5])
theorem sync_traces (x y : Int32) : sync (f108_traces x y) (f250_traces x y) := by
  rintro A B ⟨n, k, c, b, h0, h6, h7, h8⟩
  have hI : Inv2 A B := ⟨n, k, c, b, h0, h6, h7, h8⟩
  rcases within_ex (x := x) (lo := 0) (hi := 200) (by decide) (by decide) with ⟨u, -, hu, rfl, e1, e2⟩ | ⟨e1, e2⟩
  case inr => exact sync_same (v := 0) hI (by unfold f108_traces; rw [show f13_within x 0 200 = some 0 from e1]; rfl) (by unfold f250_traces; rw [show f149_isIn x 0 200 = some 0 from e2]; rfl)
  rcases within_ex (x := y) (lo := 0) (hi := 200) (by decide) (by decide) with ⟨v, -, hv, rfl, e3, e4⟩ | ⟨e3, e4⟩
  case inr => exact sync_same (v := 0) hI (by unfold f108_traces; rw [show f13_within (zn u) 0 200 = some 1 from e1, show f13_within y 0 200 = some 0 from e3]; rfl) (by unfold f250_traces; rw [show f149_isIn (zn u) 0 200 = some 1 from e2, show f149_isIn y 0 200 = some 0 from e4]; rfl)
  obtain ⟨g1, g2, g3⟩ := tell_realm (q := 14) (j := 56) (x := u) h0 h6 h7 h8 (Or.inr (Or.inr (Or.inl ⟨rfl, rfl, hu⟩)))
  obtain ⟨n', k', c', b', i0, i6, i7, i8⟩ := g1
  obtain ⟨j1, j2, j3⟩ := tell_realm (q := 15) (j := 57) (x := v) i0 i6 i7 i8 (Or.inr (Or.inr (Or.inr ⟨rfl, rfl, hv⟩)))
  refine ⟨1, zs (zs (zs A 0 5 0) 1 14 (zn u)) 1 15 (zn v), zs (zs (zs B 149 56 (zn u)) 149 57 (zn v)) 148 4 0, ?_, ?_, Inv2_of j1 (fun o ho => ?_) (fun o ho => ?_), fun o ho => by rw [zs_ap, if_neg (by omega), zs_ap, if_neg (by omega), zs_ap, if_neg (by omega)], fun o ho => by rw [zs_ap, if_neg (by omega), zs_ap, if_neg (by omega), zs_ap, if_neg (by omega)]⟩
  · unfold f108_traces; rw [show f13_within (zn u) 0 200 = some 1 from e1, show f13_within (zn v) 0 200 = some 1 from e3]; rfl
  · unfold f250_traces; rw [show f149_isIn (zn u) 0 200 = some 1 from e2, show f149_isIn (zn v) 0 200 = some 1 from e4]; rfl
  · funext i
    simp only [zs_ap, upd_ap]
    by_cases h1 : o = 1
    · subst h1; simp only [↓reduceIte, Nat.reduceEqDiff]
    · by_cases h0' : o = 0
      · subst h0'
        simp only [↓reduceIte, Nat.reduceEqDiff]
        simp only [upd_ap]
        split <;> rfl
      · simp only [if_neg h1, if_neg h0']
  · funext i
    simp only [zs_ap, upd_ap]
    by_cases h1 : o = 148
    · subst h1
      simp only [↓reduceIte, Nat.reduceEqDiff]
      simp only [upd_ap]
      split <;> rfl
    · by_cases h0' : o = 149
      · subst h0'
        simp only [↓reduceIte, Nat.reduceEqDiff]
      · simp only [if_neg h1, if_neg h0']
end
section
-- ===== tie, sit, undo, years, given, soonest =====
theorem zpair2 {α γ β δ : Type} (F : Nat → α → Int32 → Option β) (G : Nat → γ → Int32 → Option δ) (N : Nat) (P : Nat → α → γ → Prop) (R : β → δ → Prop)
    (h1 : ∀ n i a c, i < N → 1 ≤ n → P i a c → (∃ a' c', P (i + 1) a' c' ∧ F (n + 1) a (zn i) = F n a' (zn (i + 1)) ∧ G (n + 1) c (zn i) = G n c' (zn (i + 1))) ∨ (∃ b d, R b d ∧ F (n + 1) a (zn i) = some b ∧ G (n + 1) c (zn i) = some d))
    (h2 : ∀ n a c, P N a c → ∃ b d, R b d ∧ F (n + 1) a (zn N) = some b ∧ G (n + 1) c (zn N) = some d) :
    ∀ (fuel i : Nat) (a : α) (c : γ), i ≤ N → N - i < fuel → P i a c → ∃ b d, F fuel a (zn i) = some b ∧ G fuel c (zn i) = some d ∧ R b d := by
  intro fuel
  induction fuel with
  | zero => intro i a c _ h _; omega
  | succ n ih =>
    intro i a c hi hf hP
    by_cases h : i < N
    · rcases h1 n i a c h (by omega) hP with ⟨a', c', hP', e1, e2⟩ | ⟨b, d, hR, e1, e2⟩
      · rw [e1, e2]
        exact ih (i + 1) a' c' (by omega) (by omega) hP'
      · exact ⟨b, d, e1, e2, hR⟩
    · obtain rfl : i = N := by omega
      obtain ⟨b, d, hR, e1, e2⟩ := h2 n a c hP
      exact ⟨b, d, e1, e2, hR⟩
theorem keep_Inv {A B A' B' : ZI} {n k c b : Nat} (h0 : Inv5 A B n k c b) (h7 : imgIs A B) (h8 : tapeIs A B) (hA : keepA A A') (hB : keepB B B') : Inv5 A' B' n k c b ∧ imgIs A' B' ∧ tapeIs A' B' := by
  obtain ⟨h1, h2, h3, h4, h5⟩ := h0
  have e149 : B' 149 = B 149 := hB.1 149 (by decide) (by decide)
  refine ⟨?_, imgIs_of h7 ⟨hA.2 2 (by decide) (by decide), fun o q1 q2 => hA.1 o (by omega) (by omega)⟩ ⟨hB.2 5 (by decide), hB.1 150 (by decide) (by decide)⟩, tapeIs_of h8 ⟨by rw [hA.1 119 (by decide) (by omega)], by rw [hA.1 119 (by decide) (by omega)], by rw [hA.1 119 (by decide) (by omega)], hA.1 120 (by decide) (by omega)⟩ ⟨hB.2 19 (by decide), hB.2 26 (by decide), hB.2 28 (by decide), hB.1 158 (by decide) (by decide)⟩⟩
  unfold Inv5
  rw [e149]
  exact ⟨fixIs_of h1 (fun o ho => hA.1 o (by omega) (by omega)), h2, momIs_of h3 (fun o q1 q2 => hA.1 o (by omega) (by omega)), h4, bookIs_of h5 (fun o q1 q2 => hA.1 o (by omega) (by omega))⟩
theorem sync_sit (x : Int32) : sync (f22_sit x) (f201_sit x) := by
  rintro A B ⟨n, k, c, b, h0, h6, h7, h8⟩
  have hI : Inv2 A B := ⟨n, k, c, b, h0, h6, h7, h8⟩
  have hn10 := h0.2.1.1.1
  rcases within_ex (x := x) (lo := 1) (hi := 24) (by decide) (by decide) with ⟨u, hu1, hu, rfl, e1, e2⟩ | ⟨e1, e2⟩
  case inr => exact sync_same (v := -1) hI (by unfold f22_sit; rw [show f13_within x 1 24 = some 0 from e1]; rfl) (by unfold f201_sit; rw [show f149_isIn x 1 24 = some 0 from e2]; rfl)
  obtain ⟨A1, B1, k1, k2, k3, k4, k5⟩ := keep_eq h6 hn10 h0.2.2.1 h0.2.2.2.1
  obtain ⟨⟨h1, h2, h3, h4, h5⟩, i7, i8⟩ := keep_Inv h0 h7 h8 k4 k5
  have e14 : A1 2 4 = B1 149 1 := h3.1.1
  obtain ⟨e, he, ee⟩ := h4.1
  obtain ⟨e', he', ee'⟩ := zmin_range (x := B1 149 1 + zn u) (k := e + u) (m := 24) (by rw [ee, zn_add]) (by omega) (by decide)
  have ee' : zmin 24 (B1 149 1 + zn u) = zn e' := ee'
  have hrow : ∀ i, (zs B1 149 1 (zn e')) 149 i = if i = 1 then zn e' else B1 149 i := fun i => zs_sm _ _ _ _ _
  have hlow : ∀ i, i ≠ 1 → (zs B1 149 1 (zn e')) 149 i = B1 149 i := fun i hi => by rw [hrow, if_neg hi]
  have hAo : ∀ r, r ≠ 2 → (zs A1 2 4 (zn e')) r = A1 r := fun r a => zs_df a
  have hF : rowF (B1 149) ((zs B1 149 1 (zn e')) 149) := fun i a _ => hlow i (by omega)
  refine ⟨zn e', zs A1 2 4 (zn e'), zs B1 149 1 (zn e'), ?_, ?_, ⟨n, k, c, b, ⟨fixIs_row hF h2 (fixIs_of h1 (fun r hr => hAo r (by omega))), fixOk_row hF h2, ?_, ?_, bookIs_row (bookIs_of h5 (fun r q1 q2 => hAo r (by omega))) (fun i q1 q2 => hlow i (by omega))⟩, pastIs_of k3 ⟨by rw [hAo 0 (by decide)], by rw [hAo 0 (by decide)], fun o q1 q2 => hAo o (by omega)⟩ ⟨by rw [zs_df (by decide)], zs_df (by decide)⟩, imgIs_of i7 ⟨by rw [hAo 0 (by decide)], fun o q1 q2 => hAo o (by omega)⟩ ⟨by rw [zs_df (by decide)], zs_df (by decide)⟩, tapeIs_of i8 ⟨by rw [hAo 119 (by decide)], by rw [hAo 119 (by decide)], by rw [hAo 119 (by decide)], hAo 120 (by decide)⟩ ⟨by rw [zs_df (by decide)], by rw [zs_df (by decide)], by rw [zs_df (by decide)], zs_df (by decide)⟩⟩, fun o ho => (hAo o (by omega)).trans (k4.1 o (by omega) (by omega)), fun o ho => (zs_df (by omega)).trans (k5.1 o (by omega) (by omega))⟩
  · unfold f22_sit f23_wearBy
    rw [show f13_within (zn u) 1 24 = some 1 from e1]
    simp only [Option.bind_some, zlet]
    rw [if_neg (by decide), k1]
    simp only [Option.bind_some]
    rw [e14, ee', zs_sm, if_pos rfl]
  · unfold f201_sit
    rw [show f149_isIn (zn u) 1 24 = some 1 from e2]
    simp only [Option.bind_some, zlet, les_eq]
    rw [if_neg (by decide), k2]
    simp only [Option.bind_some]
    rw [ee', zs_sm, if_pos rfl]
  · obtain ⟨⟨m1, m2, m3, m4, m5, m6, m7⟩, m8⟩ := h3
    refine ⟨?_, fun p hp => ?_⟩
    · simp only [zs_sm, Nat.reduceEqDiff, ↓reduceIte]
      exact ⟨trivial, m2, m3, m4, m5, m6, m7⟩
    · rw [hAo _ (by omega), hAo _ (by omega), hAo _ (by omega), hAo _ (by omega), hlow _ (by omega), hlow _ (by omega), hlow _ (by omega), hlow _ (by omega)]
      exact m8 p hp
  · obtain ⟨p1, ⟨y, p2, p3, p4⟩, p5, p6, p7⟩ := h4
    exact ⟨⟨e', he', by rw [hrow, if_pos rfl]⟩, ⟨y, p2, by rw [hlow _ (by decide)]; exact p3, fun p hp => by rw [hlow _ (by omega)]; exact p4 p hp⟩, by rw [hlow _ (by decide)]; exact p5, by rw [hlow _ (by decide)]; exact p6, fun p hp => by rw [hlow _ (by omega), hlow _ (by omega)]; exact p7 p hp⟩
theorem sync_tie (x y z : Int32) : sync (f18_tie x y z) (f199_tie x y z) := by
  rintro A B ⟨n, k, c, b, h0, h6, h7, h8⟩
  have hI : Inv2 A B := ⟨n, k, c, b, h0, h6, h7, h8⟩
  have hn10 := h0.2.1.1.1
  rcases has_eq h0 x with ⟨p, hp, rfl, e1, e2⟩ | ⟨e1, e2⟩
  case inr => exact sync_same (v := 0) hI (by unfold f18_tie; rw [e1]; rfl) (by unfold f199_tie; rw [e2]; rfl)
  rcases has_eq h0 y with ⟨q, hq, rfl, e3, e4⟩ | ⟨e3, e4⟩
  case inr => exact sync_same (v := 0) hI (by unfold f18_tie; rw [e1, e3]; rfl) (by unfold f199_tie; rw [e2, e4]; rfl)
  have hz : ∀ r, r < n → zin (zn r) 10 = true := fun r hr => (zn_zin (by omega)).mpr (by omega)
  have zz : ∀ r, r < n → zi (zn r) = r := fun r hr => zn_zi (by omega)
  have hz7 : ∀ r, r < n → zin (7 + zn r) 2064 = true := fun r hr => by rw [zl7, zn_add]; exact (zn_zin (by omega)).mpr (by omega)
  have zz7 : ∀ r, r < n → zi (7 + zn r) = 7 + r := fun r hr => by rw [zl7, zn_add, zn_zi (by omega)]
  by_cases hpq : p = q
  · refine sync_same (v := 0) hI ?_ ?_
    · unfold f18_tie; rw [e1, e3]; simp only [Option.bind_some]; rw [if_neg (by decide), if_neg (by decide), if_pos (by rw [hpq])]
    · unfold f199_tie; rw [e2, e4]; simp only [Option.bind_some]; rw [if_neg (by decide), if_neg (by decide), if_pos (by rw [hpq])]
  have hpq' : ¬ zn p = zn q := by rw [zn_eq (by omega) (by omega)]; exact hpq
  obtain ⟨-, s, hs, es, hsp⟩ := h0.2.2.2.1.2.2.2.2 p hp
  have a6 : A 6 p = zn s := (h0.2.2.1.2 p hp).2.2.2.trans es
  have cls : f18_tie (zn p) (zn q) z A = (if (if s.testBit q = true then (1 : Int32) else 0) = z then some ((0 : Int32), A) else (f20_keepPast A).bind fun M4 => zlet (zs M4 6 p ((M4 6 p) ^^^ (zshl (1 : Int32) (zn q)))) fun (M5 : ZI) => zlet (zs M5 6 q ((M5 6 q) ^^^ (zshl (1 : Int32) (zn p)))) fun (M6 : ZI) => some ((1 : Int32), M6)) := by
    unfold f18_tie
    rw [e1, e3]
    simp only [Option.bind_some, if_neg hpq', hz p hp, hz q hq, zz p hp, zz q hq, ↓reduceIte, zlet]
    rw [if_neg (by decide), if_neg (by decide), a6, isIn_zn (by omega) (by omega)]
    rfl
  have ref : f199_tie (zn p) (zn q) z B = (if (if s.testBit q = true then (1 : Int32) else 0) = z then some ((0 : Int32), B) else (f200_keeps B).bind fun M4 => zlet (zs M4 149 (7 + p) ((M4 149 (7 + p)) ^^^ (zshl (1 : Int32) (zn q)))) fun (M5 : ZI) => zlet (zs M5 149 (7 + q) ((M5 149 (7 + q)) ^^^ (zshl (1 : Int32) (zn p)))) fun (M6 : ZI) => some ((1 : Int32), M6)) := by
    unfold f199_tie
    rw [e2, e4]
    simp only [Option.bind_some, if_neg hpq', hz7 p hp, hz7 q hq, zz7 p hp, zz7 q hq, ↓reduceIte, zlet]
    rw [if_neg (by decide), if_neg (by decide), es, zbit (by omega) (by omega)]
    have : ((if (if s.testBit q = true then (1 : Int32) else 0) = 1 then some (1 : Int32) else some 0) : Option Int32) = some (if s.testBit q = true then 1 else 0) := by
      by_cases h : s.testBit q = true
      · rw [if_pos h]; rfl
      · rw [if_neg h]; rfl
    rw [this]
    rfl
  by_cases hc : (if s.testBit q = true then (1 : Int32) else 0) = z
  · exact sync_same (v := 0) hI (by rw [cls, if_pos hc]) (by rw [ref, if_pos hc])
  obtain ⟨A1, B1, k1, k2, k3, k4, k5⟩ := keep_eq h6 hn10 h0.2.2.1 h0.2.2.2.1
  obtain ⟨⟨h1, h2, h3, h4, h5⟩, i7, i8⟩ := keep_Inv h0 h7 h8 k4 k5
  rw [if_neg hc, k1] at cls
  rw [if_neg hc, k2] at ref
  simp only [Option.bind_some, zlet] at cls ref
  have e149 : B1 149 = B 149 := k5.1 149 (by decide) (by decide)
  obtain ⟨-, t, ht, et, htq⟩ := h0.2.2.2.1.2.2.2.2 q hq
  have sh : ∀ r, r < n → zshl 1 (zn r) = zn (2 ^ r) := fun r hr => by rw [zl1]; exact zn_shl (by omega)
  have x6p : A1 6 p ^^^ zshl 1 (zn q) = zn (s ^^^ 2 ^ q) := by rw [k4.1 6 (by decide) (by omega), a6, sh q hq, zn_xor]
  have x6q : (zs A1 6 p (A1 6 p ^^^ zshl 1 (zn q))) 6 q ^^^ zshl 1 (zn p) = zn (t ^^^ 2 ^ p) := by
    rw [zs_sm, if_neg (show ¬ q = p from fun h => hpq h.symm), k4.1 6 (by decide) (by omega), show A 6 q = zn t from (h0.2.2.1.2 q hq).2.2.2.trans et, sh p hp, zn_xor]
  have y6p : B1 149 (7 + p) ^^^ zshl 1 (zn q) = zn (s ^^^ 2 ^ q) := by rw [e149, es, sh q hq, zn_xor]
  have y6q : (zs B1 149 (7 + p) (B1 149 (7 + p) ^^^ zshl 1 (zn q))) 149 (7 + q) ^^^ zshl 1 (zn p) = zn (t ^^^ 2 ^ p) := by
    rw [zs_sm, if_neg (show ¬ 7 + q = 7 + p by omega), e149, et, sh p hp, zn_xor]
  rw [x6q, x6p] at cls
  rw [y6q, y6p] at ref
  have hA6 : ∀ i, (zs (zs A1 6 p (zn (s ^^^ 2 ^ q))) 6 q (zn (t ^^^ 2 ^ p))) 6 i = if i = q then zn (t ^^^ 2 ^ p) else if i = p then zn (s ^^^ 2 ^ q) else A1 6 i := fun i => by rw [zs_sm, zs_sm]
  have hAo : ∀ r, r ≠ 6 → (zs (zs A1 6 p (zn (s ^^^ 2 ^ q))) 6 q (zn (t ^^^ 2 ^ p))) r = A1 r := fun r hr => by rw [zs_df hr, zs_df hr]
  have hrow : ∀ i, (zs (zs B1 149 (7 + p) (zn (s ^^^ 2 ^ q))) 149 (7 + q) (zn (t ^^^ 2 ^ p))) 149 i = if i = 7 + q then zn (t ^^^ 2 ^ p) else if i = 7 + p then zn (s ^^^ 2 ^ q) else B1 149 i := fun i => by rw [zs_sm, zs_sm]
  have hBo : ∀ r, r ≠ 149 → (zs (zs B1 149 (7 + p) (zn (s ^^^ 2 ^ q))) 149 (7 + q) (zn (t ^^^ 2 ^ p))) r = B1 r := fun r hr => by rw [zs_df hr, zs_df hr]
  have hlow : ∀ i, i ≠ 7 + p → i ≠ 7 + q → (zs (zs B1 149 (7 + p) (zn (s ^^^ 2 ^ q))) 149 (7 + q) (zn (t ^^^ 2 ^ p))) 149 i = B1 149 i := fun i a b => by rw [hrow, if_neg b, if_neg a]
  refine ⟨1, _, _, cls, ref, ?_, fun o ho => (hAo o (by omega)).trans (k4.1 o (by omega) (by omega)), fun o ho => (hBo o (by omega)).trans (k5.1 o (by omega) (by omega))⟩
  generalize zs (zs A1 6 p (zn (s ^^^ 2 ^ q))) 6 q (zn (t ^^^ 2 ^ p)) = A2 at *
  generalize zs (zs B1 149 (7 + p) (zn (s ^^^ 2 ^ q))) 149 (7 + q) (zn (t ^^^ 2 ^ p)) = B2 at *
  have hF : rowF (B1 149) (B2 149) := fun i a _ => hlow i (by omega) (by omega)
  have a119 : A2 119 = A1 119 := hAo 119 (by decide)
  have pw : ∀ r, r < n → 2 ^ r < 1024 := fun r hr => Nat.lt_of_lt_of_le (Nat.pow_lt_pow_right (by decide) (show r < 10 by omega)) (Nat.le_refl _)
  refine ⟨n, k, c, b, ⟨fixIs_row hF h2 (fixIs_of h1 (fun r hr => hAo r (by omega))), fixOk_row hF h2, ?_, ?_, bookIs_row (bookIs_of h5 (fun r q1 q2 => hAo r (by omega))) (fun i q1 q2 => hlow i (by omega) (by omega))⟩, pastIs_of k3 ⟨by rw [hAo 0 (by decide)], by rw [hAo 0 (by decide)], fun o q1 q2 => hAo o (by omega)⟩ ⟨by rw [hBo 148 (by decide)], hBo 151 (by decide)⟩, imgIs_of i7 ⟨by rw [hAo 0 (by decide)], fun o q1 q2 => hAo o (by omega)⟩ ⟨by rw [hBo 148 (by decide)], hBo 150 (by decide)⟩, tapeIs_of i8 ⟨by rw [a119], by rw [a119], by rw [a119], hAo 120 (by decide)⟩ ⟨by rw [hBo 148 (by decide)], by rw [hBo 148 (by decide)], by rw [hBo 148 (by decide)], hBo 158 (by decide)⟩⟩
  · obtain ⟨m0, m8⟩ := h3
    refine ⟨by rw [hAo 2 (by decide), hlow _ (by omega) (by omega), hlow _ (by omega) (by omega), hlow _ (by omega) (by omega), hlow _ (by omega) (by omega), hlow _ (by omega) (by omega), hlow _ (by omega) (by omega), hlow _ (by omega) (by omega)]; exact m0, fun r hr => ?_⟩
    obtain ⟨g1, g2, g3, g4⟩ := m8 r hr
    rw [hAo (2 + 1) (by decide), hAo (2 + 2) (by decide), hAo (2 + 3) (by decide), hlow (17 + r) (by omega) (by omega), hlow (27 + r) (by omega) (by omega), hlow (37 + r) (by omega) (by omega), show (2 : Nat) + 4 = 6 from rfl, hA6, hrow]
    refine ⟨g1, g2, g3, ?_⟩
    by_cases hrq : r = q
    · rw [if_pos hrq, if_pos (show 7 + r = 7 + q by omega)]
    · rw [if_neg hrq, if_neg (show ¬ 7 + r = 7 + q by omega)]
      by_cases hrp : r = p
      · rw [if_pos hrp, if_pos (show 7 + r = 7 + p by omega)]
      · rw [if_neg hrp, if_neg (show ¬ 7 + r = 7 + p by omega)]; exact g4
  · obtain ⟨p1, ⟨yy, p2, p3, p4⟩, p5, p6, p7⟩ := h4
    refine ⟨by rw [hlow _ (by omega) (by omega)]; exact p1, ⟨yy, p2, by rw [hlow _ (by omega) (by omega)]; exact p3, fun r hr => by rw [hlow _ (by omega) (by omega)]; exact p4 r hr⟩, by rw [hlow _ (by omega) (by omega)]; exact p5, by rw [hlow _ (by omega) (by omega)]; exact p6, fun r hr => ?_⟩
    rw [hlow (17 + r) (by omega) (by omega), hrow]
    refine ⟨(p7 r hr).1, ?_⟩
    by_cases hrq : 7 + r = 7 + q
    · obtain rfl : r = q := by omega
      rw [if_pos hrq]
      refine ⟨t ^^^ 2 ^ p, Nat.xor_lt_two_pow (n := 10) ht (pw p hp), rfl, ?_⟩
      rw [Nat.testBit_xor, Nat.testBit_two_pow, htq]
      simp [hpq]
    · rw [if_neg hrq]
      by_cases hrp : 7 + r = 7 + p
      · obtain rfl : r = p := by omega
        rw [if_pos hrp]
        refine ⟨s ^^^ 2 ^ q, Nat.xor_lt_two_pow (n := 10) hs (pw q hq), rfl, ?_⟩
        rw [Nat.testBit_xor, Nat.testBit_two_pow, hsp]
        simp [Ne.symm hpq]
      · rw [if_neg hrp]
        exact (p7 r hr).2
/-- the reference goes back to the m-th row -/
theorem back_ref {B : ZI} {m : Nat} (hm : m < 6) (h4 : B 148 4 = zn m) : ∃ B', f198_l21 zfu 0 B = some B' ∧ (∀ o, o ≠ 149 → B' o = B o) ∧ ∀ j, B' 149 j = if j < 48 then B 151 (48 * m + j) else B 149 j := by
  obtain ⟨b, h1, h2, h3⟩ := zloop (fun fu (b : ZI) c => f198_l21 fu c b) 48 (fun i b => (∀ o, o ≠ 149 → b o = B o) ∧ ∀ j, b 149 j = if j < i then B 151 (48 * m + j) else B 149 j) (fun b => (∀ o, o ≠ 149 → b o = B o) ∧ ∀ j, b 149 j = if j < 48 then B 151 (48 * m + j) else B 149 j) (fun fu i b hi hb => by
    obtain ⟨g1, g2⟩ := hb
    left
    (try dsimp only)
    rw [f198_l21, if_pos (show zn i < 48 by rw [zl48, zn_lt (by omega) (by decide)]; exact hi), g1 148 (by decide), h4, zl48, zn_mul, zn_add, if_pos ((zn_zin (by omega)).mpr (by omega)), if_pos ((zn_zin (by omega)).mpr (by omega)), zn_zi (by omega), zn_zi (by omega), zadd1, g1 151 (by decide)]
    simp only [zlet]
    refine ⟨_, ⟨fun o ho => ?_, fun j => ?_⟩, rfl⟩
    · rw [zs_df ho]; exact g1 o ho
    · rw [zs_sm, g2]
      by_cases hji : j = i
      · rw [if_pos hji, if_pos (by omega), hji]
      · rw [if_neg hji]
        by_cases h : j < i
        · rw [if_pos h, if_pos (by omega)]
        · rw [if_neg h, if_neg (by omega)]) (fun fu b hb => by
    refine ⟨b, hb, ?_⟩
    (try dsimp only)
    rw [f198_l21, if_neg (by decide)]) zfu 0 B (by omega) (by rw [zfu_eq]; omega) ⟨fun _ _ => rfl, fun j => by rw [if_neg (by omega)]⟩
  exact ⟨b, h1, h2, h3⟩
theorem sync_undo : sync f138_undo f198_undo := by
  rintro A B ⟨n, k, c, b, h0, h6, h7, h8⟩
  have hI : Inv2 A B := ⟨n, k, c, b, h0, h6, h7, h8⟩
  obtain ⟨h1, h2, h3, h4, h5⟩ := h0
  have hn10 := h2.1.1
  obtain ⟨o, m, ho, hm6, g1, g2, g3, g4⟩ := id h6
  by_cases hm0 : m = 0
  · subst hm0
    exact sync_same (v := 0) hI (by unfold f138_undo; rw [g2]; rfl) (by unfold f198_undo; rw [g3]; rfl)
  obtain ⟨m, rfl⟩ : ∃ m', m = m' + 1 := ⟨m - 1, by omega⟩
  have es : zn (m + 1) - 1 = zn m := zn_sub (i := m + 1) (j := 1) (by omega)
  have hne : ¬ zn (m + 1) = 0 := by rw [zl0, zn_eq (by omega) (by decide)]; omega
  have hmod := Nat.mod_lt (o + m) (show 0 < 6 by decide)
  obtain ⟨q1, q2⟩ := g4 m (by omega)
  obtain ⟨A2, a1, a2, a3⟩ := copy_mom (A := zs A 0 5 (zn m)) (t := 2) (momIs_of q1 (fun r r1 r2 => zs_df (by omega))) hn10 (by omega)
  obtain ⟨B2, b1, b2, b3⟩ := back_ref (B := zs B 148 4 (zn m)) (m := m) (by omega) (by rw [zs_sm, if_pos rfl])
  have hA0 : ∀ i, A2 0 i = if i = 5 then zn m else A 0 i := fun i => by rw [a3 0 (by omega), zs_sm]
  have hAo : ∀ r, r ≠ 0 → ¬ (2 ≤ r ∧ r ≤ 6) → A2 r = A r := fun r r1 r2 => by rw [a3 r (by omega), zs_df r1]
  have hB8 : ∀ i, B2 148 i = if i = 4 then zn m else B 148 i := fun i => by rw [b2 148 (by decide), zs_sm]
  have hBo : ∀ r, r ≠ 148 → r ≠ 149 → B2 r = B r := fun r r1 r2 => by rw [b2 r r2, zs_df r1]
  have hrow : ∀ j, j < 48 → B2 149 j = B 151 (48 * m + j) := fun j hj => by rw [b3, if_pos hj, zs_df (by decide)]
  have hhi : ∀ j, 48 ≤ j → B2 149 j = B 149 j := fun j hj => by rw [b3, if_neg (by omega), zs_df (by decide)]
  have hF : rowF (B 149) (B2 149) := fun j r1 _ => hhi j r1
  refine ⟨1, A2, B2, ?_, ?_, ⟨n, k, c, b, ⟨fixIs_row hF h2 (fixIs_of h1 (fun r hr => hAo r (by omega) (by omega))), fixOk_row hF h2, momIs_row a2 hn10 hrow, momOk_row q2 hn10 hrow, bookIs_row (bookIs_of h5 (fun r r1 r2 => hAo r (by omega) (by omega))) (fun j r1 r2 => hhi j (by omega))⟩, ?_, imgIs_of h7 ⟨by rw [hA0, if_neg (by decide)], fun r r1 r2 => hAo r (by omega) (by omega)⟩ ⟨by rw [hB8, if_neg (by decide)], hBo 150 (by decide) (by decide)⟩, tapeIs_of h8 ⟨by rw [hAo 119 (by decide) (by omega)], by rw [hAo 119 (by decide) (by omega)], by rw [hAo 119 (by decide) (by omega)], hAo 120 (by decide) (by omega)⟩ ⟨by rw [hB8, if_neg (by decide)], by rw [hB8, if_neg (by decide)], by rw [hB8, if_neg (by decide)], hBo 158 (by decide) (by decide)⟩⟩, fun r hr => hAo r (by omega) (by omega), fun r hr => hBo r (by omega) (by omega)⟩
  · unfold f138_undo
    rw [g2, if_neg hne, es]
    simp only [zlet]
    have e4 : (zs A 0 5 (zn m)) 0 4 = zn o := by rw [zs_sm, if_neg (by decide)]; exact g1
    have e5 : (zs A 0 5 (zn m)) 0 5 = zn m := by rw [zs_sm, if_pos rfl]
    rw [e4, e5, zn_add, zrem6 (by omega), if_pos ((zn_zin (by omega)).mpr hmod), show zpa (zn ((o + m) % 6)) = 84 + 5 * ((o + m) % 6) by rw [zpa, zn_zi (by omega)], a1]
    rfl
  · unfold f198_undo
    rw [g3, if_neg hne, es]
    simp only [zlet]
    rw [b1]
    rfl
  · refine ⟨o, m, ho, by omega, by rw [hA0, if_neg (by decide)]; exact g1, by rw [hA0, if_pos rfl], by rw [hB8, if_pos rfl], fun j hj => ?_⟩
    rw [hBo 151 (by decide) (by decide)]
    have hmod2 := Nat.mod_lt (o + j) (show 0 < 6 by decide)
    obtain ⟨s1, s2⟩ := g4 j (by omega)
    exact ⟨momIs_of s1 (fun r r1 r2 => hAo r (by omega) (by omega)), s2⟩
theorem yAns_neg {w : Nat → Int32} {n : Nat} {x v : Int32} (hn : n ≤ 10) (h : yAns w n x v) : (x < 0 ↔ v = -1) ∧ (x = -2 ↔ ¬ w 1 < w 50) ∧ zmax x (-1) = v ∧ ∀ q, q < n → (x = zn q ↔ v = zn q) := by
  have e2 : ∀ q, q < n → ¬ (-2 : Int32) = zn q := fun q hq hc => by
    have := congrArg Int32.toInt hc
    rw [zn_toInt (by omega)] at this
    have h2 : Int32.toInt (-2) = -2 := rfl
    omega
  rcases h with ⟨h1, rfl, rfl⟩ | ⟨h1, ⟨rfl, rfl⟩ | ⟨p, hp, rfl, rfl⟩⟩
  · refine ⟨by decide, ⟨fun _ => h1, fun _ => rfl⟩, by decide, fun q hq => ⟨fun hc => absurd hc (e2 q hq), fun hc => absurd hc (zn_ne_neg' (by omega))⟩⟩
  · exact ⟨by decide, ⟨fun hc => absurd hc (by decide), fun hc => absurd h1 hc⟩, by decide, fun q hq => Iff.rfl⟩
  · refine ⟨⟨fun hc => absurd hc (zn_nneg (by omega)), fun hc => absurd hc (zn_ne_neg (by omega))⟩, ⟨fun hc => absurd hc.symm (e2 p hp), fun hc => absurd h1 hc⟩, ?_, fun q hq => Iff.rfl⟩
    unfold zmax
    rw [if_neg (by
      have := neg_lt_zn (k := p) (by omega)
      intro hc
      grind)]
theorem sync_years (x : Int32) : sync (f24_years x) (f203_years x) := by
  rintro A B ⟨n, k, c, b, h0, h6, h7, h8⟩
  have hI : Inv2 A B := ⟨n, k, c, b, h0, h6, h7, h8⟩
  have hn10 := h0.2.1.1.1
  rcases within_ex (x := x) (lo := 1) (hi := 40) (by decide) (by decide) with ⟨N, hN1, hN, rfl, e1, e2⟩ | ⟨e1, e2⟩
  case inr => exact sync_same (v := -1) hI (by unfold f24_years; rw [show f13_within x 1 40 = some 0 from e1]; rfl) (by unfold f203_years; rw [show f149_isIn x 1 40 = some 0 from e2]; rfl)
  obtain ⟨y, hy, ey, -⟩ := h0.2.2.2.1.2.1
  have a5 : A 2 5 = zn y := h0.2.2.1.1.2.1.trans ey
  by_cases hyN : 999 < y + N
  · have hlt : (999 : Int32) < zn (y + N) := by
      show zn 999 < zn (y + N)
      rw [zn_lt (by decide) (by omega)]; exact hyN
    refine sync_same (v := -1) hI ?_ ?_
    · unfold f24_years
      rw [show f13_within (zn N) 1 40 = some 1 from e1, a5, zn_add]
      simp only [Option.bind_some]
      rw [if_neg (by decide), if_pos hlt]
    · unfold f203_years
      rw [show f149_isIn (zn N) 1 40 = some 1 from e2, ey, zn_add]
      simp only [Option.bind_some]
      rw [if_neg (by decide), if_pos hlt]
  have hlt : ¬ (999 : Int32) < zn (y + N) := by
    show ¬ zn 999 < zn (y + N)
    rw [zn_lt (by decide) (by omega)]; exact hyN
  -- the YEARS one by one
  obtain ⟨⟨r1, A'⟩, ⟨r2, B'⟩, g1, g2, g3, g4, g5, g6, g7, g8, g9⟩ := zpair (fun f (a : Int32 × ZI) c => f24_l34 (zn N) f a.1 c a.2) (fun f (a : Int32 × ZI) c => f203_l35 (zn N) f a.1 c a.2) N (fun i a d => a.1 = d.1 ∧ Inv5 a.2 d.2 n k c b ∧ momOk (d.2 149) n (y + i) ∧ (pastIs a.2 d.2 n ∧ imgIs a.2 d.2 ∧ tapeIs a.2 d.2) ∧ d.2 148 30 = 1 ∧ (∀ o, 148 ≤ o → a.2 o = A o) ∧ ∀ o, o < 148 → d.2 o = B o) (fun a d => a.1 = d.1 ∧ Inv5 a.2 d.2 n k c b ∧ (pastIs a.2 d.2 n ∧ imgIs a.2 d.2 ∧ tapeIs a.2 d.2) ∧ (∀ o, 148 ≤ o → a.2 o = A o) ∧ (∀ o, o < 148 → d.2 o = B o) ∧ True ∧ True) (fun f i a d hi had => by
      obtain ⟨x1, A1⟩ := a
      obtain ⟨x2, B1⟩ := d
      obtain ⟨rfl, i0, im, ⟨i6, i7, i8⟩, it, iA, iB⟩ := had
      simp only at i0 im i6 i7 i8 it iA iB
      obtain ⟨A2, B2, k1, k2, k3, k4, k5⟩ := keep_eq i6 hn10 i0.2.2.1 i0.2.2.2.1
      obtain ⟨⟨j1, j2, j3, j4, j5⟩, j7, j8⟩ := keep_Inv i0 i7 i8 k4 k5
      have e149 : B2 149 = B1 149 := k5.1 149 (by decide) (by decide)
      have ht2 : B2 148 30 = 1 := (k5.2 30 (by decide)).trans it
      have jm : momOk (B2 149) n (y + i) := by rw [e149]; exact im
      obtain ⟨xx, v, A3, B3, p1, p2, p3, p4, p5, p6, p7, p8, -, p10, p11⟩ := pass_eq (a := 2) (r := 1) (Or.inl ⟨rfl, rfl, ht2, j5⟩) j1 j2 j3 jm
      left
      have hA3 : ∀ o, 12 ≤ o → o ≠ 16 → o ≠ 33 → o ≠ 40 → o ≠ 41 → A3 o = A2 o := fun o q1 q2 q3 q4 q5 => p11 o q2 q3 q4 q5 (by omega) (by omega) (by omega) (by omega) (by omega)
      have hA30 : A3 0 = A2 0 := p11 0 (by decide) (by decide) (by decide) (by decide) (by decide) (by decide) (by decide) (by decide) (by omega)
      have ans := yAns_neg hn10 p8
      have hpast : pastIs A3 B3 n := pastIs_of k3 ⟨by rw [hA30], by rw [hA30], fun o q1 q2 => hA3 o (by omega) (by omega) (by omega) (by omega) (by omega)⟩ ⟨by rw [p10 148 (by decide) (by decide) (by decide)], p10 151 (by decide) (by decide) (by decide)⟩
      have himg : imgIs A3 B3 := imgIs_of j7 ⟨by rw [hA30], fun o q1 q2 => hA3 o (by omega) (by omega) (by omega) (by omega) (by omega)⟩ ⟨by rw [p10 148 (by decide) (by decide) (by decide)], p10 150 (by decide) (by decide) (by decide)⟩
      have htape : tapeIs A3 B3 := by
        have e119 : A3 119 = A2 119 := hA3 119 (by decide) (by decide) (by decide) (by decide) (by decide)
        exact tapeIs_of j8 ⟨by rw [e119], by rw [e119], by rw [e119], hA3 120 (by decide) (by decide) (by decide) (by decide) (by decide)⟩ ⟨by rw [p10 148 (by decide) (by decide) (by decide)], by rw [p10 148 (by decide) (by decide) (by decide)], by rw [p10 148 (by decide) (by decide) (by decide)], p10 158 (by decide) (by decide) (by decide)⟩
      have hinv : Inv5 A3 B3 n k c b := ⟨p3, p4, p5, momOk_mono p6 (by omega), p7 rfl⟩
      have hAo : ∀ o, 148 ≤ o → A3 o = A o := fun o ho => (hA3 o (by omega) (by omega) (by omega) (by omega) (by omega)).trans ((k4.1 o (by omega) (by omega)).trans (iA o ho))
      have hBo : ∀ o, o < 148 → B3 o = B o := fun o ho => (p10 o (by omega) (by omega) (by omega)).trans ((k5.1 o (by omega) (by omega)).trans (iB o ho))
      have ht3 : B3 148 30 = 1 := by rw [p10 148 (by decide) (by decide) (by decide)]; exact ht2
      dsimp only
      rw [f24_l34, f203_l35, if_pos ((zn_lt (by omega) (by omega)).mpr hi), if_pos ((zn_lt (by omega) (by omega)).mpr hi), k1, k2, zadd1]
      simp only [Option.bind_some]
      rw [p1, p2]
      simp only [Option.bind_some, zlet]
      by_cases hx : xx < 0
      · rw [if_pos hx, if_pos (ans.1.mp hx)]
        exact ⟨(x1, A3), (x1, B3), ⟨rfl, hinv, by rw [show y + (i + 1) = y + i + 1 by omega]; exact p6, ⟨hpast, himg, htape⟩, ht3, hAo, hBo⟩, rfl, by rw [Int32.add_zero]⟩
      · rw [if_neg hx, if_neg (fun hc => hx (ans.1.mpr hc))]
        exact ⟨(x1 + 1, A3), (x1 + 1, B3), ⟨rfl, hinv, by rw [show y + (i + 1) = y + i + 1 by omega]; exact p6, ⟨hpast, himg, htape⟩, ht3, hAo, hBo⟩, rfl, rfl⟩) (fun f a d had => by
      obtain ⟨x1, A1⟩ := a
      obtain ⟨x2, B1⟩ := d
      obtain ⟨rfl, i0, -, i6, -, iA, iB⟩ := had
      simp only at i0 i6 iA iB
      refine ⟨(x1, A1), (x1, B1), ⟨rfl, i0, i6, iA, iB, trivial, trivial⟩, ?_, ?_⟩
      · dsimp only
        rw [f24_l34, if_neg (by rw [zn_lt (by omega) (by omega)]; omega)]
      · dsimp only
        rw [f203_l35, if_neg (by rw [zn_lt (by omega) (by omega)]; omega)]) zfu 0 (0, A) (0, zs B 148 30 1) (by omega) (by rw [zfu_eq]; omega) (by
      have hb : ∀ o, o ≠ 148 → (zs B 148 30 1) o = B o := fun o ho => zs_df ho
      have hb8 : ∀ j, j ≠ 30 → (zs B 148 30 1) 148 j = B 148 j := fun j hj => by rw [zs_sm, if_neg hj]
      have hb30 : (zs B 148 30 1) 148 30 = 1 := by rw [zs_sm, if_pos rfl]
      refine ⟨rfl, Inv5_scr h0 (scrA_refl A) (hb 149 (by decide)), ?_, rest_scr ⟨h6, h7, h8⟩ (scrA_refl A) ⟨fun o q1 _ _ _ _ => hb o q1, hb8⟩, hb30, fun _ _ => rfl, fun o ho => hb o (by omega)⟩
      show momOk ((zs B 148 30 1) 149) n (y + 0)
      rw [hb 149 (by decide)]
      exact momOk_exact h0.2.2.2.1 ey (by omega) (by decide))
  simp only at g3 g4 g5 g6 g7
  subst g3
  refine ⟨r1, A', B', ?_, ?_, ⟨n, k, c, b, g4, g5⟩, g6, g7⟩
  · have g1 : f24_l34 (zn N) zfu 0 0 A = some (r1, A') := g1
    unfold f24_years
    rw [show f13_within (zn N) 1 40 = some 1 from e1, a5, zn_add]
    simp only [Option.bind_some]
    rw [if_neg (by decide), if_neg hlt, g1]
    rfl
  · have g2 : f203_l35 (zn N) zfu 0 0 (zs B 148 30 1) = some (r1, B') := g2
    unfold f203_years
    rw [show f149_isIn (zn N) 1 40 = some 1 from e2, ey, zn_add]
    simp only [Option.bind_some, zlet]
    rw [if_neg (by decide), if_neg hlt, g2]
    rfl
end
section
-- ===== in thought: given, soonest =====
theorem lie_ref {B : ZI} (F : Nat → Int32 → ZI → Option ZI) (hF : ∀ n x M, F (n + 1) x M = (if x < (48 : Int32) then if zin x 2064 = true then if zin x 48 = true then zlet (zs M 152 (zi x) (M 149 (zi x))) fun (M5 : ZI) => F n (x + (1 : Int32)) M5 else none else none else some M)) : ∃ B', F zfu 0 B = some B' ∧ (∀ o, o ≠ 152 → B' o = B o) ∧ ∀ j, j < 48 → B' 152 j = B 149 j := by
  obtain ⟨b, h1, h2, h3⟩ := zloop (fun fu (b : ZI) c => F fu c b) 48 (fun i b => (∀ o, o ≠ 152 → b o = B o) ∧ ∀ j, j < i → b 152 j = B 149 j) (fun b => (∀ o, o ≠ 152 → b o = B o) ∧ ∀ j, j < 48 → b 152 j = B 149 j) (fun fu i b hi hb => by
    obtain ⟨g1, g2⟩ := hb
    left
    (try dsimp only)
    rw [hF, if_pos (show zn i < 48 by rw [zl48, zn_lt (by omega) (by decide)]; exact hi), if_pos ((zn_zin (by omega)).mpr (by omega)), if_pos ((zn_zin (by omega)).mpr (by omega)), zn_zi (by omega), zadd1, g1 149 (by decide)]
    simp only [zlet]
    refine ⟨_, ⟨fun o ho => ?_, fun j hj => ?_⟩, rfl⟩
    · rw [zs_df ho]; exact g1 o ho
    · rw [zs_sm]
      by_cases hji : j = i
      · rw [if_pos hji, hji]
      · rw [if_neg hji]; exact g2 j (by omega)) (fun fu b hb => by
    refine ⟨b, hb, ?_⟩
    (try dsimp only)
    rw [hF, if_neg (by decide)]) zfu 0 B (by omega) (by rw [zfu_eq]; omega) ⟨fun _ _ => rfl, fun j hj => by omega⟩
  exact ⟨b, h1, h2, h3⟩
theorem unlie_ref {B : ZI} (F : Nat → Int32 → ZI → Option ZI) (hF : ∀ n x M, F (n + 1) x M = (if x < (48 : Int32) then if zin x 48 = true then if zin x 2064 = true then zlet (zs M 149 (zi x) (M 152 (zi x))) fun (M5 : ZI) => F n (x + (1 : Int32)) M5 else none else none else some M)) : ∃ B', F zfu 0 B = some B' ∧ (∀ o, o ≠ 149 → B' o = B o) ∧ ∀ j, B' 149 j = if j < 48 then B 152 j else B 149 j := by
  obtain ⟨b, h1, h2, h3⟩ := zloop (fun fu (b : ZI) c => F fu c b) 48 (fun i b => (∀ o, o ≠ 149 → b o = B o) ∧ ∀ j, b 149 j = if j < i then B 152 j else B 149 j) (fun b => (∀ o, o ≠ 149 → b o = B o) ∧ ∀ j, b 149 j = if j < 48 then B 152 j else B 149 j) (fun fu i b hi hb => by
    obtain ⟨g1, g2⟩ := hb
    left
    (try dsimp only)
    rw [hF, if_pos (show zn i < 48 by rw [zl48, zn_lt (by omega) (by decide)]; exact hi), if_pos ((zn_zin (by omega)).mpr (by omega)), if_pos ((zn_zin (by omega)).mpr (by omega)), zn_zi (by omega), zadd1, g1 152 (by decide)]
    simp only [zlet]
    refine ⟨_, ⟨fun o ho => ?_, fun j => ?_⟩, rfl⟩
    · rw [zs_df ho]; exact g1 o ho
    · rw [zs_sm, g2]
      by_cases hji : j = i
      · rw [if_pos hji, if_pos (by omega), hji]
      · rw [if_neg hji]
        by_cases h : j < i
        · rw [if_pos h, if_pos (by omega)]
        · rw [if_neg h, if_neg (by omega)]) (fun fu b hb => by
    refine ⟨b, hb, ?_⟩
    (try dsimp only)
    rw [hF, if_neg (by decide)]) zfu 0 B (by omega) (by rw [zfu_eq]; omega) ⟨fun _ _ => rfl, fun j => by rw [if_neg (by omega)]⟩
  exact ⟨b, h1, h2, h3⟩
/-- where both stand in thought, i YEARS on -/
def thIs (A B A1 B1 : ZI) (n k c b y : Nat) : Prop := fixIs A1 1 (B1 149) n k c b ∧ fixOk (B1 149) n k c b ∧ momIs A1 114 (B1 149) n ∧ momOk (B1 149) n y ∧ B1 148 30 = 0 ∧ (∀ j, j < 48 → B1 152 j = B 149 j) ∧ (∀ j, 48 ≤ j → B1 149 j = B 149 j) ∧ (∀ o, o ≠ 16 → o ≠ 33 → o ≠ 40 → o ≠ 41 → ¬ (114 ≤ o ∧ o ≤ 118) → A1 o = A o) ∧ (∀ o, o ≠ 148 → o ≠ 149 → o ≠ 152 → o ≠ 159 → o ≠ 160 → B1 o = B o) ∧ ∀ j, j ≠ 30 → B1 148 j = B 148 j
theorem th_start {A B B1 : ZI} {n k c b : Nat} (h0 : Inv5 A B n k c b) (h1 : ∀ o, o ≠ 152 → B1 o = B o) (h2 : ∀ j, j < 48 → B1 152 j = B 149 j) : ∃ A1, f21_copy 114 2 A = some A1 ∧ thIs A B A1 (zs B1 148 30 0) n k c b 999 := by
  have hn10 := h0.2.1.1.1
  obtain ⟨A1, a1, a2, a3⟩ := copy_mom (t := 114) h0.2.2.1 hn10 (by omega)
  have e149 : (zs B1 148 30 0) 149 = B 149 := by rw [zs_df (by decide)]; exact h1 149 (by decide)
  refine ⟨A1, a1, ?_, ?_, ?_, ?_, by rw [zs_sm, if_pos rfl], fun j hj => by rw [zs_df (by decide)]; exact h2 j hj, fun j hj => by rw [e149], fun o _ _ _ _ ho => a3 o ho, fun o q1 q2 q3 q4 q5 => by rw [zs_df q1]; exact h1 o q3, fun j hj => by rw [zs_sm, if_neg hj, h1 148 (by decide)]⟩
  · rw [e149]; exact fixIs_of h0.1 (fun o ho => a3 o (by omega))
  · rw [e149]; exact h0.2.1
  · rw [e149]; exact a2
  · rw [e149]; exact h0.2.2.2.1
theorem th_step {A B A1 B1 : ZI} {n k c b y : Nat} (h : thIs A B A1 B1 n k c b y) : ∃ x v A2 B2, f25_pass 1 114 0 A1 = some (x, A2) ∧ f204_aYear B1 = some (v, B2) ∧ thIs A B A2 B2 n k c b (y + 1) ∧ yAns (B1 149) n x v := by
  obtain ⟨h1, h2, h3, h4, h5, h6, h7, h8, h9, h10⟩ := h
  obtain ⟨x, v, A2, B2, p1, p2, p3, p4, p5, p6, -, p8, p9, p10, p11⟩ := pass_eq (a := 114) (r := 0) (Or.inr ⟨rfl, rfl, h5⟩) h1 h2 h3 h4
  refine ⟨x, v, A2, B2, p1, p2, ⟨p3, p4, p5, p6, by rw [p10 148 (by decide) (by decide) (by decide)]; exact h5, fun j hj => by rw [p10 152 (by decide) (by decide) (by decide)]; exact h6 j hj, fun j hj => (p9 rfl j hj).trans (h7 j hj), fun o q1 q2 q3 q4 q5 => (p11 o q1 q2 q3 q4 (by omega) (by omega) (by omega) (by omega) (fun hc => absurd hc (by decide))).trans (h8 o q1 q2 q3 q4 q5), fun o q1 q2 q3 q4 q5 => (p10 o q2 q4 q5).trans (h9 o q1 q2 q3 q4 q5), fun j hj => by rw [p10 148 (by decide) (by decide) (by decide)]; exact h10 j hj⟩, p8⟩
theorem th_end {A B A1 B1 B2 : ZI} {n k c b y : Nat} (h : thIs A B A1 B1 n k c b y) (h1 : ∀ o, o ≠ 149 → B2 o = B1 o) (h2 : ∀ j, B2 149 j = if j < 48 then B1 152 j else B1 149 j) : scrA A A1 ∧ scrB B B2 ∧ (∀ o, 148 ≤ o → A1 o = A o) ∧ ∀ o, o < 148 → B2 o = B o := by
  obtain ⟨-, -, -, -, -, h6, h7, h8, h9, h10⟩ := h
  have e149 : B2 149 = B 149 := by
    funext j
    rw [h2]
    by_cases hj : j < 48
    · rw [if_pos hj]; exact h6 j hj
    · rw [if_neg hj]; exact h7 j (by omega)
  refine ⟨scrA_of (fun o q1 q2 q3 q4 _ _ q7 => h8 o q1 q2 q3 q4 q7), ⟨fun o q1 q2 q3 q4 q5 => ?_, fun j hj => by rw [h1 148 (by decide)]; exact h10 j hj⟩, fun o ho => h8 o (by omega) (by omega) (by omega) (by omega) (by omega), fun o ho => (h1 o (by omega)).trans (h9 o (by omega) (by omega) (by omega) (by omega) (by omega))⟩
  by_cases h149 : o = 149
  · rw [h149]; exact e149
  · exact (h1 o h149).trans (h9 o q1 h149 q2 q3 q4)
theorem sync_given (x y : Int32) : sync (f100_given x y) (f235_given x y) := sync_q (by
  intro A B n k c b h0
  have hn10 := h0.2.1.1.1
  have bad : f100_given x y A = some (-2, A) → f235_given x y B = some (-2, B) → ∃ v A' B', f100_given x y A = some (v, A') ∧ f235_given x y B = some (v, B') ∧ scrA A A' ∧ scrB B B' ∧ (∀ o, 148 ≤ o → A' o = A o) ∧ ∀ o, o < 148 → B' o = B o := fun e1 e2 => ⟨-2, A, B, e1, e2, scrA_refl A, scrB_refl B, fun _ _ => rfl, fun _ _ => rfl⟩
  rcases within_ex (x := x) (lo := 1) (hi := 40) (by decide) (by decide) with ⟨N, hN1, hN, rfl, e1, e2⟩ | ⟨e1, e2⟩
  case inr => exact bad (by unfold f100_given; rw [show f13_within x 1 40 = some 0 from e1]; rfl) (by unfold f235_given; rw [show f149_isIn x 1 40 = some 0 from e2]; rfl)
  rcases within_ex (x := y) (lo := 0) (hi := 2) (by decide) (by decide) with ⟨u, -, hu, rfl, e3, e4⟩ | ⟨e3, e4⟩
  case inr => exact bad (by unfold f100_given; rw [show f13_within (zn N) 1 40 = some 1 from e1, show f13_within y 0 2 = some 0 from e3]; rfl) (by unfold f235_given; rw [show f149_isIn (zn N) 1 40 = some 1 from e2, show f149_isIn y 0 2 = some 0 from e4]; rfl)
  obtain ⟨B1, b1, b2, b3⟩ := lie_ref (B := B) f235_l24 (fun _ _ _ => rfl)
  obtain ⟨A1, a1, a2⟩ := th_start h0 b2 b3
  obtain ⟨⟨x1, x2, A2⟩, ⟨y1, y2, B2⟩, g1, g2, g3, g4, g5⟩ := zpair (fun f (a : Int32 × Int32 × ZI) c => f100_l44 (zn N) f a.1 a.2.1 c a.2.2) (fun f (a : Int32 × Int32 × ZI) c => f235_l61 (zn N) f a.1 a.2.1 c a.2.2) N (fun i a d => thIs A B a.2.2 d.2.2 n k c b (999 + i) ∧ a.2.1 = d.1 ∧ zmax a.1 (-1) = d.2.1) (fun a d => thIs A B a.2.2 d.2.2 n k c b (999 + N) ∧ a.2.1 = d.1 ∧ zmax a.1 (-1) = d.2.1) (fun f i a d hi had => by
      obtain ⟨w1, w2, A3⟩ := a
      obtain ⟨v1, v2, B3⟩ := d
      obtain ⟨ht, rfl, hz⟩ := had
      simp only at ht hz
      obtain ⟨xx, v, A4, B4, p1, p2, p3, p4⟩ := th_step ht
      have ans := yAns_neg hn10 p4
      left
      (try dsimp only)
      rw [f100_l44, f235_l61, if_pos ((zn_lt (by omega) (by omega)).mpr hi), if_pos ((zn_lt (by omega) (by omega)).mpr hi), p1, p2, zadd1]
      simp only [Option.bind_some, zlet]
      by_cases hr : B3 149 1 < B3 149 50
      · have hx2 : ¬ xx = -2 := fun hc => (ans.2.1.mp hc) hr
        rw [if_neg hx2, if_pos hr]
        simp only [Option.bind_some]
        exact ⟨(xx, w2, A4), (w2, v, B4), ⟨by rw [show 999 + (i + 1) = 999 + i + 1 by omega]; exact p3, rfl, ans.2.2.1⟩, rfl, by rw [Int32.add_zero]⟩
      · have hx2 : xx = -2 := ans.2.1.mpr hr
        rw [if_pos hx2, if_neg hr]
        simp only [Option.bind_some]
        exact ⟨(xx, w2 + 1, A4), (w2 + 1, v, B4), ⟨by rw [show 999 + (i + 1) = 999 + i + 1 by omega]; exact p3, rfl, ans.2.2.1⟩, rfl, rfl⟩) (fun f a d had => by
      refine ⟨a, d, had, ?_, ?_⟩
      · (try dsimp only)
        rw [f100_l44, if_neg (by rw [zn_lt (by omega) (by omega)]; omega)]
      · (try dsimp only)
        rw [f235_l61, if_neg (by rw [zn_lt (by omega) (by omega)]; omega)]) zfu 0 (-1, 0, A1) (0, -1, zs B1 148 30 0) (by omega) (by rw [zfu_eq]; omega) ⟨a2, rfl, show zmax (-1) (-1) = -1 by decide⟩
  simp only at g3 g4 g5
  subst g4
  obtain ⟨B3, d1, d2, d3⟩ := unlie_ref (B := B2) f235_l121 (fun _ _ _ => rfl)
  have hend := th_end g3 d2 d3
  have g1 : f100_l44 (zn N) zfu (-1) 0 0 A1 = some (x1, x2, A2) := g1
  have g2 : f235_l61 (zn N) zfu 0 (-1) 0 (zs B1 148 30 0) = some (x2, y2, B2) := g2
  have hu3 : u = 0 ∨ u = 1 ∨ u = 2 := by omega
  have m7 : A2 114 7 = B2 149 3 := g3.2.2.1.1.2.2.2.1
  have m27 : A2 2 7 = B2 152 3 := by
    rw [g3.2.2.2.2.2.1 3 (by decide), g3.2.2.2.2.2.2.2.1 2 (by decide) (by decide) (by decide) (by decide) (by omega)]
    exact h0.2.2.1.1.2.2.2.1
  have cls : f100_given (zn N) (zn u) A = some (if u = 0 then zmax x1 (-1) else if u = 1 then x2 else A2 114 7 - A2 2 7, A2) := by
    unfold f100_given
    rw [show f13_within (zn N) 1 40 = some 1 from e1, show f13_within (zn u) 0 2 = some 1 from e3, a1]
    simp only [Option.bind_some]
    rw [if_neg (by decide), if_neg (by decide), g1]
    rcases hu3 with rfl | rfl | rfl <;> rfl
  have ref : f235_given (zn N) (zn u) B = some (if u = 0 then y2 else if u = 1 then x2 else B2 149 3 - B2 152 3, B3) := by
    unfold f235_given
    rw [show f149_isIn (zn N) 1 40 = some 1 from e2, show f149_isIn (zn u) 0 2 = some 1 from e4, b1]
    simp only [Option.bind_some, zlet]
    rw [if_neg (by decide), if_neg (by decide), g2]
    simp only [Option.bind_some]
    rw [d1]
    rcases hu3 with rfl | rfl | rfl <;> rfl
  refine ⟨_, A2, B3, cls, ?_, hend⟩
  rw [ref, m7, m27, g5])
theorem sync_soonest (x : Int32) : sync (f130_soonest x) (f236_soonest x) := sync_q (by
  intro A B n k c b h0
  have hn10 := h0.2.1.1.1
  rcases has_eq h0 x with ⟨q, hq, rfl, e1, e2⟩ | ⟨e1, e2⟩
  case inr => exact ⟨-1, A, B, by unfold f130_soonest; rw [e1]; rfl, by unfold f236_soonest; rw [e2]; rfl, scrA_refl A, scrB_refl B, fun _ _ => rfl, fun _ _ => rfl⟩
  obtain ⟨B1, b1, b2, b3⟩ := lie_ref (B := B) f236_l12 (fun _ _ _ => rfl)
  obtain ⟨A1, a1, a2⟩ := th_start h0 b2 b3
  obtain ⟨⟨x1, A2⟩, ⟨y1, B2⟩, g1, g2, ⟨y, g3⟩, g4⟩ := zpair2 (fun f (a : ZI) c => f130_l29 (zn q) f c a) (fun f (d : ZI) c => f236_l45 (zn q) f (-1) c d) 40 (fun i a d => ∃ y, thIs A B a d n k c b y) (fun (a d : Int32 × ZI) => (∃ y, thIs A B a.2 d.2 n k c b y) ∧ a.1 = d.1) (fun f i A3 B3 hi hf had => by
      obtain ⟨y, ht⟩ := had
      obtain ⟨xx, v, A4, B4, p1, p2, p3, p4⟩ := th_step ht
      have ans := (yAns_neg hn10 p4).2.2.2 q hq
      have hlt : zn i < 40 := by rw [zl40, zn_lt (by omega) (by decide)]; exact hi
      (try dsimp only)
      rw [f130_l29, f236_l45, if_pos hlt, if_pos hlt, if_pos rfl, p1, p2, zadd1]
      simp only [Option.bind_some]
      by_cases hx : xx = zn q
      · right
        obtain ⟨m, rfl⟩ : ∃ m, f = m + 1 := ⟨f - 1, by omega⟩
        refine ⟨(zn i, A4), (zn i, B4), ⟨⟨y + 1, p3⟩, rfl⟩, by rw [if_pos hx], ?_⟩
        rw [if_pos (ans.mp hx), f236_l45]
        split
        · rw [if_neg (zn_ne_neg (by omega))]
        · rfl
      · left
        refine ⟨A4, B4, ⟨y + 1, p3⟩, by rw [if_neg hx], by rw [if_neg (fun hc => hx (ans.mpr hc))]⟩) (fun f A3 B3 had => by
      refine ⟨(-1, A3), (-1, B3), ⟨had, rfl⟩, ?_, ?_⟩
      · (try dsimp only)
        rw [f130_l29, if_neg (by decide)]
      · (try dsimp only)
        rw [f236_l45, if_neg (by decide)]) zfu 0 A1 (zs B1 148 30 0) (by omega) (by rw [zfu_eq]; omega) ⟨999, a2⟩
  simp only at g3 g4
  subst g4
  obtain ⟨B3, d1, d2, d3⟩ := unlie_ref (B := B2) f236_l78 (fun _ _ _ => rfl)
  have g1 : f130_l29 (zn q) zfu 0 A1 = some (x1, A2) := g1
  have g2 : f236_l45 (zn q) zfu (-1) 0 (zs B1 148 30 0) = some (x1, B2) := g2
  refine ⟨x1, A2, B3, ?_, ?_, th_end g3 d2 d3⟩
  · unfold f130_soonest
    rw [e1]
    simp only [Option.bind_some]
    rw [if_neg (by decide), a1]
    exact g1
  · unfold f236_soonest
    rw [e2]
    simp only [Option.bind_some, zlet]
    rw [if_neg (by decide), b1]
    simp only [Option.bind_some]
    rw [g2]
    simp only [Option.bind_some]
    rw [d1]
    rfl)
end
section
-- ===== calls that ask: of, after, can, look =====
theorem sync_q2 {fC fR : ZI → Option (Int32 × ZI)} (h : ∀ A B n k c b, Inv5 A B n k c b → pastIs A B n → ∃ v A' B', fC A = some (v, A') ∧ fR B = some (v, B') ∧ scrA A A' ∧ scrB B B' ∧ (∀ o, 148 ≤ o → A' o = A o) ∧ ∀ o, o < 148 → B' o = B o) : sync fC fR := by
  intro A B hI
  obtain ⟨n, k, c, b, h1, h2⟩ := id hI
  obtain ⟨v, A', B', e1, e2, e3, e4, e5, e6⟩ := h A B n k c b h1 h2.1
  exact ⟨v, A', B', e1, e2, Inv2_scr hI e3 e4, e5, e6⟩
/-- both leave their memory as it was but for the scratch of asking -/
theorem q_ask {fC fR : ZI → Option (Int32 × ZI)} {A B : ZI} {v : Int32} (h1 : ∃ A', fC A = some (v, A') ∧ ∀ o, o ≠ 16 → o ≠ 41 → o ≠ 40 → o ≠ 33 → A' o = A o) (h2 : ∃ B', fR B = some (v, B') ∧ ∀ o, o ≠ 159 → o ≠ 160 → B' o = B o) : ∃ v A' B', fC A = some (v, A') ∧ fR B = some (v, B') ∧ scrA A A' ∧ scrB B B' ∧ (∀ o, 148 ≤ o → A' o = A o) ∧ ∀ o, o < 148 → B' o = B o := by
  obtain ⟨A', a1, a2⟩ := h1
  obtain ⟨B', b1, b2⟩ := h2
  exact ⟨v, A', B', a1, b1, scrA_of (fun o q1 q2 q3 q4 _ _ _ => a2 o q1 q4 q3 q2), scrB_of (fun o _ q2 q3 _ => b2 o q2 q3), fun o ho => a2 o (by omega) (by omega) (by omega) (by omega), fun o ho => b2 o (by omega) (by omega)⟩
theorem ask_cls {A B : ZI} {n k c b p u : Nat} {W W' : Int32} (h0 : Inv5 A B n k c b) (hp : p < n) (hu : u ≤ 24) (hW : wordRel W W') : ∃ A', f27_asks 1 2 W (zn p) (zn u) A = some (sAsk (B 149) W' p u, A') ∧ ∀ o, o ≠ 16 → o ≠ 41 → A' o = A o :=
  asks_cls (Or.inl rfl) hp hu hW h0.1 h0.2.1 h0.2.2.1 h0.2.2.2.1
theorem sum_cls2 {A B : ZI} {n k c b p : Nat} (h0 : Inv5 A B n k c b) : ∃ A', f93_weightsNaming (zn p) A = some (zn (sSum (B 149) (fun v => B 149 (80 + v)) p n), A') ∧ ∀ o, o ≠ 16 → o ≠ 41 → A' o = A o := by
  have hn10 := h0.2.1.1.1
  have h48 := h0.2.1.1.2.1
  have h11 : A 1 11 = zn n := h0.1.1.1.1.trans h48
  obtain ⟨⟨r1, r2⟩, h1, h2, h3⟩ := zloop (fun f (a : Int32 × ZI) c => f93_l4 (zn p) f a.1 c a.2) n (fun i a => a.1 = zn (sSum (B 149) (fun v => B 149 (80 + v)) p i) ∧ ∀ o, o ≠ 16 → o ≠ 41 → a.2 o = A o)
    (fun r : Int32 × ZI => r.1 = zn (sSum (B 149) (fun v => B 149 (80 + v)) p n) ∧ ∀ o, o ≠ 16 → o ≠ 41 → r.2 o = A o) (fun f i a hi ha => by
      obtain ⟨a1, a2⟩ := a
      obtain ⟨rfl, g⟩ := ha
      simp only at g
      have hI : Inv5 a2 B n k c b := Inv5_scr h0 (scrA_of (fun o q1 _ _ q4 _ _ _ => g o q1 q4)) rfl
      have e39 : a2 39 i = B 149 (80 + i) := by rw [g 39 (by decide) (by decide)]; exact (h0.1.1.2 i hi).2.2
      left
      (try dsimp only)
      rw [f93_l4, g 1 (by decide) (by decide), h11, if_pos ((zn_lt (by omega) (by omega)).mpr hi), if_pos ((zn_zin (by omega)).mpr (by omega)), zn_zi (by omega), e39, zadd1]
      obtain ⟨A1, b1, b2⟩ := ask_cls (u := 0) (W := 256) (W' := 20) hI hi (by decide) (Or.inl ⟨rfl, rfl⟩)
      obtain ⟨q, hq, e1, e2⟩ := ask20 (B 149) i
      by_cases hv : B 149 (80 + i) = zn p
      · rw [if_pos hv, show (0 : Int32) = zn 0 from rfl, b1]
        refine ⟨(zn (sSum (B 149) (fun v => B 149 (80 + v)) p (i + 1)), A1), ⟨rfl, fun o h1 h2 => (b2 o h1 h2).trans (g o h1 h2)⟩, ?_⟩
        simp only [Option.bind_some, zlet, sSum, if_pos hv]
        rw [e1, zn_add, zn_zi (by omega)]
      · rw [if_neg hv]
        refine ⟨(zn (sSum (B 149) (fun v => B 149 (80 + v)) p (i + 1)), a2), ⟨rfl, g⟩, ?_⟩
        simp only [sSum, if_neg hv, Nat.add_zero]) (fun f a ha => by
      obtain ⟨a1, a2⟩ := a
      obtain ⟨rfl, g⟩ := ha
      simp only at g
      refine ⟨(zn (sSum (B 149) (fun v => B 149 (80 + v)) p n), a2), ⟨rfl, g⟩, ?_⟩
      (try dsimp only)
      rw [f93_l4, g 1 (by decide) (by decide), h11, if_neg (by rw [zn_lt (by omega) (by omega)]; omega)]) zfu 0 (0, A) (by omega) (by rw [zfu_eq]; omega) ⟨rfl, fun _ _ _ => rfl⟩
  refine ⟨r2, ?_, h3⟩
  have h1 : f93_l4 (zn p) zfu 0 0 A = some (r1, r2) := h1
  rw [f93_weightsNaming, h1]
  simp only at h2
  rw [h2]
  rfl
theorem sync_of (x y : Int32) : sync (f92_of x y) (f229_of x y) := sync_q (by
  intro A B n k c b h0
  have hn10 := h0.2.1.1.1
  have same : ∀ v, f92_of x y A = some (v, A) → f229_of x y B = some (v, B) → ∃ v A' B', f92_of x y A = some (v, A') ∧ f229_of x y B = some (v, B') ∧ scrA A A' ∧ scrB B B' ∧ (∀ o, 148 ≤ o → A' o = A o) ∧ ∀ o, o < 148 → B' o = B o := fun v e1 e2 => ⟨v, A, B, e1, e2, scrA_refl A, scrB_refl B, fun _ _ => rfl, fun _ _ => rfl⟩
  rcases has_eq h0 x with ⟨p, hp, rfl, e1, e2⟩ | ⟨e1, e2⟩
  case inr => exact same (-2) (by unfold f92_of; rw [e1]; rfl) (by unfold f229_of; rw [e2]; rfl)
  have hz : zin (zn p) 10 = true := (zn_zin (by omega)).mpr (by omega)
  have zz : zi (zn p) = p := zn_zi (by omega)
  have hy : ∀ d, d ≤ 80 → zin (zn d + zn p) 2064 = true := fun d hd => by rw [zn_add]; exact (zn_zin (by omega)).mpr (by omega)
  have yy : ∀ d, d ≤ 80 → zi (zn d + zn p) = d + p := fun d hd => by rw [zn_add, zn_zi (by omega)]
  obtain ⟨f1, f2, f3⟩ := h0.1.1.2 p hp
  obtain ⟨m1, m2, m3, m4⟩ := h0.2.2.1.2 p hp
  have cls : f92_of (zn p) y A = (if y = (0 : Int32) then some (A 3 p, A) else if y = (1 : Int32) then some (A 37 p, A) else if y = (2 : Int32) then some (A 38 p, A) else if y = (3 : Int32) then some (A 4 p, A) else if y = (4 : Int32) then some (A 5 p, A) else if y = (5 : Int32) then some (A 39 p, A) else if y = (6 : Int32) then some (A 6 p, A) else if y = (7 : Int32) then f27_asks 1 2 256 (zn p) 0 A else if y = (8 : Int32) then f93_weightsNaming (zn p) A else some (-2, A)) := by
    have e : ∀ o : Option (Int32 × ZI), (o.bind fun (x : Int32 × ZI) => some (x.1, x.2)) = o := fun o => by cases o <;> rfl
    unfold f92_of
    rw [e1]
    simp only [Option.bind_some, hz, zz, ↓reduceIte]
    rw [if_neg (by decide)]
    simp only [e]
  have ref : f229_of (zn p) y B = (if y = (0 : Int32) then some (B 149 (17 + p), B) else if y = (1 : Int32) then some (B 149 (60 + p), B) else if y = (2 : Int32) then some (B 149 (70 + p), B) else if y = (3 : Int32) then some (B 149 (27 + p), B) else if y = (4 : Int32) then some (B 149 (37 + p), B) else if y = (5 : Int32) then some (B 149 (80 + p), B) else if y = (6 : Int32) then some (B 149 (7 + p), B) else if y = (7 : Int32) then f207_weightOf (zn p) B else if y = (8 : Int32) then f206_sumFor (zn p) B else some (-2, B)) := by
    have e : ∀ o : Option (Int32 × ZI), (o.bind fun (x : Int32 × ZI) => some (x.1, x.2)) = o := fun o => by cases o <;> rfl
    unfold f229_of
    rw [e2]
    simp only [Option.bind_some, show zin (17 + zn p) 2064 = true from hy 17 (by decide), show zi (17 + zn p) = 17 + p from yy 17 (by decide), show zin (60 + zn p) 2064 = true from hy 60 (by decide), show zi (60 + zn p) = 60 + p from yy 60 (by decide), show zin (70 + zn p) 2064 = true from hy 70 (by decide), show zi (70 + zn p) = 70 + p from yy 70 (by decide), show zin (27 + zn p) 2064 = true from hy 27 (by decide), show zi (27 + zn p) = 27 + p from yy 27 (by decide), show zin (37 + zn p) 2064 = true from hy 37 (by decide), show zi (37 + zn p) = 37 + p from yy 37 (by decide), show zin (80 + zn p) 2064 = true from hy 80 (by decide), show zi (80 + zn p) = 80 + p from yy 80 (by decide), show zin (7 + zn p) 2064 = true from hy 7 (by decide), show zi (7 + zn p) = 7 + p from yy 7 (by decide), ↓reduceIte]
    rw [if_neg (by decide)]
    simp only [e]
  by_cases c0 : y = 0
  · exact same _ (by rw [cls, if_pos c0]) (by rw [ref, if_pos c0, ← m1])
  by_cases c1 : y = 1
  · exact same _ (by rw [cls, if_neg c0, if_pos c1]) (by rw [ref, if_neg c0, if_pos c1, ← f1])
  by_cases c2 : y = 2
  · exact same _ (by rw [cls, if_neg c0, if_neg c1, if_pos c2]) (by rw [ref, if_neg c0, if_neg c1, if_pos c2, ← f2])
  by_cases c3 : y = 3
  · exact same _ (by rw [cls, if_neg c0, if_neg c1, if_neg c2, if_pos c3]) (by rw [ref, if_neg c0, if_neg c1, if_neg c2, if_pos c3, ← m2])
  by_cases c4 : y = 4
  · exact same _ (by rw [cls, if_neg c0, if_neg c1, if_neg c2, if_neg c3, if_pos c4]) (by rw [ref, if_neg c0, if_neg c1, if_neg c2, if_neg c3, if_pos c4, ← m3])
  by_cases c5 : y = 5
  · exact same _ (by rw [cls, if_neg c0, if_neg c1, if_neg c2, if_neg c3, if_neg c4, if_pos c5]) (by rw [ref, if_neg c0, if_neg c1, if_neg c2, if_neg c3, if_neg c4, if_pos c5, ← f3])
  by_cases c6 : y = 6
  · exact same _ (by rw [cls, if_neg c0, if_neg c1, if_neg c2, if_neg c3, if_neg c4, if_neg c5, if_pos c6]) (by rw [ref, if_neg c0, if_neg c1, if_neg c2, if_neg c3, if_neg c4, if_neg c5, if_pos c6, ← m4])
  by_cases c7 : y = 7
  · obtain ⟨A', a1, a2⟩ := ask_cls (u := 0) (W := 256) (W' := 20) h0 hp (by decide) (Or.inl ⟨rfl, rfl⟩)
    obtain ⟨B', b1, b2⟩ := weight_ref (M := B) rfl hp (ask_of h0.2.1) h0.2.2.2.1
    exact q_ask (v := sAsk (B 149) 20 p 0) ⟨A', by rw [cls, if_neg c0, if_neg c1, if_neg c2, if_neg c3, if_neg c4, if_neg c5, if_neg c6, if_pos c7]; exact a1, fun o q1 q2 _ _ => a2 o q1 q2⟩ ⟨B', by rw [ref, if_neg c0, if_neg c1, if_neg c2, if_neg c3, if_neg c4, if_neg c5, if_neg c6, if_pos c7]; exact b1, b2⟩
  by_cases c8 : y = 8
  · obtain ⟨A', a1, a2⟩ := sum_cls2 (p := p) h0
    obtain ⟨B', b1, b2⟩ := sum_ref (M := B) (p := p) rfl (ask_of h0.2.1) h0.2.2.2.1
    exact q_ask ⟨A', by rw [cls, if_neg c0, if_neg c1, if_neg c2, if_neg c3, if_neg c4, if_neg c5, if_neg c6, if_neg c7, if_pos c8]; exact a1, fun o q1 q2 _ _ => a2 o q1 q2⟩ ⟨B', by rw [ref, if_neg c0, if_neg c1, if_neg c2, if_neg c3, if_neg c4, if_neg c5, if_neg c6, if_neg c7, if_pos c8]; exact b1, b2⟩
  · exact same (-2) (by rw [cls, if_neg c0, if_neg c1, if_neg c2, if_neg c3, if_neg c4, if_neg c5, if_neg c6, if_neg c7, if_neg c8]) (by rw [ref, if_neg c0, if_neg c1, if_neg c2, if_neg c3, if_neg c4, if_neg c5, if_neg c6, if_neg c7, if_neg c8]))
theorem sync_after (x y z : Int32) : sync (f94_after x y z) (f230_after x y z) := sync_q (by
  intro A B n k c b h0
  have same : ∀ v, f94_after x y z A = some (v, A) → f230_after x y z B = some (v, B) → ∃ v A' B', f94_after x y z A = some (v, A') ∧ f230_after x y z B = some (v, B') ∧ scrA A A' ∧ scrB B B' ∧ (∀ o, 148 ≤ o → A' o = A o) ∧ ∀ o, o < 148 → B' o = B o := fun v e1 e2 => ⟨v, A, B, e1, e2, scrA_refl A, scrB_refl B, fun _ _ => rfl, fun _ _ => rfl⟩
  rcases has_eq h0 x with ⟨p, hp, rfl, e1, e2⟩ | ⟨e1, e2⟩
  case inr => exact same (-1) (by unfold f94_after; rw [e1]; rfl) (by unfold f230_after; rw [e2]; rfl)
  rcases within_ex (x := y) (lo := 0) (hi := 24) (by decide) (by decide) with ⟨u, -, hu, rfl, e3, e4⟩ | ⟨e3, e4⟩
  case inr => exact same (-1) (by unfold f94_after; rw [e1, show f13_within y 0 24 = some 0 from e3]; rfl) (by unfold f230_after; rw [e2, show f149_isIn y 0 24 = some 0 from e4]; rfl)
  by_cases hz : z = 0
  · obtain ⟨A', a1, a2⟩ := ask_cls (u := u) (W := 257) (W' := 21) h0 hp hu (Or.inr (Or.inl ⟨rfl, rfl⟩))
    obtain ⟨B', b1, b2⟩ := wear_ref (M := B) (u := u) rfl hp h0.2.1 h0.2.2.2.1
    refine q_ask (v := sAsk (B 149) 21 p u) ⟨A', ?_, fun o q1 q2 _ _ => a2 o q1 q2⟩ ⟨B', ?_, b2⟩
    · unfold f94_after
      rw [e1, show f13_within (zn u) 0 24 = some 1 from e3]
      simp only [Option.bind_some]
      rw [if_neg (by decide), if_neg (by decide), if_pos hz]
      simp only [Option.bind_some]
      rw [a1]
      rfl
    · unfold f230_after
      rw [e2, show f149_isIn (zn u) 0 24 = some 1 from e4]
      simp only [Option.bind_some]
      rw [if_neg (by decide), if_neg (by decide), if_pos hz, b1]
      rfl
  · obtain ⟨A', a1, a2⟩ := ask_cls (u := u) (W := 258) (W' := 22) h0 hp hu (Or.inr (Or.inr ⟨rfl, rfl⟩))
    obtain ⟨B', b1, b2⟩ := notice_ref (M := B) (u := u) rfl hp h0.2.1 h0.2.2.2.1
    refine q_ask (v := sAsk (B 149) 22 p u) ⟨A', ?_, fun o q1 q2 _ _ => a2 o q1 q2⟩ ⟨B', ?_, b2⟩
    · unfold f94_after
      rw [e1, show f13_within (zn u) 0 24 = some 1 from e3]
      simp only [Option.bind_some]
      rw [if_neg (by decide), if_neg (by decide), if_neg hz]
      simp only [Option.bind_some]
      rw [a1]
      rfl
    · unfold f230_after
      rw [e2, show f149_isIn (zn u) 0 24 = some 1 from e4]
      simp only [Option.bind_some]
      rw [if_neg (by decide), if_neg (by decide), if_neg hz, b1]
      rfl)
/-- rows that differ in the VOICES alone -/
def rowV (w w' : Nat → Int32) : Prop := ∀ j, ¬ (80 ≤ j ∧ j < 90) → w' j = w j
theorem sVal_V {F w w' : Nat → Int32} (h : rowV w w') (a b : Nat) : sVal F w' a b = sVal F w a b := by
  unfold sVal
  rw [sRun_L (fun j hj => h j (by omega))]
theorem sFind_V {F w w' : Nat → Int32} {word : Int32} (h : rowV w w') : ∀ d i, sFind F w' word d i = sFind F w word d i
  | 0, _ => rfl
  | d + 1, i => by
    unfold sFind sSo
    rw [sVal_V h, h _ (by omega), h _ (by omega), h _ (by omega), sFind_V h d (i + 1)]
theorem sAsk_V {w w' : Nat → Int32} {W : Int32} {p u : Nat} (h : rowV w w') (hp : p < 10) : sAsk w' W p u = sAsk w W p u := by
  have hF : sF w' p (zn u) = sF w p (zn u) := by
    funext j
    unfold sF
    split <;> first | rfl | exact h _ (by omega) | (rw [h _ (by omega)])
  unfold sAsk sSays
  rw [hF, h 58 (by omega), sFind_V h]
  cases sFind (sF w p (zn u)) w W (zi (w 58)) 0 with
  | none => rfl
  | some i => simp only [sLine]; rw [h _ (by omega), h _ (by omega), sVal_V h]
theorem sSat_V {w w' : Nat → Int32} {S : Nat} (h : rowV w w') (hr : ruleOk w) : sSat w' S = sSat w S := by
  obtain ⟨c, hc, h54, -⟩ := hr
  unfold sSat
  rw [h 54 (by omega), h54, zn_zi (by omega), cRun_C (fun j q1 q2 => h j (by omega)) c 0 [] (by omega)]
theorem sSum_V {w w' vo : Nat → Int32} {p : Nat} (h : rowV w w') : ∀ m, m ≤ 10 → sSum w' vo p m = sSum w vo p m
  | 0, _ => rfl
  | m + 1, hm => by
    unfold sSum
    rw [sSum_V h m (by omega), sAsk_V h (by omega)]
theorem sGiv_V {w w' vo : Nat → Int32} {n : Nat} (h : rowV w w') (hr : ruleOk w) (hn : n ≤ 10) : ∀ i, i ≤ n → sGiv w' vo n i = sGiv w vo n i
  | 0, _ => rfl
  | i + 1, hi => by
    have hb : ∀ q, (∀ x, q = some x → x < n) → sBef w' vo n i q = sBef w vo n i q := by
      intro q hq
      cases q with
      | none => rfl
      | some x =>
        have := hq x rfl
        simp only [sBef, sSum_V h n hn]
        rw [h (60 + x) (by omega), h (60 + i) (by omega)]
    unfold sGiv
    rw [sGiv_V h hr hn i (by omega), sSum_V h n hn, sSat_V h hr, hb _ (fun x hx => by
      have := (sGiv_lt w vo n i x hx).1
      omega)]
theorem ask_V {w w' : Nat → Int32} {n c : Nat} (h : rowV w w') (hok : askOk w n c) : askOk w' n c :=
  ⟨hok.1, by rw [h 48 (by omega)]; exact hok.2.1, lawOk_L (h 58 (by omega)) (fun j hj => h j (by omega)) hok.2.2.1, ruleOk_C (h 53 (by omega)) (h 54 (by omega)) (fun j q1 q2 => h j (by omega)) hok.2.2.2⟩
theorem sync_can (x : Int32) : sync (f101_can x) (f241_can x) := sync_q (by
  intro A B n k c b h0
  have hn10 := h0.2.1.1.1
  have h48 := h0.2.1.1.2.1
  have h11 : A 1 11 = zn n := h0.1.1.1.1.trans h48
  have hru := h0.2.1.2.2.2.1
  rcases has_eq h0 x with ⟨p, hp, rfl, e1, e2⟩ | ⟨e1, e2⟩
  case inr => exact ⟨-1, A, B, by unfold f101_can; rw [e1]; rfl, by unfold f241_can; rw [e2]; rfl, scrA_refl A, scrB_refl B, fun _ _ => rfl, fun _ _ => rfl⟩
  obtain ⟨A1, a1, a2, a3⟩ := weigh_cls (Or.inl rfl) h0.1 h0.2.1 h0.2.2.1 h0.2.2.2.1
  have z80 : (80 : Int32) + zn p = zn (80 + p) := zn_add 80 p
  have hz : zin (zn (80 + p)) 2064 = true := (zn_zin (by omega)).mpr (by omega)
  have zz : zi (zn (80 + p)) = 80 + p := zn_zi (by omega)
  -- from other = -1 on: the counter is one ahead
  have step : ∀ (A2 B2 : ZI) (o : Int32), o ≠ zn p → (∀ q, q ≠ 16 → q ≠ 41 → q ≠ 40 → q ≠ 33 → A2 q = A q) → A2 40 = A1 40 → (∀ q, q ≠ 149 → q ≠ 159 → q ≠ 160 → B2 q = B q) → rowV (B 149) (B2 149) → (∀ j, j ≠ 80 + p → B2 149 j = B 149 j) → ∃ (A3 B3 : ZI) (g : Option Nat), f36_elect 1 (zn p) o A2 = some (optI g, A3) ∧ f205_givenNow (zs B2 149 (80 + p) o) = some (optI g, B3) ∧ (∀ q, g = some q → q < n) ∧ (∀ q, q ≠ 16 → q ≠ 41 → q ≠ 40 → q ≠ 33 → A3 q = A q) ∧ A3 40 = A1 40 ∧ (∀ q, q ≠ 149 → q ≠ 159 → q ≠ 160 → B3 q = B q) ∧ rowV (B 149) (B3 149) ∧ ∀ j, j ≠ 80 + p → B3 149 j = B 149 j := by
    intro A2 B2 o ho g1 g2 g3 g4 g5
    have hf : fixIs A2 1 (B 149) n k c b := fixIs_of h0.1 (fun q hq => g1 q (by omega) (by omega) (by omega) (by omega))
    obtain ⟨A3, c1, c2⟩ := elect_cls (voter := zn p) (other := o) hf h0.2.1 h0.2.2.2.1 (fun v hv => by rw [g2]; exact a2 v hv)
    have e149 : ∀ j, (zs B2 149 (80 + p) o) 149 j = if j = 80 + p then o else B2 149 j := fun j => zs_sm _ _ _ _ _
    have hV : rowV (B 149) ((zs B2 149 (80 + p) o) 149) := fun j hj => by rw [e149, if_neg (by omega)]; exact g4 j hj
    obtain ⟨B3, d1, d2⟩ := giv_ref (M := zs B2 149 (80 + p) o) rfl (ask_V hV (ask_of h0.2.1)) (momOk_row h0.2.2.2.1 hn10 (fun j hj => hV j (by omega)))
    have hg : sGiv ((zs B2 149 (80 + p) o) 149) (fun v => (zs B2 149 (80 + p) o) 149 (80 + v)) n n = sGiv (B 149) (sVo (B 149) (zn p) o) n n := by
      rw [sGiv_V hV hru hn10 n (Nat.le_refl _)]
      refine sGiv_congr (fun v hv => ?_) n
      show (zs B2 149 (80 + p) o) 149 (80 + v) = sVo (B 149) (zn p) o v
      unfold sVo
      rw [e149]
      by_cases hvp : v = p
      · rw [if_pos (by omega), if_pos (by rw [hvp])]
      · rw [if_neg (by omega), if_neg (by rw [zn_eq (by omega) (by omega)]; exact hvp), g5 _ (by omega)]
    rw [hg] at d1
    refine ⟨A3, B3, _, c1, d1, fun q hq => (sGiv_lt _ _ _ _ _ hq).1, fun q q1 q2 q3 q4 => (c2 q q4).trans (g1 q q1 q2 q3 q4), (c2 40 (by decide)).trans g2, fun q q1 q2 q3 => (d2 q q2 q3).trans ((zs_df q1).trans (g3 q q1 q2 q3)), ?_, ?_⟩
    · rw [d2 149 (by decide) (by decide)]; exact hV
    · intro j hj
      rw [d2 149 (by decide) (by decide), e149, if_neg hj]
      exact g5 j hj
  have opt : ∀ g : Option Nat, (∀ q, g = some q → q < n) → (optI g < 0 ↔ optI g = -1) := by
    intro g hg
    cases g with
    | none => exact ⟨fun _ => rfl, fun _ => by decide⟩
    | some q =>
      have := hg q rfl
      exact ⟨fun h => absurd h (zn_nneg (by omega)), fun h => absurd h (zn_ne_neg (by omega))⟩
  obtain ⟨mf, hmf, hmf2⟩ : ∃ m, zfu = m + 1 ∧ 10 < m := ⟨99999, rfl, by decide⟩
  -- the first: nobody
  obtain ⟨A2, B2, g, c1, d1, c3, c4, c5, c6, c7, c8⟩ := step A1 B (-1) (fun h => zn_ne_neg (by omega) h.symm) (fun q q1 q2 q3 _ => a3 q q1 q2 q3) rfl (fun _ _ _ _ => rfl) (fun _ _ => rfl) (fun _ _ => rfl)
  obtain ⟨⟨r1, A9⟩, ⟨r2, B9⟩, k1, k2, k3, k4, k5, k6, k7⟩ := zpair (fun f (a : Int32 × ZI) c => f101_l31 (zn p) f a.1 c a.2) (fun f (a : Int32 × ZI) c => f241_l25 (zn p) f a.1 c a.2) n (fun i a d => a.1 = d.1 ∧ (∀ q, q ≠ 16 → q ≠ 41 → q ≠ 40 → q ≠ 33 → a.2 q = A q) ∧ a.2 40 = A1 40 ∧ (∀ q, q ≠ 149 → q ≠ 159 → q ≠ 160 → d.2 q = B q) ∧ rowV (B 149) (d.2 149) ∧ ∀ j, j ≠ 80 + p → d.2 149 j = B 149 j) (fun a d => a.1 = d.1 ∧ (∀ q, q ≠ 16 → q ≠ 41 → q ≠ 40 → q ≠ 33 → a.2 q = A q) ∧ (∀ q, q ≠ 149 → q ≠ 159 → q ≠ 160 → d.2 q = B q) ∧ (∀ j, j ≠ 80 + p → d.2 149 j = B 149 j) ∧ True) (fun f i a d hi had => by
      obtain ⟨x1, A3⟩ := a
      obtain ⟨x2, B3⟩ := d
      obtain ⟨rfl, g1, g2, g3, g4, g5⟩ := had
      simp only at g1 g2 g3 g4 g5
      have hlt : zn i < zn n := (zn_lt (by omega) (by omega)).mpr hi
      have e48 : B3 149 48 = zn n := (g4 48 (by omega)).trans h48
      have e11 : A3 1 11 = zn n := by rw [g1 1 (by decide) (by decide) (by decide) (by decide)]; exact h11
      left
      (try dsimp only)
      rw [f101_l31, f241_l25, e11, e48, if_pos hlt, if_pos hlt, zadd1]
      by_cases hip : i = p
      · rw [if_pos (by rw [hip]), if_pos (by rw [hip])]
        simp only [Option.bind_some]
        rw [if_pos (by decide)]
        exact ⟨(x1, A3), (x1, B3), ⟨rfl, g1, g2, g3, g4, g5⟩, rfl, rfl⟩
      · have hip' : ¬ zn i = zn p := by rw [zn_eq (by omega) (by omega)]; exact hip
        obtain ⟨A4, B4, g', c1, d1, c3, c4, c5, c6, c7, c8⟩ := step A3 B3 (zn i) hip' g1 g2 g3 g4 g5
        rw [if_neg hip', if_neg hip', z80, if_pos hz, zz, c1]
        simp only [Option.bind_some, zlet]
        rw [d1]
        simp only [Option.bind_some]
        by_cases hg : optI g' = -1
        · rw [if_pos ((opt g' c3).mpr hg), if_pos hg]
          exact ⟨(x1, A4), (x1, B4), ⟨rfl, c4, c5, c6, c7, c8⟩, rfl, by rw [Int32.or_zero]⟩
        · rw [if_neg (fun h => hg ((opt g' c3).mp h)), if_neg hg]
          exact ⟨(x1 ||| zshl 1 (optI g'), A4), (x1 ||| zshl 1 (optI g'), B4), ⟨rfl, c4, c5, c6, c7, c8⟩, rfl, rfl⟩) (fun f a d had => by
      obtain ⟨x1, A3⟩ := a
      obtain ⟨x2, B3⟩ := d
      obtain ⟨rfl, g1, g2, g3, g4, g5⟩ := had
      simp only at g1 g2 g3 g4 g5
      have e48 : B3 149 48 = zn n := (g4 48 (by omega)).trans h48
      have e11 : A3 1 11 = zn n := by rw [g1 1 (by decide) (by decide) (by decide) (by decide)]; exact h11
      refine ⟨(x1, A3), (x1, B3), ⟨rfl, g1, g3, g5, trivial⟩, ?_, ?_⟩
      · (try dsimp only)
        rw [f101_l31, e11, if_neg (by rw [zn_lt (by omega) (by omega)]; omega)]
      · (try dsimp only)
        rw [f241_l25, e48, if_neg (by rw [zn_lt (by omega) (by omega)]; omega)]) mf 0 (if optI g = -1 then 0 else 0 ||| zshl 1 (optI g), A2) (if optI g = -1 then 0 else 0 ||| zshl 1 (optI g), B2) (by omega) (by omega) ⟨rfl, c4, c5, c6, c7, c8⟩
  simp only at k3 k4 k5 k6
  subst k3
  have first : ∀ hneg : (-1 : Int32) < zn n, f101_l31 (zn p) zfu 0 (-1) A1 = some (r1, A9) ∧ f241_l25 (zn p) zfu 0 (-1) B = some (r1, B9) := by
    intro hneg
    have k1 : f101_l31 (zn p) mf (if optI g = -1 then 0 else 0 ||| zshl 1 (optI g)) 0 A2 = some (r1, A9) := k1
    have k2 : f241_l25 (zn p) mf (if optI g = -1 then 0 else 0 ||| zshl 1 (optI g)) 0 B2 = some (r1, B9) := k2
    have e11 : A1 1 11 = zn n := by rw [a3 1 (by decide) (by decide) (by decide)]; exact h11
    have hne : ¬ (-1 : Int32) = zn p := zn_ne_neg' (by omega)
    constructor
    · rw [hmf, f101_l31, e11, if_pos hneg, if_neg hne, c1]
      simp only [Option.bind_some, zlet]
      rw [show (-1 : Int32) + 1 = 0 from rfl]
      by_cases hg : optI g = -1
      · rw [if_pos hg] at k1
        rw [if_pos ((opt g c3).mpr hg)]; exact k1
      · rw [if_neg hg] at k1
        rw [if_neg (fun h => hg ((opt g c3).mp h))]; exact k1
    · rw [hmf, f241_l25, h48, if_pos hneg, if_neg hne, z80, if_pos hz, zz]
      simp only [zlet]
      rw [d1]
      simp only [Option.bind_some]
      rw [show (-1 : Int32) + 1 = 0 from rfl]
      by_cases hg : optI g = -1
      · rw [if_pos hg] at k2
        rw [if_pos hg, Int32.or_zero]; exact k2
      · rw [if_neg hg] at k2
        rw [if_neg hg]; exact k2
  obtain ⟨l1, l2⟩ := first (neg_lt_zn (by omega))
  refine ⟨r1, A9, zs B9 149 (80 + p) (B 149 (80 + p)), ?_, ?_, scrA_of (fun o q1 q2 q3 q4 _ _ _ => k4 o q1 q4 q3 q2), ⟨fun o q1 q2 q3 q4 q5 => ?_, fun j hj => by rw [zs_df (by decide), k5 148 (by decide) (by decide) (by decide)]⟩, fun o ho => k4 o (by omega) (by omega) (by omega) (by omega), fun o ho => (zs_df (by omega)).trans (k5 o (by omega) (by omega) (by omega))⟩
  · unfold f101_can
    rw [e1]
    simp only [Option.bind_some]
    rw [if_neg (by decide), a1]
    simp only [Option.bind_some]
    rw [l1]
    rfl
  · unfold f241_can
    rw [e2]
    simp only [Option.bind_some]
    rw [if_neg (by decide), z80, if_pos hz, zz]
    simp only [zlet]
    rw [l2]
    simp only [Option.bind_some]
    rw [if_pos hz]
  · by_cases h149 : o = 149
    · subst h149
      funext j
      rw [zs_sm]
      by_cases hj : j = 80 + p
      · rw [if_pos hj, hj]
      · rw [if_neg hj]; exact k6 j hj
    · rw [zs_df h149]
      exact k5 o h149 q3 q4)
end
section
-- ===== sets of PEOPLE put to THE COUNCIL: does, fewest, hinge, doers; clique, way =====
theorem zn_surj (x : Int32) : ∃ j, x = zn j := ⟨x.toBitVec.toNat, Int32.toBitVec_inj.1 (by
  show x.toBitVec = BitVec.ofNat 32 x.toBitVec.toNat
  simp)⟩
theorem pow_1024 {n : Nat} (h : n ≤ 10) : 2 ^ n ≤ 1024 ∧ 1 ≤ 2 ^ n := ⟨Nat.pow_le_pow_right (n := 2) (by decide) h, Nat.two_pow_pos n⟩
theorem all_zn {n : Nat} (h : n ≤ 10) : zshl 1 (zn n) - 1 = zn (2 ^ n - 1) := by
  have := pow_1024 h
  rw [zl1, zn_shl (by omega), zn_sub (by omega)]
theorem all_cls {A B : ZI} {n k c b : Nat} (h0 : Inv5 A B n k c b) : f98_everyone 1 A = some (zn (2 ^ n - 1)) := by
  unfold f98_everyone
  rw [h0.1.1.1.1, h0.2.1.1.2.1, all_zn h0.2.1.1.1]
theorem all_ref {B : ZI} {n : Nat} (hn : n ≤ 10) (h48 : B 149 48 = zn n) : f234_all B = some (zn (2 ^ n - 1)) := by
  unfold f234_all
  rw [h48, all_zn hn]
theorem sync_does (x : Int32) : sync (f97_does x) (f233_does x) := sync_q (by
  intro A B n k c b h0
  have hn10 := h0.2.1.1.1
  have hp := pow_1024 hn10
  obtain ⟨j, rfl⟩ := zn_surj x
  have hS : j &&& (2 ^ n - 1) < 1024 := Nat.lt_of_le_of_lt Nat.and_le_right (by omega)
  obtain ⟨A', a1, a2⟩ := met_eq (M := A) hS h0.2.1.2.2.2.1 h0.1.2.2.2.1
  obtain ⟨B', b1, b2⟩ := sat_eq (M := B) hS h0.2.1.2.2.2.1 rfl
  have hz : zbl (sSat (B 149) (j &&& (2 ^ n - 1))) = true := by
    rcases sSat_01 h0.2.1.2.2.2.1 hS with h | h <;> rw [h] <;> rfl
  refine q_ask (v := sSat (B 149) (j &&& (2 ^ n - 1))) ⟨A', ?_, fun o _ _ _ q4 => a2 o q4⟩ ⟨B', ?_, fun o q1 _ => b2 o q1⟩
  · unfold f97_does
    rw [all_cls h0]
    simp only [Option.bind_some]
    rw [zn_and, a1]
    simp only [Option.bind_some]
    rw [if_pos hz]
  · unfold f233_does
    rw [all_ref hn10 h0.2.1.1.2.1]
    simp only [Option.bind_some]
    rw [zn_and, b1]
    simp only [Option.bind_some]
    rw [if_pos hz])
theorem fill_cls {A B : ZI} {n k c b : Nat} (h0 : Inv5 A B n k c b) : ∃ A', f103_fillDoing A = some A' ∧ (∀ s, s < 2 ^ n → A' 147 s = sSat (B 149) s) ∧ ∀ o, o ≠ 33 → o ≠ 147 → A' o = A o := by
  have hn10 := h0.2.1.1.1
  have hp := pow_1024 hn10
  have hru := h0.2.1.2.2.2.1
  obtain ⟨m, h1, h2, h3⟩ := zloop (fun f (m : ZI) c => f103_l10 (zn (2 ^ n - 1)) f c m) (2 ^ n) (fun i m => (∀ s, s < i → m 147 s = sSat (B 149) s) ∧ ∀ o, o ≠ 33 → o ≠ 147 → m o = A o) (fun m => (∀ s, s < 2 ^ n → m 147 s = sSat (B 149) s) ∧ ∀ o, o ≠ 33 → o ≠ 147 → m o = A o) (fun f i m hi hm => by
    obtain ⟨g1, g2⟩ := hm
    left
    (try dsimp only)
    obtain ⟨m', a1, a2⟩ := met_eq (M := m) (show i < 1024 by omega) hru (ruleIs_of h0.1.2.2.2.1 (fun o q1 q2 => g2 o (by omega) (by omega)))
    rw [f103_l10, if_neg (by rw [zn_lt (by omega) (by omega)]; omega), if_pos (show zn i < 1024 by rw [zl1024, zn_lt (by omega) (by decide)]; omega), a1, zadd1]
    simp only [Option.bind_some, zlet]
    rw [if_pos ((zn_zin (by omega)).mpr (by omega)), zn_zi (by omega)]
    have hzb : zbo (sSat (B 149) i) = sSat (B 149) i := by
      rcases sSat_01 hru (show i < 1024 by omega) with h | h <;> rw [h] <;> decide
    rw [hzb]
    refine ⟨_, ⟨fun s hs => ?_, fun o q1 q2 => ?_⟩, rfl⟩
    · rw [zs_sm]
      by_cases hsi : s = i
      · rw [if_pos hsi, hsi]
      · rw [if_neg hsi, a2 147 (by decide)]; exact g1 s (by omega)
    · rw [zs_df q2, a2 o q1]; exact g2 o q1 q2) (fun f m hm => by
    refine ⟨m, hm, ?_⟩
    (try dsimp only)
    rw [f103_l10, if_pos (by rw [zn_lt (by omega) (by omega)]; omega)]) zfu 0 A (by omega) (by rw [zfu_eq]; omega) ⟨fun s hs => by omega, fun _ _ _ => rfl⟩
  have h1 : f103_l10 (zn (2 ^ n - 1)) zfu 0 A = some m := h1
  refine ⟨m, ?_, h2, h3⟩
  unfold f103_fillDoing
  rw [all_cls h0]
  simp only [Option.bind_some]
  rw [h1]
  rfl
theorem fill_scr {A A' : ZI} (h : ∀ o, o ≠ 33 → o ≠ 147 → A' o = A o) : scrA A A' := scrA_of (fun o _ q2 _ _ _ q6 _ => h o q2 q6)
theorem sync_fewest (x y : Int32) : sync (f102_fewest x y) (f242_fewest x y) := sync_q (by
  intro A B n k c b h0
  have hn10 := h0.2.1.1.1
  have h48 := h0.2.1.1.2.1
  have hp := pow_1024 hn10
  have hru := h0.2.1.2.2.2.1
  have same : ∀ v, f102_fewest x y A = some (v, A) → f242_fewest x y B = some (v, B) → ∃ v A' B', f102_fewest x y A = some (v, A') ∧ f242_fewest x y B = some (v, B') ∧ scrA A A' ∧ scrB B B' ∧ (∀ o, 148 ≤ o → A' o = A o) ∧ ∀ o, o < 148 → B' o = B o := fun v e1 e2 => ⟨v, A, B, e1, e2, scrA_refl A, scrB_refl B, fun _ _ => rfl, fun _ _ => rfl⟩
  rcases has_eq h0 x with ⟨p, hpn, rfl, e1, e2⟩ | ⟨e1, e2⟩
  case inr => exact same (-1) (by unfold f102_fewest; rw [e1]; rfl) (by unfold f242_fewest; rw [e2]; rfl)
  rcases within_ex (x := y) (lo := 0) (hi := 1) (by decide) (by decide) with ⟨u, -, hu, rfl, e3, e4⟩ | ⟨e3, e4⟩
  case inr => exact same (-1) (by unfold f102_fewest; rw [e1, show f13_within y 0 1 = some 0 from e3]; rfl) (by unfold f242_fewest; rw [e2, show f149_isIn y 0 1 = some 0 from e4]; rfl)
  obtain ⟨A1, a1, a2, a3⟩ := fill_cls h0
  have hI1 : Inv5 A1 B n k c b := Inv5_scr h0 (fill_scr a3) rfl
  obtain ⟨r1, ⟨r2, B2⟩, g1, g2, g3, g4, g5⟩ := zpair (fun f (a : Int32) c => f102_l40 (zn p) A1 (zn (2 ^ n - 1)) f a c) (fun f (d : Int32 × ZI) c => f242_l24 (zn p) f d.1 c d.2) (2 ^ n) (fun i a d => a = d.1 ∧ (a = -1 ∨ ∃ s, s < 1024 ∧ a = zn s) ∧ ∀ o, o ≠ 159 → d.2 o = B o) (fun a d => a = d.1 ∧ (a = -1 ∨ ∃ s, s < 1024 ∧ a = zn s) ∧ ∀ o, o ≠ 159 → d.2 o = B o) (fun f i a d hi had => by
    obtain ⟨d1, B3⟩ := d
    obtain ⟨rfl, hs, g⟩ := had
    simp only at hs g
    left
    (try dsimp only)
    have e48 : B3 149 48 = zn n := by rw [g 149 (by decide)]; exact h48
    have hz : zin (zn i) 1024 = true := (zn_zin (by omega)).mpr (by omega)
    have hng : ¬ zn (2 ^ n - 1) < zn i := by rw [zn_lt (by omega) (by omega)]; omega
    have hlt1 : zn i < 1024 := by rw [zl1024, zn_lt (by omega) (by decide)]; omega
    have h10 : ¬ (1 : Int32) = 0 := by decide
    obtain ⟨B4, b1, b2⟩ := sat_eq (M := B3) (show i < 1024 by omega) hru (g 149 (by decide))
    have gg : ∀ o, o ≠ 159 → B4 o = B o := fun o ho => (b2 o ho).trans (g o ho)
    rw [f102_l40, f242_l24, all_ref hn10 e48, if_neg hng, if_pos hlt1, if_pos hz, zn_zi (by omega), a2 i hi, isIn_zn (by omega) (by omega), zbit (by omega) (by omega), b1, zadd1]
    simp only [Option.bind_some]
    rw [if_neg hng]
    have hbi := bitCount_zn (s := i) (by omega)
    have hci := count_zn (s := i) (by omega)
    rcases sSat_01 hru (show i < 1024 by omega) with h | h
    · rw [h]
      by_cases hb : i.testBit p = true
      · simp only [if_pos hb, if_neg h10, ↓reduceIte]
        exact ⟨a, (a, B3), ⟨rfl, hs, g⟩, rfl, rfl⟩
      · simp only [if_neg hb, ↓reduceIte]
        exact ⟨a, (a, B4), ⟨rfl, hs, gg⟩, rfl, rfl⟩
    · rw [h]
      by_cases hb : i.testBit p = true
      · simp only [if_pos hb, if_neg h10]
        exact ⟨a, (a, B3), ⟨rfl, hs, g⟩, rfl, rfl⟩
      · simp only [if_neg hb, if_neg h10, ↓reduceIte]
        rcases hs with rfl | ⟨s, hs, rfl⟩
        · simp only [↓reduceIte]
          exact ⟨zn i, (zn i, B4), ⟨rfl, Or.inr ⟨i, by omega, rfl⟩, gg⟩, rfl, rfl⟩
        · have hsn : ¬ zn s = -1 := zn_ne_neg (by omega)
          rw [if_neg hsn, if_neg hsn, hbi, hci, bitCount_zn hs, count_zn hs]
          simp only [Option.bind_some]
          by_cases hlt : zn (pop i) < zn (pop s)
          · simp only [if_pos hlt]
            exact ⟨zn i, (zn i, B4), ⟨rfl, Or.inr ⟨i, by omega, rfl⟩, gg⟩, rfl, rfl⟩
          · simp only [if_neg hlt]
            exact ⟨zn s, (zn s, B4), ⟨rfl, Or.inr ⟨s, hs, rfl⟩, gg⟩, rfl, rfl⟩) (fun f a d had => by
    obtain ⟨d1, B3⟩ := d
    obtain ⟨rfl, hs, g⟩ := had
    simp only at hs g
    have e48 : B3 149 48 = zn n := by rw [g 149 (by decide)]; exact h48
    have hyg : zn (2 ^ n - 1) < zn (2 ^ n) := by rw [zn_lt (by omega) (by omega)]; omega
    refine ⟨a, (a, B3), ⟨rfl, hs, g⟩, ?_, ?_⟩
    · (try dsimp only)
      rw [f102_l40, if_pos hyg]
    · (try dsimp only)
      rw [f242_l24, all_ref hn10 e48]
      simp only [Option.bind_some]
      rw [if_pos hyg]) zfu 0 (-1) (-1, B) (by omega) (by rw [zfu_eq]; omega) ⟨rfl, Or.inl rfl, fun _ _ => rfl⟩
  simp only at g3 g5
  subst g3
  have g1 : f102_l40 (zn p) A1 (zn (2 ^ n - 1)) zfu (-1) 0 = some r1 := g1
  have g2 : f242_l24 (zn p) zfu (-1) 0 B = some (r1, B2) := g2
  have hu2 : u = 0 ∨ u = 1 := by omega
  have fin : ∀ v, (f102_fewest (zn p) (zn u) A = some (v, A1)) → f242_fewest (zn p) (zn u) B = some (v, B2) → ∃ v A' B', f102_fewest (zn p) (zn u) A = some (v, A') ∧ f242_fewest (zn p) (zn u) B = some (v, B') ∧ scrA A A' ∧ scrB B B' ∧ (∀ o, 148 ≤ o → A' o = A o) ∧ ∀ o, o < 148 → B' o = B o := fun v h1 h2 => ⟨v, A1, B2, h1, h2, fill_scr a3, scrB_of (fun o _ q2 _ _ => g5 o q2), fun o ho => a3 o (by omega) (by omega), fun o ho => g5 o (by omega)⟩
  have cls : f102_fewest (zn p) (zn u) A = (if r1 = (-1 : Int32) then some ((-1 : Int32), A1) else (if zn u = 0 then (f28_bitCount r1).bind fun v12 => some (v12, A1) else some (r1, A1))) := by
    unfold f102_fewest
    rw [e1, show f13_within (zn u) 0 1 = some 1 from e3]
    simp only [Option.bind_some]
    rw [if_neg (by decide), if_neg (by decide), a1]
    simp only [Option.bind_some]
    rw [all_cls hI1]
    simp only [Option.bind_some]
    rw [g1]
    rfl
  have ref : f242_fewest (zn p) (zn u) B = (if r1 = (-1 : Int32) then some (r1, B2) else (if zn u = (1 : Int32) then some (r1, B2) else (f209_count r1).bind fun v14 => some (v14, B2))) := by
    unfold f242_fewest
    rw [e2, show f149_isIn (zn u) 0 1 = some 1 from e4]
    simp only [Option.bind_some]
    rw [if_neg (by decide), if_neg (by decide), g2]
    rfl
  rcases g4 with rfl | ⟨s, hs, rfl⟩
  · exact fin (-1) (by rw [cls, if_pos rfl]) (by rw [ref, if_pos rfl])
  · rw [if_neg (zn_ne_neg (by omega))] at cls ref
    rcases hu2 with rfl | rfl
    · rw [if_pos (show zn 0 = 0 from rfl), bitCount_zn hs] at cls
      rw [if_neg (show ¬ zn 0 = 1 by decide), count_zn hs] at ref
      exact fin _ cls ref
    · rw [if_neg (show ¬ zn 1 = 0 by decide)] at cls
      rw [if_pos (show zn 1 = 1 from rfl)] at ref
      exact fin _ cls ref)
-- counting
def cntN (f : Nat → Bool) : Nat → Nat → Nat
  | _, 0 => 0
  | a, d + 1 => cntN f a d + (if f (a + d) = true then 1 else 0)
theorem cntN_add (f : Nat → Bool) (a : Nat) : ∀ d e, cntN f a (d + e) = cntN f a d + cntN f (a + d) e
  | d, 0 => rfl
  | d, e + 1 => by
    have e1 : cntN f a (d + (e + 1)) = cntN f a (d + e) + (if f (a + (d + e)) = true then 1 else 0) := rfl
    have e2 : cntN f (a + d) (e + 1) = cntN f (a + d) e + (if f (a + d + e) = true then 1 else 0) := rfl
    rw [e1, e2, cntN_add f a d e, Nat.add_assoc a d e, Nat.add_assoc]
theorem cntN_le (f : Nat → Bool) (a : Nat) : ∀ d, cntN f a d ≤ d
  | 0 => Nat.le_refl _
  | d + 1 => by
    have := cntN_le f a d
    unfold cntN
    split <;> omega
theorem cntN_eq {f g : Nat → Bool} {a e : Nat} : ∀ d, (∀ j, j < d → f (a + j) = g (e + j)) → cntN f a d = cntN g e d
  | 0, _ => rfl
  | d + 1, h => by
    unfold cntN
    rw [cntN_eq d (fun j hj => h j (by omega)), h d (by omega)]
theorem cntN_no {f : Nat → Bool} {a : Nat} : ∀ d, (∀ j, j < d → f (a + j) = false) → cntN f a d = 0
  | 0, _ => rfl
  | d + 1, h => by
    unfold cntN
    rw [cntN_no d (fun j hj => h j (by omega)), h d (by omega)]
    rfl
theorem tb_split {p t j : Nat} (hj : j < 2 ^ p) : (2 ^ (p + 1) * t + j).testBit p = false ∧ (2 ^ (p + 1) * t + 2 ^ p + j).testBit p = true ∧ (2 ^ (p + 1) * t + 2 ^ p + j) ^^^ 2 ^ p = 2 ^ (p + 1) * t + j ∧ (2 ^ (p + 1) * t + j) ||| 2 ^ p = 2 ^ (p + 1) * t + 2 ^ p + j := by
  have h1 : (2 ^ (p + 1) * t + j).testBit p = false := by
    rw [Nat.testBit_eq_decide_div_mod_eq, show 2 ^ (p + 1) * t + j = 2 ^ p * (2 * t) + j by rw [Nat.pow_succ, Nat.mul_assoc], Nat.mul_add_div (Nat.two_pow_pos p), Nat.div_eq_of_lt hj]
    simp
  have h2 : (2 ^ (p + 1) * t + j) ||| 2 ^ p = 2 ^ (p + 1) * t + 2 ^ p + j := by
    have e : 2 ^ (p + 1) * t + j = 2 ^ p * (2 * t) + j := by rw [Nat.pow_succ, Nat.mul_assoc]
    have e2 : 2 ^ (p + 1) * t + 2 ^ p + j = 2 ^ p * (2 * t + 1) + j := by rw [Nat.pow_succ, Nat.mul_assoc, Nat.mul_add]; omega
    rw [e, e2]
    apply Nat.eq_of_testBit_eq
    intro i
    rw [Nat.testBit_or, Nat.testBit_two_pow, Nat.testBit_two_pow_mul_add _ hj, Nat.testBit_two_pow_mul_add _ hj]
    by_cases hip : i < p
    · rw [if_pos hip, if_pos hip]
      have : ¬ p = i := by omega
      simp [this]
    · rw [if_neg hip, if_neg hip]
      by_cases hip2 : i = p
      · subst hip2
        simp
      · have h3 : ¬ p = i := fun h => hip2 h.symm
        obtain ⟨q, rfl⟩ : ∃ q, i = p + (q + 1) := ⟨i - p - 1, by omega⟩
        rw [show p + (q + 1) - p = q + 1 by omega, Nat.testBit_succ, Nat.testBit_succ, show 2 * t / 2 = t by omega, show (2 * t + 1) / 2 = t by omega]
        simp
  have h3 : (2 ^ (p + 1) * t + 2 ^ p + j).testBit p = true := by
    rw [← h2, Nat.testBit_or, Nat.testBit_two_pow]
    simp
  refine ⟨h1, h3, ?_, h2⟩
  rw [← h2]
  apply Nat.eq_of_testBit_eq
  intro i
  rw [Nat.testBit_xor, Nat.testBit_or, Nat.testBit_two_pow]
  by_cases hip : p = i
  · subst hip
    rw [h1]
    simp
  · simp [hip]
theorem cnt_hinge {f g : Nat → Bool} {p : Nat} (hf : ∀ s, s.testBit p = false → f s = false) (hg : ∀ s, s.testBit p = true → g s = false) (hfg : ∀ s, s.testBit p = true → f s = g (s ^^^ 2 ^ p)) : ∀ m, cntN f 0 (2 ^ (p + 1) * m) = cntN g 0 (2 ^ (p + 1) * m)
  | 0 => rfl
  | m + 1 => by
    have hX : ∀ h : Nat → Bool, cntN h 0 (2 ^ (p + 1) * (m + 1)) = cntN h 0 (2 ^ (p + 1) * m) + (cntN h (2 ^ (p + 1) * m) (2 ^ p) + cntN h (2 ^ (p + 1) * m + 2 ^ p) (2 ^ p)) := fun h => by
      rw [show 2 ^ (p + 1) * (m + 1) = 2 ^ (p + 1) * m + (2 ^ p + 2 ^ p) by rw [Nat.mul_add, Nat.mul_one, Nat.pow_succ]; omega, cntN_add, Nat.zero_add, cntN_add]
    have e1 : cntN f (2 ^ (p + 1) * m) (2 ^ p) = 0 := cntN_no (2 ^ p) (fun j hj => hf _ (tb_split hj).1)
    have e2 : cntN g (2 ^ (p + 1) * m + 2 ^ p) (2 ^ p) = 0 := cntN_no (2 ^ p) (fun j hj => hg _ (tb_split hj).2.1)
    have e3 : cntN f (2 ^ (p + 1) * m + 2 ^ p) (2 ^ p) = cntN g (2 ^ (p + 1) * m) (2 ^ p) := cntN_eq (2 ^ p) (fun j hj => by
      obtain ⟨s1, s2, s3, s4⟩ := tb_split (p := p) (t := m) hj
      rw [hfg _ s2, s3])
    rw [hX f, hX g, e1, e2, e3, cnt_hinge hf hg hfg m]
    omega
theorem sync_hinge (x : Int32) : sync (f104_hinge x) (f245_hinge x) := sync_q (by
  intro A B n k c b h0
  have hn10 := h0.2.1.1.1
  have h48 := h0.2.1.1.2.1
  have hp := pow_1024 hn10
  have hru := h0.2.1.2.2.2.1
  rcases has_eq h0 x with ⟨p, hpn, rfl, e1, e2⟩ | ⟨e1, e2⟩
  case inr => exact ⟨-1, A, B, by unfold f104_hinge; rw [e1]; rfl, by unfold f245_hinge; rw [e2]; rfl, scrA_refl A, scrB_refl B, fun _ _ => rfl, fun _ _ => rfl⟩
  obtain ⟨A1, a1, a2, a3⟩ := fill_cls h0
  have hI1 : Inv5 A1 B n k c b := Inv5_scr h0 (fill_scr a3) rfl
  have hpow : 2 ^ p < 1024 := Nat.lt_of_lt_of_le (Nat.pow_lt_pow_right (by decide) hpn) hp.1
  have hpn2 : 2 ^ p < 2 ^ n := Nat.pow_lt_pow_right (by decide) hpn
  let fc : Nat → Bool := fun s => s.testBit p && decide (sSat (B 149) s = 1) && decide (sSat (B 149) (s ^^^ 2 ^ p) = 0)
  let fr : Nat → Bool := fun s => !s.testBit p && decide (sSat (B 149) s = 0) && decide (sSat (B 149) (s ||| 2 ^ p) = 1)
  have sh : zshl 1 (zn p) = zn (2 ^ p) := by rw [zl1]; exact zn_shl (by omega)
  obtain ⟨r1, g1, g1'⟩ := zloop (fun f (a : Int32) c => f104_l30 (zn p) A1 (zn (2 ^ n - 1)) f a c) (2 ^ n) (fun i a => a = zn (cntN fc 0 i)) (fun a => a = zn (cntN fc 0 (2 ^ n))) (fun f i a hi ha => by
    subst ha
    left
    refine ⟨_, rfl, ?_⟩
    (try dsimp only)
    have hz : zin (zn i) 1024 = true := (zn_zin (by omega)).mpr (by omega)
    have hx : i ^^^ 2 ^ p < 2 ^ n := Nat.xor_lt_two_pow hi hpn2
    have hz2 : zin (zn (i ^^^ 2 ^ p)) 1024 = true := (zn_zin (by omega)).mpr (by omega)
    have es : cntN fc 0 (i + 1) = cntN fc 0 i + (if fc i = true then 1 else 0) := by show cntN fc 0 i + (if fc (0 + i) = true then 1 else 0) = _; rw [Nat.zero_add]
    rw [f104_l30, if_neg (by rw [zn_lt (by omega) (by omega)]; omega), if_pos (show zn i < 1024 by rw [zl1024, zn_lt (by omega) (by decide)]; omega), isIn_zn (by omega) (by omega), if_pos hz, zn_zi (by omega), a2 i hi, sh, zn_xor, if_pos hz2, zn_zi (by omega), a2 _ hx, zadd1, es]
    simp only [Option.bind_some]
    have e01 := sSat_01 hru (show i < 1024 by omega)
    have e01' := sSat_01 hru (show i ^^^ 2 ^ p < 1024 by omega)
    by_cases hb : i.testBit p = true
    · rw [if_pos hb, if_neg (by decide)]
      rcases e01 with h | h
      · have : fc i = false := by simp [fc, h]
        rw [h, if_pos rfl, this]; rfl
      · rw [h, if_neg (by decide)]
        rcases e01' with h' | h'
        · have : fc i = true := by simp [fc, hb, h, h']
          rw [h', if_pos rfl, this, if_pos rfl, zadd1]
        · have : fc i = false := by simp [fc, h']
          rw [h', if_neg (by decide), this]; rfl
    · have : fc i = false := by simp [fc, hb]
      rw [if_neg hb, if_pos rfl, this]; rfl) (fun f a ha => by
    subst ha
    refine ⟨_, rfl, ?_⟩
    (try dsimp only)
    rw [f104_l30, if_pos (by rw [zn_lt (by omega) (by omega)]; omega)]) zfu 0 0 (by omega) (by rw [zfu_eq]; omega) rfl
  obtain ⟨⟨r2, B2⟩, g2, g2', g3⟩ := zloop (fun f (d : Int32 × ZI) c => f245_l14 (zn p) f d.1 c d.2) (2 ^ n) (fun i d => d.1 = zn (cntN fr 0 i) ∧ ∀ o, o ≠ 159 → d.2 o = B o) (fun d => d.1 = zn (cntN fr 0 (2 ^ n)) ∧ ∀ o, o ≠ 159 → d.2 o = B o) (fun f i d hi hd => by
    obtain ⟨d1, B3⟩ := d
    obtain ⟨rfl, g⟩ := hd
    simp only at g
    left
    (try dsimp only)
    have e48 : B3 149 48 = zn n := by rw [g 149 (by decide)]; exact h48
    have ho : i ||| 2 ^ p < 2 ^ n := Nat.or_lt_two_pow hi hpn2
    obtain ⟨B4, b1, b2⟩ := sat_eq (M := B3) (show i < 1024 by omega) hru (g 149 (by decide))
    have gg : ∀ o, o ≠ 159 → B4 o = B o := fun o ho => (b2 o ho).trans (g o ho)
    obtain ⟨B5, b3, b4⟩ := sat_eq (M := B4) (show i ||| 2 ^ p < 1024 by omega) hru (gg 149 (by decide))
    have gg5 : ∀ o, o ≠ 159 → B5 o = B o := fun o ho => (b4 o ho).trans (gg o ho)
    have es : cntN fr 0 (i + 1) = cntN fr 0 i + (if fr i = true then 1 else 0) := by show cntN fr 0 i + (if fr (0 + i) = true then 1 else 0) = _; rw [Nat.zero_add]
    rw [f245_l14, all_ref hn10 e48]
    simp only [Option.bind_some]
    rw [if_neg (by rw [zn_lt (by omega) (by omega)]; omega), zbit (by omega) (by omega), b1, sh, zn_or, zadd1]
    simp only [Option.bind_some, zlet]
    rw [b3]
    simp only [Option.bind_some, Int32.add_zero]
    have e01 := sSat_01 hru (show i < 1024 by omega)
    have e01' := sSat_01 hru (show i ||| 2 ^ p < 1024 by omega)
    by_cases hb : i.testBit p = true
    · have : fr i = false := by simp [fr, hb]
      rw [if_pos hb, if_neg (by decide)]
      exact ⟨(zn (cntN fr 0 (i + 1)), B3), ⟨rfl, g⟩, by rw [es, this]; rfl⟩
    · rw [if_neg hb, if_pos rfl]
      rcases e01 with h | h
      · rw [h, if_pos rfl]
        rcases e01' with h' | h'
        · have : fr i = false := by simp [fr, h']
          rw [h', if_pos rfl]
          exact ⟨(zn (cntN fr 0 (i + 1)), B5), ⟨rfl, gg5⟩, by rw [es, this]; rfl⟩
        · have : fr i = true := by simp [fr, hb, h, h']
          rw [h', if_neg (by decide), zadd1]
          exact ⟨(zn (cntN fr 0 (i + 1)), B5), ⟨rfl, gg5⟩, by rw [es, this]; rfl⟩
      · have : fr i = false := by simp [fr, h]
        rw [h, if_neg (by decide)]
        exact ⟨(zn (cntN fr 0 (i + 1)), B4), ⟨rfl, gg⟩, by rw [es, this]; rfl⟩) (fun f d hd => by
    obtain ⟨d1, B3⟩ := d
    obtain ⟨rfl, g⟩ := hd
    simp only at g
    have e48 : B3 149 48 = zn n := by rw [g 149 (by decide)]; exact h48
    refine ⟨(zn (cntN fr 0 (2 ^ n)), B3), ⟨rfl, g⟩, ?_⟩
    (try dsimp only)
    rw [f245_l14, all_ref hn10 e48]
    simp only [Option.bind_some]
    rw [if_pos (by rw [zn_lt (by omega) (by omega)]; omega)]) zfu 0 (0, B) (by omega) (by rw [zfu_eq]; omega) ⟨rfl, fun _ _ => rfl⟩
  simp only at g2' g3
  have hcnt : cntN fc 0 (2 ^ n) = cntN fr 0 (2 ^ n) := by
    have := cnt_hinge (f := fc) (g := fr) (p := p) (fun s hs => by simp [fc, hs]) (fun s hs => by simp [fr, hs]) (fun s hs => by
      have e1 : (s ^^^ 2 ^ p).testBit p = false := by rw [Nat.testBit_xor, hs, Nat.testBit_two_pow]; simp
      have e2 : (s ^^^ 2 ^ p) ||| 2 ^ p = s := by
        apply Nat.eq_of_testBit_eq
        intro i
        rw [Nat.testBit_or, Nat.testBit_xor, Nat.testBit_two_pow]
        by_cases hip : p = i
        · subst hip; rw [hs]; simp
        · simp [hip]
      simp only [fc, fr, hs, e1, e2, Bool.true_and, Bool.not_false]
      exact Bool.and_comm _ _) (2 ^ (n - (p + 1)))
    rwa [← Nat.pow_add, show p + 1 + (n - (p + 1)) = n by omega] at this
  have g1 : f104_l30 (zn p) A1 (zn (2 ^ n - 1)) zfu 0 0 = some r1 := g1
  have g2 : f245_l14 (zn p) zfu 0 0 B = some (r2, B2) := g2
  refine ⟨r1, A1, B2, ?_, ?_, fill_scr a3, scrB_of (fun o _ q2 _ _ => g3 o q2), fun o ho => a3 o (by omega) (by omega), fun o ho => g3 o (by omega)⟩
  · unfold f104_hinge
    rw [e1]
    simp only [Option.bind_some]
    rw [if_neg (by decide), a1]
    simp only [Option.bind_some]
    rw [all_cls hI1]
    simp only [Option.bind_some]
    rw [g1]
    rfl
  · unfold f245_hinge
    rw [e2]
    simp only [Option.bind_some]
    rw [if_neg (by decide), g2, g1', g2', hcnt]
    rfl)
end
section
-- ===== calls that read alone =====
theorem h10 : ¬ (1 : Int32) = 0 := by decide
/-- a call that leaves memory as it is on both sides -/
def syncP (fC fR : ZI → Option Int32) : Prop := ∀ A B, Inv2 A B → ∃ v, fC A = some v ∧ fR B = some v
theorem idx_eq {x : Int32} {m : Nat} (hm : m ≤ 100000) : (∃ i, i < m ∧ x = zn i ∧ f13_within x 0 (zn m - 1) = some 1 ∧ f149_isIn x 0 (zn m - 1) = some 1) ∨ (f13_within x 0 (zn m - 1) = some 0 ∧ f149_isIn x 0 (zn m - 1) = some 0) := by
  by_cases h0 : m = 0
  · subst h0
    rw [within_eq, isIn_eq, if_pos (by
      have : zn 0 - 1 = -1 := by decide
      rw [this]
      grind)]
    exact Or.inr ⟨rfl, rfl⟩
  · have e : zn m - 1 = zn (m - 1) := zn_sub (j := 1) (by omega)
    rw [e]
    rcases within_ex (x := x) (lo := 0) (hi := m - 1) (by decide) (by omega) with ⟨k, -, h2, h3, h4, h5⟩ | ⟨h4, h5⟩
    · exact Or.inl ⟨k, by omega, h3, h4, h5⟩
    · exact Or.inr ⟨h4, h5⟩
theorem syncP_work (x y : Int32) : syncP (f95_work x y) (f231_work x y) := by
  rintro A B ⟨n, k, c, b, h0, -⟩
  have hk := h0.2.1.2.2.1
  have hk12 := hk.1
  have e6 : A 21 6 = zn k := h0.1.2.2.1.1.trans hk.2.1
  obtain ⟨d, hd, ed⟩ := h0.2.2.2.1.2.2.2.1
  have e8 : A 2 8 = zn d := h0.2.2.1.1.2.2.2.2.1.trans ed
  unfold f95_work f231_work
  rw [e6, hk.2.1]
  rcases idx_eq (x := x) (m := k) (by omega) with ⟨i, hi, rfl, e1, e2⟩ | ⟨e1, e2⟩
  case inr => rw [e1, e2]; exact ⟨-2, rfl, rfl⟩
  rw [e1, e2]
  have hz : zin (zn i) 12 = true := (zn_zin (by omega)).mpr (by omega)
  have zz : zi (zn i) = i := zn_zi (by omega)
  simp only [Option.bind_some, hz, zz, ↓reduceIte]
  simp only [if_neg h10]
  have cell : ∀ f, f < 6 → A (22 + f) i = B 149 (90 + f + 6 * i) := fun f hf => wrk_cell (t := 21) h0.1.2.2.1 hf hi
  rcases within_ex (x := y) (lo := 0) (hi := 6) (by decide) (by decide) with ⟨f, -, hf, rfl, e3, e4⟩ | ⟨e3, e4⟩
  · rw [show f149_isIn (zn f) 0 6 = some 1 from e4]
    simp only [Option.bind_some, if_neg h10]
    by_cases h6 : f = 6
    · subst h6
      rw [if_neg (show ¬ zn 6 = 0 by decide), if_neg (show ¬ zn 6 = 1 by decide), if_neg (show ¬ zn 6 = 2 by decide), if_neg (show ¬ zn 6 = 3 by decide), if_neg (show ¬ zn 6 = 4 by decide), if_neg (show ¬ zn 6 = 5 by decide), if_pos (show zn 6 = 6 from rfl), if_neg (show ¬ zn 6 < 6 by decide), e8, isIn_zn hd (by omega)]
      have hdn : f224_isDone (zn i) B = some (if d.testBit i = true then 1 else 0) := by
        unfold f224_isDone
        rw [ed, zbit hd (by omega)]
        split <;> rfl
      rw [hdn]
      by_cases hb : d.testBit i = true
      · rw [if_pos hb]; exact ⟨1, rfl, rfl⟩
      · rw [if_neg hb]; exact ⟨0, rfl, rfl⟩
    · rw [if_pos (show zn f < 6 by rw [zl6, zn_lt (by omega) (by decide)]; omega), ofWork_eq (by omega) (by omega)]
      have hf6 : f = 0 ∨ f = 1 ∨ f = 2 ∨ f = 3 ∨ f = 4 ∨ f = 5 := by omega
      rcases hf6 with rfl | rfl | rfl | rfl | rfl | rfl
      · exact ⟨_, rfl, by rw [← cell 0 (by decide)]; rfl⟩
      · exact ⟨_, rfl, by rw [← cell 1 (by decide)]; rfl⟩
      · exact ⟨_, rfl, by rw [← cell 2 (by decide)]; rfl⟩
      · exact ⟨_, rfl, by rw [← cell 3 (by decide)]; rfl⟩
      · exact ⟨_, rfl, by rw [← cell 4 (by decide)]; rfl⟩
      · exact ⟨_, rfl, by rw [← cell 5 (by decide)]; rfl⟩
  · rw [show f149_isIn y 0 6 = some 0 from e4]
    rw [within_eq] at e3
    have hy : ∀ k : Nat, k ≤ 6 → ¬ y = zn k := by
      intro k hk hc
      subst hc
      rw [if_neg (by rw [zn_lt (by omega) (by omega), zn_lt (by omega) (by omega)]; omega)] at e3
      cases e3
    simp only [if_neg (show ¬ y = 0 from hy 0 (by decide)), if_neg (show ¬ y = 1 from hy 1 (by decide)), if_neg (show ¬ y = 2 from hy 2 (by decide)), if_neg (show ¬ y = 3 from hy 3 (by decide)), if_neg (show ¬ y = 4 from hy 4 (by decide)), if_neg (show ¬ y = 5 from hy 5 (by decide)), if_neg (show ¬ y = 6 from hy 6 (by decide))]
    exact ⟨-2, rfl, rfl⟩
theorem syncP_book (x y : Int32) : syncP (f96_book x y) (f232_book x y) := by
  rintro A B ⟨n, k, c, b, h0, -⟩
  obtain ⟨l, hl, el⟩ := h0.2.2.2.1.2.2.1
  have e10 : A 2 10 = zn l := h0.2.2.1.1.2.2.2.2.2.2.trans el
  unfold f96_book f232_book
  rw [e10, el]
  rcases idx_eq (x := x) (m := l) (by omega) with ⟨i, hi, rfl, e1, e2⟩ | ⟨e1, e2⟩
  case inr => rw [e1, e2]; exact ⟨-2, rfl, rfl⟩
  rw [e1, e2]
  have hz : zin (zn i) 150 = true := (zn_zin (by omega)).mpr (by omega)
  have zz : zi (zn i) = i := zn_zi (by omega)
  simp only [Option.bind_some, hz, zz, ↓reduceIte]
  simp only [if_neg h10]
  obtain ⟨b1, b2, b3, b4⟩ := h0.2.2.2.2 i (by omega)
  rcases within_ex (x := y) (lo := 0) (hi := 3) (by decide) (by decide) with ⟨f, -, hf, rfl, e3, e4⟩ | ⟨e3, e4⟩
  · rw [show f149_isIn (zn f) 0 3 = some 1 from e4]
    simp only [Option.bind_some, if_neg h10]
    have hix : ((578 : Int32) + 4 * zn i) + zn f = zn (578 + 4 * i + f) := by rw [zl578, zl4, zn_mul, zn_add, zn_add]
    rw [hix, if_pos ((zn_zin (i := 578 + 4 * i + f) (n := 2064) (by omega)).mpr (by omega)), zn_zi (show 578 + 4 * i + f < 2147483648 by omega)]
    have hf4 : f = 0 ∨ f = 1 ∨ f = 2 ∨ f = 3 := by omega
    rcases hf4 with rfl | rfl | rfl | rfl
    · exact ⟨_, rfl, by rw [b1, Nat.add_zero]⟩
    · exact ⟨_, rfl, by rw [b2, show 578 + 4 * i + 1 = 579 + 4 * i by omega]⟩
    · exact ⟨_, rfl, by rw [b3, show 578 + 4 * i + 2 = 580 + 4 * i by omega]⟩
    · exact ⟨_, rfl, by rw [b4, show 578 + 4 * i + 3 = 581 + 4 * i by omega]⟩
  · rw [show f149_isIn y 0 3 = some 0 from e4]
    rw [within_eq] at e3
    have hy : ∀ k : Nat, k ≤ 3 → ¬ y = zn k := by
      intro k hk hc
      subst hc
      rw [if_neg (by rw [zn_lt (by omega) (by omega), zn_lt (by omega) (by omega)]; omega)] at e3
      cases e3
    simp only [if_neg (show ¬ y = 0 from hy 0 (by decide)), if_neg (show ¬ y = 1 from hy 1 (by decide)), if_neg (show ¬ y = 2 from hy 2 (by decide)), if_neg (show ¬ y = 3 from hy 3 (by decide))]
    exact ⟨-2, rfl, rfl⟩
theorem syncP_fault (x : Int32) : syncP (f91_fault x) (f197_fault x) := by
  rintro A B ⟨n, k, c, b, -, -, -, t, -, -, -, -, h1, h2⟩
  unfold f91_fault f197_fault
  rw [h1, h2]
  by_cases c0 : x = 0
  · simp only [if_pos c0]; exact ⟨_, rfl, rfl⟩
  · simp only [if_neg c0]
    by_cases c1 : x = 1
    · simp only [if_pos c1]; exact ⟨_, rfl, rfl⟩
    · simp only [if_neg c1]; exact ⟨_, rfl, rfl⟩
theorem syncP_plan (x y z : Int32) : syncP (f99_plan x y z) (f228_plan x y z) := by
  rintro A B ⟨n, k, c, b, h0, -⟩
  have hn10 := h0.2.1.1.1
  have hk := h0.2.1.2.2.1
  obtain ⟨d, hd, ed⟩ := h0.2.2.2.1.2.2.2.1
  have e8 : A 2 8 = zn d := h0.2.2.1.1.2.2.2.2.1.trans ed
  unfold f99_plan f228_plan
  rcases has_eq h0 x with ⟨p, hp, rfl, e1, e2⟩ | ⟨e1, e2⟩
  case inr => rw [e1, e2]; exact ⟨-1, rfl, rfl⟩
  rw [e1, e2]
  simp only [Option.bind_some]
  simp only [if_neg h10]
  rcases within_ex (x := y) (lo := 0) (hi := 24) (by decide) (by decide) with ⟨u, -, hu, rfl, e3, e4⟩ | ⟨e3, e4⟩
  case inr => rw [show f13_within y 0 24 = some 0 from e3, show f149_isIn y 0 24 = some 0 from e4]; exact ⟨-1, rfl, rfl⟩
  rw [show f13_within (zn u) 0 24 = some 1 from e3, show f149_isIn (zn u) 0 24 = some 1 from e4]
  simp only [Option.bind_some]
  simp only [if_neg h10]
  rcases within_ex (x := z) (lo := 0) (hi := 2) (by decide) (by decide) with ⟨v, -, hv, rfl, e5, e6⟩ | ⟨e5, e6⟩
  case inr => rw [show f13_within z 0 2 = some 0 from e5, show f149_isIn z 0 2 = some 0 from e6]; exact ⟨-1, rfl, rfl⟩
  rw [show f13_within (zn v) 0 2 = some 1 from e5, show f149_isIn (zn v) 0 2 = some 1 from e6]
  simp only [Option.bind_some]
  simp only [if_neg h10]
  obtain ⟨s, hs, es⟩ := plan_cls h0.1.2.2.1 hk hn10 hp hu hd
  obtain ⟨s', hs', es'⟩ := plan_ref (M := B) (p := p) rfl hk hn10 hu hd ed
  have := pBest_uniq hs hs'
  subst this
  have s4 := (pBest_4096 hk.1 hs).2.1
  rw [e8, es, es']
  simp only [Option.bind_some]
  rw [show f42_sum 21 (zn s) 24 A = some (zn (wSum (B 149) 2 s k)) from sum_cls h0.1.2.2.1 hk hn10 (f := 2) (by decide) s4, show f42_sum 21 (zn s) 23 A = some (zn (wSum (B 149) 1 s k)) from sum_cls h0.1.2.2.1 hk hn10 (f := 1) (by decide) s4, show f221_sumOf (zn s) 2 B = some (zn (wSum (B 149) 2 s k)) from sum_ref2 rfl hk hn10 (f := 2) (by decide) s4, show f221_sumOf (zn s) 1 B = some (zn (wSum (B 149) 1 s k)) from sum_ref2 rfl hk hn10 (f := 1) (by decide) s4]
  have hv3 : v = 0 ∨ v = 1 ∨ v = 2 := by omega
  rcases hv3 with rfl | rfl | rfl <;> exact ⟨_, rfl, rfl⟩
theorem syncP_rests (x : Int32) : syncP (f122_rests x) (f260_rests x) := by
  rintro A B ⟨n, k, c, b, h0, -⟩
  obtain ⟨l, hl1, hl, el⟩ := h0.2.1.1.2.2.2.1
  obtain ⟨e, he, ee⟩ := h0.2.2.2.1.1
  have e13 : A 1 13 = zn l := h0.1.1.1.2.2.1.trans el
  have e4 : A 2 4 = zn e := h0.2.2.1.1.1.trans ee
  unfold f122_rests f260_rests
  rw [e13, e4, el, ee]
  have hall : ∀ l : Fin 25, ∀ e : Fin 25, ∀ u : Fin 25, 1 ≤ u.val → ((if 0 < zn l.val - zn e.val then if zn u.val = 0 then none else some (((zn l.val - zn e.val) + zn u.val - 1) / zn u.val) else some 0) : Option Int32) = (f213_greater 0 (zn l.val - zn e.val)).bind fun v2 => if zn u.val = 0 then none else some (((v2 + zn u.val) - 1) / zn u.val) := by decide +kernel
  rcases within_ex (x := x) (lo := 1) (hi := 24) (by decide) (by decide) with ⟨u, hu1, hu, rfl, e1, e2⟩ | ⟨e1, e2⟩
  · rw [show f149_isIn (zn u) 1 24 = some 1 from e2]
    rw [within_eq] at e1
    have h1 : ¬ zn u < 1 := by rw [zl1, zn_lt (by omega) (by decide)]; omega
    have h2 : ¬ 24 < zn u := by rw [zl24, zn_lt (by decide) (by omega)]; omega
    rw [if_neg h1, if_neg h2]
    simp only [Option.bind_some, zlet]
    simp only [if_neg h10]
    have := hall ⟨l, by omega⟩ ⟨e, by omega⟩ ⟨u, by omega⟩ hu1
    simp only at this
    rw [this]
    rw [gre_eq]
    simp only [Option.bind_some]
    rw [if_neg (show ¬ zn u = 0 by rw [zl0, zn_eq (by omega) (by decide)]; omega)]
    exact ⟨_, rfl, rfl⟩
  · rw [show f149_isIn x 1 24 = some 0 from e2]
    rw [within_eq] at e1
    by_cases hx : x < 1
    · rw [if_pos hx]; exact ⟨-1, rfl, rfl⟩
    · rw [if_neg hx]
      by_cases hx2 : 24 < x
      · rw [if_pos hx2]; exact ⟨-1, rfl, rfl⟩
      · rw [if_neg (by
          intro hc
          rcases hc with hc | hc
          · exact hx hc
          · exact hx2 hc)] at e1
        cases e1
theorem syncP_weekday (x y z t : Int32) : syncP (fun _ => f123_weekday x y z t) (fun _ => f261_weekday x y z t) := by
  rintro A B -
  show ∃ v, f123_weekday x y z t = some v ∧ f261_weekday x y z t = some v
  unfold f123_weekday f261_weekday
  simp only [within_eq, isIn_eq, Option.bind_some, zlet]
  generalize hx : (if x < 0 ∨ 364 < x then (0 : Int32) else 1) = vx
  generalize hy : (if y < 0 ∨ 999 < y then (0 : Int32) else 1) = vy
  generalize hz : (if z < 0 ∨ 1 < z then (0 : Int32) else 1) = vz
  generalize ht : (if t < 0 ∨ 364 < t then (0 : Int32) else 1) = vt
  by_cases c1 : vx = 0
  · rw [if_pos c1, if_pos c1]; exact ⟨_, rfl, rfl⟩
  rw [if_neg c1, if_neg c1]
  by_cases c2 : vy = 0
  · rw [if_pos c2, if_pos c2]; exact ⟨_, rfl, rfl⟩
  rw [if_neg c2, if_neg c2]
  by_cases c3 : vz = 0
  · rw [if_pos c3, if_pos c3]; exact ⟨_, rfl, rfl⟩
  rw [if_neg c3, if_neg c3]
  by_cases c4 : vt = 0
  · rw [if_pos c4, if_pos c4]; exact ⟨_, rfl, rfl⟩
  rw [if_neg c4, if_neg c4]
  by_cases c5 : x < t
  · rw [if_pos c5, if_pos c5]
    exact ⟨_, rfl, by simp only [Int32.add_assoc]⟩
  · rw [if_neg c5, if_neg c5]
    exact ⟨_, rfl, by simp only [Int32.add_assoc]⟩
theorem share_eq {a b h : Nat} (ha : a ≤ 48) (hb : b ≤ 48) (hh : h ≤ 24) (hab : h < a + b) : zmin (2 * zn a) (2 * zmin (zn a) (zmax 0 (zn h - zn b)) + (zn h - zmin (zn a) (zmax 0 (zn h - zn b)) - zmin (zn b) (zmax 0 (zn h - zn a)))) = 2 * zmin (zn a) (zmax 0 (zn h - zn b)) + zn h - zmin (zn a) (zmax 0 (zn h - zn b)) - zmin (zn b) (zmax 0 (zn h - zn a)) := by
  have hm : ∀ p q : Nat, p ≤ 48 → q ≤ 48 → zmin (zn p) (zn q) = zn (min p q) := fun p q hp hq => by
    unfold zmin
    by_cases hc : zn q < zn p
    · rw [if_pos hc]
      rw [zn_lt (by omega) (by omega)] at hc
      congr 1; omega
    · rw [if_neg hc]
      rw [zn_lt (by omega) (by omega)] at hc
      congr 1; omega
  have hx : ∀ p q : Nat, p ≤ 48 → q ≤ 48 → zmax 0 (zn p - zn q) = zn (p - q) := fun p q hp hq => by
    obtain ⟨g1, g2⟩ := zgt0 (a := p) (b := q) (by omega) (by omega)
    unfold zmax
    by_cases hc : q < p
    · rw [if_pos (g1.mpr hc), zn_sub (by omega)]
    · rw [if_neg (fun h => hc (g1.mp h)), show p - q = 0 by omega]; rfl
  rw [hx h b (by omega) hb, hx h a (by omega) ha, hm a (h - b) ha (by omega), hm b (h - a) hb (by omega), zl2, zn_mul, zn_mul]
  generalize e1 : min a (h - b) = u
  generalize e2 : min b (h - a) = v
  have h1 : u ≤ h := by omega
  have h2 : v ≤ h - u := by omega
  have h3 : 2 * u + (h - u - v) ≤ 2 * a := by omega
  rw [zn_sub h1, zn_sub h2, zn_add, zn_add, zn_sub (by omega), zn_sub (by omega)]
  rw [show 2 * u + h - u - v = 2 * u + (h - u - v) by omega]
  unfold zmin
  by_cases hc : zn (2 * u + (h - u - v)) < zn (2 * a)
  · rw [if_pos hc]
  · rw [if_neg hc]
    rw [zn_lt (by omega) (by omega)] at hc
    congr 1; omega
theorem syncP_share (x y z : Int32) : syncP (f115_share x y z) (f256_share x y z) := by
  rintro A B ⟨n, k, c, b, h0, -⟩
  obtain ⟨e, he, ee⟩ := h0.2.2.2.1.1
  have e4 : A 2 4 = zn e := h0.2.2.1.1.1.trans ee
  have e24 : (24 : Int32) - zn e = zn (24 - e) := zn_sub (i := 24) he
  unfold f115_share f256_share f39_hoursLeft f219_hoursNow f257_ownOf
  rw [e4, ee, e24]
  rcases within_ex (x := x) (lo := 0) (hi := 48) (by decide) (by decide) with ⟨u, -, hu, rfl, e1, e2⟩ | ⟨e1, e2⟩
  case inr => rw [show f13_within x 0 48 = some 0 from e1, show f149_isIn x 0 48 = some 0 from e2]; exact ⟨-1, rfl, rfl⟩
  rw [show f13_within (zn u) 0 48 = some 1 from e1, show f149_isIn (zn u) 0 48 = some 1 from e2]
  rcases within_ex (x := y) (lo := 0) (hi := 48) (by decide) (by decide) with ⟨v, -, hv, rfl, e3, e4⟩ | ⟨e3, e4⟩
  case inr => rw [show f13_within y 0 48 = some 0 from e3, show f149_isIn y 0 48 = some 0 from e4]; exact ⟨-1, rfl, rfl⟩
  rw [show f13_within (zn v) 0 48 = some 1 from e3, show f149_isIn (zn v) 0 48 = some 1 from e4]
  rcases within_ex (x := z) (lo := 0) (hi := 1) (by decide) (by decide) with ⟨q, -, hq, rfl, e5, e6⟩ | ⟨e5, e6⟩
  case inr => rw [show f13_within z 0 1 = some 0 from e5, show f149_isIn z 0 1 = some 0 from e6]; exact ⟨-1, rfl, rfl⟩
  rw [show f13_within (zn q) 0 1 = some 1 from e5, show f149_isIn (zn q) 0 1 = some 1 from e6]
  simp only [Option.bind_some, zlet, gre_eq, les_eq]
  simp only [if_neg h10]
  rw [zn_add]
  by_cases hab : 24 - e < u + v
  · have hlt : zn (24 - e) < zn (u + v) := (zn_lt (by omega) (by omega)).mpr hab
    simp only [if_pos hlt]
    have s1 := share_eq (a := u) (b := v) (h := 24 - e) hu hv (by omega) hab
    have s2 := share_eq (a := v) (b := u) (h := 24 - e) hv hu (by omega) (by omega)
    have hq2 : q = 0 ∨ q = 1 := by omega
    rcases hq2 with rfl | rfl
    · simp only [if_pos (show zn 0 = 0 from rfl), Option.bind_some]
      exact ⟨_, rfl, by rw [s1]⟩
    · simp only [if_neg (show ¬ zn 1 = 0 by decide), Option.bind_some]
      refine ⟨_, rfl, ?_⟩
      have sw : zn (24 - e) - zmin (zn u) (zmax 0 (zn (24 - e) - zn v)) - zmin (zn v) (zmax 0 (zn (24 - e) - zn u)) = zn (24 - e) - zmin (zn v) (zmax 0 (zn (24 - e) - zn u)) - zmin (zn u) (zmax 0 (zn (24 - e) - zn v)) := by grind
      have sw2 : 2 * zmin (zn v) (zmax 0 (zn (24 - e) - zn u)) + zn (24 - e) - zmin (zn v) (zmax 0 (zn (24 - e) - zn u)) - zmin (zn u) (zmax 0 (zn (24 - e) - zn v)) = 2 * zmin (zn v) (zmax 0 (zn (24 - e) - zn u)) + zn (24 - e) - zmin (zn u) (zmax 0 (zn (24 - e) - zn v)) - zmin (zn v) (zmax 0 (zn (24 - e) - zn u)) := by grind
      rw [sw, s2, sw2]
  · have hlt : ¬ zn (24 - e) < zn (u + v) := by rw [zn_lt (by omega) (by omega)]; exact hab
    simp only [if_neg hlt]
    have hq2 : q = 0 ∨ q = 1 := by omega
    rcases hq2 with rfl | rfl
    · simp only [if_pos (show zn 0 = 0 from rfl), Option.bind_some]
      exact ⟨_, rfl, rfl⟩
    · simp only [if_neg (show ¬ zn 1 = 0 by decide), Option.bind_some]
      exact ⟨_, rfl, rfl⟩
end
section
theorem zlet_e {α β : Type} (a : α) (f : α → β) : zlet a f = f a := id rfl
-- ===== next, due, spread, way =====
theorem mom_p {A B : ZI} {n k c b p : Nat} (h0 : Inv5 A B n k c b) (hp : p < n) : A 3 p = B 149 (17 + p) ∧ A 4 p = B 149 (27 + p) ∧ A 5 p = B 149 (37 + p) ∧ A 6 p = B 149 (7 + p) ∧ A 37 p = B 149 (60 + p) ∧ A 38 p = B 149 (70 + p) ∧ A 39 p = B 149 (80 + p) := by
  obtain ⟨m1, m2, m3, m4⟩ := h0.2.2.1.2 p hp
  obtain ⟨f1, f2, f3⟩ := h0.1.1.2 p hp
  exact ⟨m1, m2, m3, m4, f1, f2, f3⟩
theorem val_p {A B : ZI} {n k c b p : Nat} (h0 : Inv5 A B n k c b) (hp : p < n) : (∃ a, a ≤ 99 ∧ B 149 (17 + p) = zn a) ∧ (∃ h, h ≤ 999 ∧ B 149 (27 + p) = zn h) ∧ (∃ s, s < 1024 ∧ B 149 (7 + p) = zn s ∧ s.testBit p = false) ∧ (∃ d, d ≤ 24 ∧ B 149 (60 + p) = zn d) ∧ ∃ d, d ≤ 999 ∧ B 149 (70 + p) = zn d := by
  obtain ⟨-, ⟨y, hy, -, hh⟩, -, -, hag⟩ := h0.2.2.2.1
  obtain ⟨h, hh1, hh2⟩ := hh p hp
  obtain ⟨ga, gt⟩ := hag p hp
  obtain ⟨q1, q2, -⟩ := h0.2.1.1.2.2.2.2.2.2.2 p hp
  exact ⟨ga, ⟨h, by omega, hh2⟩, gt, q1, q2⟩
theorem zx {d p : Nat} (hd : d ≤ 90) (hp : p < 10) : zin (zn d + zn p) 2064 = true := by rw [zn_add]; exact (zn_zin (by omega)).mpr (by omega)
theorem zy {d p : Nat} (hd : d ≤ 90) (hp : p < 10) : zi (zn d + zn p) = d + p := by rw [zn_add, zn_zi (by omega)]
theorem syncP_next : syncP f124_next f237_next := by
  rintro A B ⟨n, k, c, b, h0, -⟩
  have hn10 := h0.2.1.1.1
  have h48 := h0.2.1.1.2.1
  have h11 : A 1 11 = zn n := h0.1.1.1.1.trans h48
  obtain ⟨r, r', g1, g2, g3⟩ := zpair (fun f (a : Int32) c => f124_l4 A f a c) (fun f (a : Int32) c => f237_l4 B f a c) n (fun _ a d => a = d ∧ (a = -1 ∨ ∃ q, q < n ∧ a = zn q)) (fun a d => a = d) (fun f i a d hi had => by
    obtain ⟨rfl, ha⟩ := had
    left
    (try dsimp only)
    have hlt : zn i < zn n := (zn_lt (by omega) (by omega)).mpr hi
    have hz : zin (zn i) 10 = true := (zn_zin (by omega)).mpr (by omega)
    have zz : zi (zn i) = i := zn_zi (by omega)
    obtain ⟨m1, m2, m3, m4, m5, m6, m7⟩ := mom_p h0 hi
    obtain ⟨⟨ag, hag, eag⟩, ⟨hd, hhd, ehd⟩, -, ⟨nd, hnd, end_⟩, -⟩ := val_p h0 hi
    rw [f124_l4, f237_l4, h11, h48, if_pos hlt, if_pos hlt, if_pos hz, show zin (27 + zn i) 2064 = true from zx (d := 27) (by decide) (by omega), zz, show zi (27 + zn i) = 27 + i from zy (d := 27) (by decide) (by omega), m2, zadd1, if_pos (show true = true from rfl)]
    by_cases hh : B 149 (27 + i) = 0
    · rw [if_pos hh, if_pos hh]
      unfold f238_isNeedier
      rcases ha with rfl | ⟨q, hq, rfl⟩
      · rw [if_pos rfl, if_pos rfl]
        exact ⟨zn i, zn i, ⟨rfl, Or.inr ⟨i, hi, rfl⟩⟩, rfl, rfl⟩
      · have hne : ¬ zn q = -1 := zn_ne_neg (by omega)
        have hzq : zin (zn q) 10 = true := (zn_zin (by omega)).mpr (by omega)
        have zzq : zi (zn q) = q := zn_zi (by omega)
        obtain ⟨k1, k2, k3, k4, k5, k6, k7⟩ := mom_p h0 hq
        obtain ⟨⟨ag', hag', eag'⟩, -, -, ⟨nd', hnd', end'⟩, -⟩ := val_p h0 hq
        obtain ⟨z1, z2⟩ := zgt0 (a := nd) (b := nd') (by omega) (by omega)
        rw [if_neg hne, if_neg hne, show zin (60 + zn i) 2064 = true from zx (d := 60) (by decide) (by omega), show zin (60 + zn q) 2064 = true from zx (d := 60) (by decide) (by omega), show zi (60 + zn i) = 60 + i from zy (d := 60) (by decide) (by omega), show zi (60 + zn q) = 60 + q from zy (d := 60) (by decide) (by omega), show zin (17 + zn i) 2064 = true from zx (d := 17) (by decide) (by omega), show zin (17 + zn q) 2064 = true from zx (d := 17) (by decide) (by omega), show zi (17 + zn i) = 17 + i from zy (d := 17) (by decide) (by omega), show zi (17 + zn q) = 17 + q from zy (d := 17) (by decide) (by omega)]
        unfold f125_comesBefore
        rw [hz, hzq, zz, zzq, m5, k5, m1, k1, end_, end']
        simp only [↓reduceIte, zlet]
        by_cases c1 : nd = nd'
        · subst c1
          have hs : zn nd - zn nd = 0 := z2.mpr rfl
          simp only [↓reduceIte, hs, if_neg (show ¬ (0 : Int32) < 0 by decide)]
          by_cases c2 : B 149 (17 + q) < B 149 (17 + i)
          · simp only [if_pos c2, Option.bind_some, if_neg h10]
            exact ⟨zn i, zn i, ⟨rfl, Or.inr ⟨i, hi, rfl⟩⟩, rfl, rfl⟩
          · simp only [if_neg c2, Option.bind_some, ↓reduceIte]
            exact ⟨zn q, zn q, ⟨rfl, Or.inr ⟨q, hq, rfl⟩⟩, rfl, rfl⟩
        · have hne2 : ¬ zn nd = zn nd' := by rw [zn_eq (by omega) (by omega)]; exact c1
          have hs : ¬ zn nd - zn nd' = 0 := fun h => c1 (z2.mp h)
          simp only [if_neg hne2, if_neg hs]
          by_cases c2 : nd' < nd
          · simp only [if_pos ((zn_lt (show nd' < 2147483648 by omega) (show nd < 2147483648 by omega)).mpr c2), if_pos (z1.mpr c2), Option.bind_some, if_neg h10]
            exact ⟨zn i, zn i, ⟨rfl, Or.inr ⟨i, hi, rfl⟩⟩, rfl, rfl⟩
          · have l1 : ¬ zn nd' < zn nd := by rw [zn_lt (by omega) (by omega)]; exact c2
            have l2 : ¬ 0 < zn nd - zn nd' := fun h => c2 (z1.mp h)
            simp only [if_neg l1, if_neg l2, Option.bind_some, ↓reduceIte]
            exact ⟨zn q, zn q, ⟨rfl, Or.inr ⟨q, hq, rfl⟩⟩, rfl, rfl⟩
    · rw [if_neg hh, if_neg hh]
      exact ⟨a, a, ⟨rfl, ha⟩, rfl, rfl⟩) (fun f a d had => by
    obtain ⟨rfl, ha⟩ := had
    have hng : ¬ zn n < zn n := by rw [zn_lt (by omega) (by omega)]; omega
    refine ⟨a, a, rfl, ?_, ?_⟩
    · (try dsimp only)
      rw [f124_l4, h11, if_neg hng]
    · (try dsimp only)
      rw [f237_l4, h48, if_neg hng]) zfu 0 (-1) (-1) (by omega) (by rw [zfu_eq]; omega) ⟨rfl, Or.inl rfl⟩
  subst g3
  have g1 : f124_l4 A zfu (-1) 0 = some r := g1
  have g2 : f237_l4 B zfu (-1) 0 = some r := g2
  exact ⟨r, by rw [f124_next, g1]; rfl, by rw [f237_next, g2]; rfl⟩
theorem zlt_sub {a b : Nat} (ha : a ≤ 2000) (hb : b ≤ 2000) : zn a - zn b < 0 ↔ a < b := by
  obtain ⟨g1, g2⟩ := zgt0 ha hb
  obtain ⟨k1, k2⟩ := zgt0 hb ha
  constructor
  · intro h
    by_cases hc : a < b
    · exact hc
    · exfalso
      rw [zn_sub (by omega)] at h
      exact zn_nneg (by omega) h
  · intro h
    have h1 := k1.mpr h
    have h2 : ¬ 0 < zn a - zn b := fun hc => by have := g1.mp hc; omega
    have h3 : ¬ zn a - zn b = 0 := fun hc => by have := g2.mp hc; omega
    generalize zn a - zn b = x at *
    grind
theorem due_loop {A B : ZI} {n k c b y : Nat} (h0 : Inv5 A B n k c b) (hy : y ≤ 999) (ey : B 149 0 = zn y) (e5 : A 2 5 = zn y) : ∃ r1 r2 s2, f126_l18 A zfu 0 (-1) 0 = some (r1, r2) ∧ f239_l20 B zfu 0 100000 0 = some (r1, s2) ∧ ((r2 = -1 ∧ s2 = 100000) ∨ ∃ q, q ≤ 999 ∧ r2 = zn q ∧ s2 = zn q) := by
  have hn10 := h0.2.1.1.1
  have h48 := h0.2.1.1.2.1
  have h11 : A 1 11 = zn n := h0.1.1.1.1.trans h48
  generalize hfu : zfu = fu
  have hfun : n < fu := by rw [← hfu, zfu_eq]; omega
  have h10e : ∃ m : Int32, m = 100000 ∧ (∀ q, q ≤ 999 → zmin m (zn q) = zn q) := ⟨100000, rfl, fun q hq => by
    unfold zmin
    rw [if_pos (by rw [zl100000, zn_lt (by omega) (by omega)]; omega)]⟩
  obtain ⟨mm, hmm, hmz⟩ := h10e
  rw [← hmm]
  obtain ⟨⟨r1, r2⟩, ⟨s1, s2⟩, g1, g2, g3, g4⟩ := zpair (fun f (a : Int32 × Int32) c => f126_l18 A f a.1 a.2 c) (fun f (a : Int32 × Int32) c => f239_l20 B f a.1 a.2 c) n (fun _ a d => a.1 = d.1 ∧ ((a.2 = -1 ∧ d.2 = mm) ∨ ∃ q, q ≤ 999 ∧ a.2 = zn q ∧ d.2 = zn q)) (fun a d => a.1 = d.1 ∧ ((a.2 = -1 ∧ d.2 = mm) ∨ ∃ q, q ≤ 999 ∧ a.2 = zn q ∧ d.2 = zn q)) (fun f i a d hi had => by
    obtain ⟨a1, a2⟩ := a
    obtain ⟨d1, d2⟩ := d
    obtain ⟨rfl, hs⟩ := had
    simp only at hs
    left
    (try dsimp only)
    have hlt : zn i < zn n := (zn_lt (by omega) (by omega)).mpr hi
    have hz : zin (zn i) 10 = true := (zn_zin (by omega)).mpr (by omega)
    have zz : zi (zn i) = i := zn_zi (by omega)
    obtain ⟨m1, m2, m3, m4, m5, m6, m7⟩ := mom_p h0 hi
    obtain ⟨-, ⟨hd, hhd, ehd⟩, -, ⟨nd, hnd, end_⟩, ⟨be, hbe, ebe⟩⟩ := val_p h0 hi
    rw [f126_l18, f239_l20, h11, h48, if_pos hlt, if_pos hlt, show zin (27 + zn i) 2064 = true from zx (d := 27) (by decide) (by omega), show zi (27 + zn i) = 27 + i from zy (d := 27) (by decide) (by omega), show zin (60 + zn i) 2064 = true from zx (d := 60) (by decide) (by omega), show zi (60 + zn i) = 60 + i from zy (d := 60) (by decide) (by omega), show zin (70 + zn i) 2064 = true from zx (d := 70) (by decide) (by omega), show zi (70 + zn i) = 70 + i from zy (d := 70) (by decide) (by omega), zz, m2, m5, m6, ehd, ebe, e5, ey, hz, zadd1]
    simp only [↓reduceIte, zlet_e, les_eq, Option.bind_some]
    by_cases hh : hd = 0
    · subst hh
      rw [if_pos (show zn 0 = 0 from rfl), if_neg (show ¬ 0 < zn 0 by decide)]
      by_cases c1 : be < y
      · have l1 : zn be < zn y := (zn_lt (by omega) (by omega)).mpr c1
        have l2 : zn be - zn y < 0 := (zlt_sub (by omega) (by omega)).mpr c1
        rw [if_pos l2, if_pos l1]
        exact ⟨(a1 + B 149 (60 + i), a2), (a1 + B 149 (60 + i), d2), ⟨rfl, hs⟩, rfl, rfl⟩
      · have l1 : ¬ zn be < zn y := by rw [zn_lt (by omega) (by omega)]; exact c1
        have es : zn be - zn y = zn (be - y) := zn_sub (by omega)
        rw [es, if_neg l1, if_neg (zn_nneg (by omega))]
        rcases hs with ⟨rfl, rfl⟩ | ⟨q, hq, rfl, rfl⟩
        · rw [if_pos rfl]
          have hm := hmz (be - y) (by omega)
          rw [hm]
          exact ⟨(a1 + B 149 (60 + i), zn (be - y)), (a1 + B 149 (60 + i), zn (be - y)), ⟨rfl, Or.inr ⟨be - y, by omega, rfl, rfl⟩⟩, rfl, rfl⟩
        · have hne : ¬ zn q = -1 := zn_ne_neg (by omega)
          rw [if_neg hne]
          unfold zmin
          by_cases c2 : zn (be - y) < zn q
          · rw [if_pos c2, if_pos c2]
            exact ⟨(a1 + B 149 (60 + i), zn (be - y)), (a1 + B 149 (60 + i), zn (be - y)), ⟨rfl, Or.inr ⟨be - y, by omega, rfl, rfl⟩⟩, rfl, rfl⟩
          · rw [if_neg c2, if_neg c2]
            exact ⟨(a1 + B 149 (60 + i), zn q), (a1 + B 149 (60 + i), zn q), ⟨rfl, Or.inr ⟨q, hq, rfl, rfl⟩⟩, rfl, rfl⟩
    · rw [if_neg (show ¬ zn hd = 0 by rw [zl0, zn_eq (by omega) (by decide)]; exact hh), if_pos (zlt0 (by omega) (by omega))]
      exact ⟨(a1, a2), (a1, d2), ⟨rfl, hs⟩, rfl, rfl⟩) (fun f a d had => by
    have hng : ¬ zn n < zn n := by rw [zn_lt (by omega) (by omega)]; omega
    refine ⟨a, d, had, ?_, ?_⟩
    · (try dsimp only)
      rw [f126_l18, h11, if_neg hng]
    · (try dsimp only)
      rw [f239_l20, h48, if_neg hng]) fu 0 (0, -1) (0, mm) (by omega) (by omega) ⟨rfl, Or.inl ⟨rfl, rfl⟩⟩
  simp only at g3 g4
  subst g3
  exact ⟨r1, r2, s2, g1, g2, g4⟩
theorem syncP_due (x : Int32) : syncP (f126_due x) (f239_due x) := by
  rintro A B ⟨n, k, c, b, h0, -⟩
  have hn10 := h0.2.1.1.1
  have h48 := h0.2.1.1.2.1
  have h11 : A 1 11 = zn n := h0.1.1.1.1.trans h48
  obtain ⟨y, hy, ey, -⟩ := h0.2.2.2.1.2.1
  have e5 : A 2 5 = zn y := h0.2.2.1.1.2.1.trans ey
  rcases within_ex (x := x) (lo := 0) (hi := 1) (by decide) (by decide) with ⟨u, -, hu, rfl, e1, e2⟩ | ⟨e1, e2⟩
  case inr => exact ⟨-1, by unfold f126_due; rw [show f13_within x 0 1 = some 0 from e1]; rfl, by unfold f239_due; rw [show f149_isIn x 0 1 = some 0 from e2]; rfl⟩
  obtain ⟨r1, r2, s2, g1, g2, g4⟩ := due_loop h0 hy ey e5
  unfold f126_due f239_due
  rw [show f13_within (zn u) 0 1 = some 1 from e1, show f149_isIn (zn u) 0 1 = some 1 from e2, g1, g2]
  simp only [Option.bind_some, if_neg h10]
  have hu2 : u = 0 ∨ u = 1 := by omega
  rcases hu2 with rfl | rfl
  · simp only [if_pos (show zn 0 = 0 from rfl)]
    exact ⟨r1, rfl, rfl⟩
  · simp only [if_neg (show ¬ zn 1 = 0 by decide)]
    rcases g4 with ⟨rfl, rfl⟩ | ⟨q, hq, rfl, rfl⟩
    · exact ⟨-1, rfl, by rw [if_pos rfl]⟩
    · exact ⟨zn q, rfl, by rw [if_neg (show ¬ zn q = 100000 by rw [zl100000, zn_eq (by omega) (by omega)]; omega)]⟩
def hMn (w : Nat → Int32) : Nat → Nat × Nat
  | 0 => (100000, 0)
  | i + 1 => (min (hMn w i).1 (zi (w (27 + i))), max (hMn w i).2 (zi (w (27 + i))))
theorem hMn_le {w : Nat → Int32} {n : Nat} (h : ∀ p, p < n → zi (w (27 + p)) ≤ 999) : ∀ i, i ≤ n → (hMn w i).1 ≤ 100000 ∧ (hMn w i).2 ≤ 999
  | 0, _ => ⟨Nat.le_refl _, Nat.zero_le _⟩
  | i + 1, hi => by
    have := hMn_le h i (by omega)
    have := h i (by omega)
    simp only [hMn]
    omega
theorem zmin_zn {p q : Nat} (hp : p < 2147483648) (hq : q < 2147483648) : zmin (zn p) (zn q) = zn (min p q) := by
  unfold zmin
  by_cases hc : zn q < zn p
  · rw [if_pos hc]
    rw [zn_lt hq hp] at hc
    congr 1; omega
  · rw [if_neg hc]
    rw [zn_lt hq hp] at hc
    congr 1; omega
theorem zmax_zn {p q : Nat} (hp : p < 2147483648) (hq : q < 2147483648) : zmax (zn p) (zn q) = zn (max p q) := by
  unfold zmax
  by_cases hc : zn p < zn q
  · rw [if_pos hc]
    rw [zn_lt hp hq] at hc
    congr 1; omega
  · rw [if_neg hc]
    rw [zn_lt hp hq] at hc
    congr 1; omega
theorem syncP_spread (x : Int32) : syncP (f131_spread x) (f240_spread x) := by
  rintro A B ⟨n, k, c, b, h0, -⟩
  have hn10 := h0.2.1.1.1
  have h48 := h0.2.1.1.2.1
  have h11 : A 1 11 = zn n := h0.1.1.1.1.trans h48
  have hh : ∀ p, p < n → B 149 (27 + p) = zn (zi (B 149 (27 + p))) ∧ zi (B 149 (27 + p)) ≤ 999 := fun p hp => by
    obtain ⟨-, ⟨hd, hhd, ehd⟩, -⟩ := val_p h0 hp
    rw [ehd, zn_zi (by omega)]
    exact ⟨rfl, hhd⟩
  have hle := hMn_le (fun p hp => (hh p hp).2)
  -- the latest, and the reference's all in one
  obtain ⟨r, ⟨s1, s2, s3⟩, g1, g2, g3, g4, g5⟩ := zpair (fun f (a : Int32) c => f133_l4 A f a c) (fun f (d : Int32 × Int32 × Int32) c => f240_l23 B f d.1 d.2.1 d.2.2 c) n (fun i a d => a = d.2.2 ∧ (a = -1 ∨ ∃ q, q < n ∧ a = zn q) ∧ d.1 = zn (hMn (B 149) i).1 ∧ d.2.1 = zn (hMn (B 149) i).2) (fun a d => a = d.2.2 ∧ d.1 = zn (hMn (B 149) n).1 ∧ d.2.1 = zn (hMn (B 149) n).2) (fun f i a d hi had => by
    obtain ⟨d1, d2, d3⟩ := d
    obtain ⟨rfl, ha, rfl, rfl⟩ := had
    left
    (try dsimp only)
    have hlt : zn i < zn n := (zn_lt (by omega) (by omega)).mpr hi
    have hz : zin (zn i) 10 = true := (zn_zin (by omega)).mpr (by omega)
    have zz : zi (zn i) = i := zn_zi (by omega)
    obtain ⟨m1, m2, m3, m4, m5, m6, m7⟩ := mom_p h0 hi
    obtain ⟨eh, eh2⟩ := hh i hi
    have l1 := (hle i (by omega)).1
    have l2 := (hle i (by omega)).2
    rw [f133_l4, f240_l23, h11, h48, if_pos hlt, if_pos hlt, show zin (27 + zn i) 2064 = true from zx (d := 27) (by decide) (by omega), show zi (27 + zn i) = 27 + i from zy (d := 27) (by decide) (by omega), show zin (37 + zn i) 2064 = true from zx (d := 37) (by decide) (by omega), show zi (37 + zn i) = 37 + i from zy (d := 37) (by decide) (by omega), zz, m2, m3, hz, zadd1]
    simp only [↓reduceIte, les_eq, gre_eq, Option.bind_some]
    have e1 : zmin (zn (hMn (B 149) i).1) (B 149 (27 + i)) = zn (hMn (B 149) (i + 1)).1 := by rw [eh, zmin_zn (by omega) (by omega)]; simp only [hMn]
    have e2 : zmax (zn (hMn (B 149) i).2) (B 149 (27 + i)) = zn (hMn (B 149) (i + 1)).2 := by rw [eh, zmax_zn (by omega) (by omega)]; simp only [hMn]
    rw [e1, e2]
    by_cases c1 : 0 < B 149 (27 + i)
    · rw [if_pos c1, if_pos c1]
      rcases ha with rfl | ⟨q, hq, rfl⟩
      · rw [if_pos rfl, if_pos rfl]
        exact ⟨zn i, (_, _, zn i), ⟨rfl, Or.inr ⟨i, hi, rfl⟩, rfl, rfl⟩, rfl, rfl⟩
      · have hne : ¬ zn q = -1 := zn_ne_neg (by omega)
        have hzq : zin (zn q) 10 = true := (zn_zin (by omega)).mpr (by omega)
        have zzq : zi (zn q) = q := zn_zi (by omega)
        obtain ⟨k1, k2, k3, k4, k5, k6, k7⟩ := mom_p h0 hq
        rw [if_neg hne, if_neg hne, hzq, zzq, k3, show zin (37 + zn q) 2064 = true from zx (d := 37) (by decide) (by omega), show zi (37 + zn q) = 37 + q from zy (d := 37) (by decide) (by omega)]
        simp only [↓reduceIte]
        by_cases c2 : B 149 (37 + i) < B 149 (37 + q)
        · rw [if_pos c2, if_pos c2]
          exact ⟨zn i, (_, _, zn i), ⟨rfl, Or.inr ⟨i, hi, rfl⟩, rfl, rfl⟩, rfl, rfl⟩
        · rw [if_neg c2, if_neg c2]
          exact ⟨zn q, (_, _, zn q), ⟨rfl, Or.inr ⟨q, hq, rfl⟩, rfl, rfl⟩, rfl, rfl⟩
    · rw [if_neg c1, if_neg c1]
      exact ⟨a, (_, _, a), ⟨rfl, ha, rfl, rfl⟩, rfl, rfl⟩) (fun f a d had => by
    obtain ⟨h1, -, h2⟩ := had
    have hng : ¬ zn n < zn n := by rw [zn_lt (by omega) (by omega)]; omega
    refine ⟨a, d, ⟨h1, h2⟩, ?_, ?_⟩
    · (try dsimp only)
      rw [f133_l4, h11, if_neg hng]
    · (try dsimp only)
      rw [f240_l23, h48, if_neg hng]) zfu 0 (-1) (100000, 0, -1) (by omega) (by rw [zfu_eq]; omega) ⟨rfl, Or.inl rfl, rfl, rfl⟩
  simp only at g3 g4 g5
  subst g3
  have g1 : f133_l4 A zfu (-1) 0 = some r := g1
  have g2 : f240_l23 B zfu 100000 0 (-1) 0 = some (s1, s2, r) := g2
  -- the class's least and greatest
  have hcls : f132_spreadOfHad A = some (if n = 0 then 0 else s2 - s1) := by
    unfold f132_spreadOfHad
    by_cases hn0 : n = 0
    · subst hn0
      have : f132_l22 A zfu (A 4 0) (A 4 0) 1 = some (A 4 0, A 4 0) := by
        obtain ⟨m, hm⟩ : ∃ m, zfu = m + 1 := ⟨99999, rfl⟩
        rw [hm, f132_l22, h11, if_neg (by decide)]
      simp only [zlet]
      rw [this]
      simp only [Option.bind_some, ↓reduceIte]
      rw [Int32.sub_self]
    · obtain ⟨⟨t1, t2⟩, e1, e2⟩ := zloop (fun f (a : Int32 × Int32) c => f132_l22 A f a.1 a.2 c) n (fun i a => 1 ≤ i ∧ a = (zn (hMn (B 149) i).1, zn (hMn (B 149) i).2)) (fun a => a = (zn (hMn (B 149) n).1, zn (hMn (B 149) n).2)) (fun f i a hi ha => by
        obtain ⟨hi1, rfl⟩ := ha
        left
        refine ⟨_, ⟨by omega, rfl⟩, ?_⟩
        (try dsimp only)
        have hlt : zn i < zn n := (zn_lt (by omega) (by omega)).mpr hi
        have hz : zin (zn i) 10 = true := (zn_zin (by omega)).mpr (by omega)
        have zz : zi (zn i) = i := zn_zi (by omega)
        obtain ⟨m1, m2, m3, m4, m5, m6, m7⟩ := mom_p h0 hi
        obtain ⟨eh, eh2⟩ := hh i hi
        have l1 := (hle i (by omega)).1
        have l2 := (hle i (by omega)).2
        rw [f132_l22, h11, if_pos hlt, if_pos hz]
        simp only [zlet]
        rw [if_pos hz, zz, m2, zadd1, eh, zmin_zn (by omega) (by omega), zmax_zn (by omega) (by omega)]
        simp only [hMn]) (fun f a ha => by
        obtain ⟨hi1, rfl⟩ := ha
        refine ⟨_, rfl, ?_⟩
        (try dsimp only)
        rw [f132_l22, h11, if_neg (by rw [zn_lt (by omega) (by omega)]; omega)]) zfu 1 (A 4 0, A 4 0) (by omega) (by rw [zfu_eq]; omega) ⟨by omega, by
          obtain ⟨m1, m2, -⟩ := mom_p h0 (show 0 < n by omega)
          obtain ⟨eh, eh2⟩ := hh 0 (by omega)
          rw [m2]
          simp only [hMn]
          rw [show min 100000 (zi (B 149 (27 + 0))) = zi (B 149 (27 + 0)) by omega, show max 0 (zi (B 149 (27 + 0))) = zi (B 149 (27 + 0)) by omega, ← eh]⟩
      have e1 : f132_l22 A zfu (A 4 0) (A 4 0) 1 = some (t1, t2) := e1
      simp only [zlet]
      rw [e1]
      simp only [Option.bind_some]
      rw [if_neg hn0, g4, g5]
      have := congrArg Prod.fst e2
      have h2 := congrArg Prod.snd e2
      simp only at this h2
      rw [this, h2]
  unfold f131_spread f240_spread f133_latestGiven
  rw [g1, g2, hcls, h48]
  by_cases c0 : x = 0
  · subst c0
    rw [show f149_isIn 0 0 1 = some 1 from rfl]
    simp only [Option.bind_some, if_neg h10, if_neg (show ¬ (0 : Int32) = 1 by decide), ↓reduceIte]
    by_cases hn0 : n = 0
    · rw [if_pos hn0, if_pos (show zn n = 0 by rw [hn0]; rfl)]; exact ⟨_, rfl, rfl⟩
    · rw [if_neg hn0, if_neg (show ¬ zn n = 0 by rw [zl0, zn_eq (by omega) (by decide)]; exact hn0)]; exact ⟨_, rfl, rfl⟩
  · simp only [if_neg c0]
    by_cases c1 : x = 1
    · subst c1
      rw [show f149_isIn 1 0 1 = some 1 from rfl]
      simp only [Option.bind_some, if_neg h10, ↓reduceIte]
      exact ⟨r, rfl, rfl⟩
    · rcases within_ex (x := x) (lo := 0) (hi := 1) (by decide) (by decide) with ⟨u, -, hu, rfl, e1, e2⟩ | ⟨e1, e2⟩
      · have hu2 : u = 0 ∨ u = 1 := by omega
        rcases hu2 with rfl | rfl
        · exact absurd rfl c0
        · exact absurd rfl c1
      · rw [show f149_isIn x 0 1 = some 0 from e2]
        simp only [if_neg c1]
        exact ⟨-1, rfl, rfl⟩
theorem syncP_way (x y : Int32) : syncP (f134_way x y) (f262_way x y) := by
  rintro A B ⟨n, k, c, b, h0, -⟩
  have hn10 := h0.2.1.1.1
  have h48 := h0.2.1.1.2.1
  have h11 : A 1 11 = zn n := h0.1.1.1.1.trans h48
  unfold f134_way f262_way
  rcases has_eq h0 x with ⟨p, hp, rfl, e1, e2⟩ | ⟨e1, e2⟩
  case inr => rw [e1, e2]; exact ⟨-1, rfl, rfl⟩
  rcases has_eq h0 y with ⟨q, hq, rfl, e3, e4⟩ | ⟨e3, e4⟩
  case inr => rw [e1, e2, e3, e4]; exact ⟨-1, rfl, rfl⟩
  rw [e1, e2, e3, e4]
  simp only [Option.bind_some, if_neg h10, zlet]
  have pw : 2 ^ p < 1024 := Nat.lt_of_lt_of_le (Nat.pow_lt_pow_right (by decide) (show p < 10 by omega)) (Nat.le_refl _)
  rw [show zshl 1 (zn p) = zn (2 ^ p) by rw [zl1]; exact zn_shl (by omega)]
  -- one step on
  have inner : ∀ s, s < 1024 → ∃ t, t < 1024 ∧ f135_tiedTo (zn s) A = some (zn t) ∧ f262_l50 B (zn s) zfu (zn s) 0 = some (zn (s ||| t)) := by
    intro s hs
    obtain ⟨r, r', g1, g2, t, ht, rfl, rfl⟩ := zpair (fun f (a : Int32) c => f135_l4 (zn s) A f a c) (fun f (a : Int32) c => f262_l50 B (zn s) f a c) n (fun _ a d => ∃ t, t < 1024 ∧ a = zn t ∧ d = zn (s ||| t)) (fun a d => ∃ t, t < 1024 ∧ a = zn t ∧ d = zn (s ||| t)) (fun f i a d hi had => by
      obtain ⟨t, ht, rfl, rfl⟩ := had
      left
      (try dsimp only)
      have hlt : zn i < zn n := (zn_lt (by omega) (by omega)).mpr hi
      have hz : zin (zn i) 10 = true := (zn_zin (by omega)).mpr (by omega)
      have zz : zi (zn i) = i := zn_zi (by omega)
      obtain ⟨m1, m2, m3, m4, m5, m6, m7⟩ := mom_p h0 hi
      obtain ⟨-, -, ⟨u, hu, eu, -⟩, -⟩ := val_p h0 hi
      rw [f135_l4, f262_l50, h11, h48, if_pos hlt, if_pos hlt, isIn_zn (by omega) (by omega), zbit (by omega) (by omega), show zin (7 + zn i) 2064 = true from zx (d := 7) (by decide) (by omega), show zi (7 + zn i) = 7 + i from zy (d := 7) (by decide) (by omega), hz, zz, m4, eu, zadd1]
      simp only [Option.bind_some, zlet, ↓reduceIte]
      by_cases hb : s.testBit i = true
      · simp only [if_pos hb, if_neg h10, ↓reduceIte]
        exact ⟨zn (t ||| u), zn (s ||| (t ||| u)), ⟨t ||| u, Nat.or_lt_two_pow (n := 10) ht hu, rfl, rfl⟩, by rw [zn_or], by rw [zn_or, Nat.or_assoc]⟩
      · simp only [if_neg hb, if_neg (show ¬ (0 : Int32) = 1 by decide), ↓reduceIte]
        exact ⟨zn t, zn (s ||| t), ⟨t, ht, rfl, rfl⟩, rfl, by rw [Int32.or_zero]⟩) (fun f a d had => by
      have hng : ¬ zn n < zn n := by rw [zn_lt (by omega) (by omega)]; omega
      refine ⟨a, d, had, ?_, ?_⟩
      · (try dsimp only)
        rw [f135_l4, h11, if_neg hng]
      · (try dsimp only)
        rw [f262_l50, h48, if_neg hng]) zfu 0 0 (zn s) (by omega) (by rw [zfu_eq]; omega) ⟨0, by decide, rfl, by rw [Nat.or_zero]⟩
    have g1 : f135_l4 (zn s) A zfu 0 0 = some (zn t) := g1
    exact ⟨t, ht, by rw [f135_tiedTo, g1]; rfl, g2⟩
  obtain ⟨r, r', g1, g2, g3⟩ := zpair (fun f (a : Int32) c => f134_l31 (zn q) A f a c) (fun f (a : Int32) c => f262_l25 (zn q) B f a c) 10 (fun _ a d => a = d ∧ ∃ s, s < 1024 ∧ a = zn s) (fun a d => a = d) (fun f i a d hi had => by
    obtain ⟨rfl, s, hs, rfl⟩ := had
    (try dsimp only)
    have hlt : zn i < 10 := by rw [zl10, zn_lt (by omega) (by decide)]; exact hi
    obtain ⟨t, ht, e1, e2⟩ := inner s hs
    rw [f134_l31, f262_l25, if_pos hlt, if_pos hlt, isIn_zn (by omega) (by omega), zbit (by omega) (by omega), zadd1, e1, e2]
    simp only [Option.bind_some, zlet]
    by_cases hb : s.testBit q = true
    · simp only [if_pos hb, if_neg h10, ↓reduceIte]
      exact Or.inr ⟨_, _, rfl, rfl, rfl⟩
    · simp only [if_neg hb, if_neg (show ¬ (0 : Int32) = 1 by decide), ↓reduceIte]
      exact Or.inl ⟨zn (s ||| t), zn (s ||| t), ⟨rfl, s ||| t, Nat.or_lt_two_pow (n := 10) hs ht, rfl⟩, by rw [zn_or], rfl⟩) (fun f a d had => by
    refine ⟨-1, -1, rfl, ?_, ?_⟩
    · (try dsimp only)
      rw [f134_l31, if_neg (by decide)]
    · (try dsimp only)
      rw [f262_l25, if_neg (by decide)]) zfu 0 (zn (2 ^ p)) (zn (2 ^ p)) (by omega) (by rw [zfu_eq]; omega) ⟨rfl, 2 ^ p, pw, rfl⟩
  subst g3
  exact ⟨r, g1, g2⟩
end
section
-- ===== doers, clique, bid, sold, look, end, feed =====
theorem xor_at {s p : Nat} (hs : s.testBit p = true) : s &&& (2 ^ p ^^^ 4294967295) = s ^^^ 2 ^ p ∨ 32 ≤ p ∨ ¬ s < 2 ^ 32 := by
  by_cases hp : p < 32
  · by_cases hs32 : s < 2 ^ 32
    · left
      apply Nat.eq_of_testBit_eq
      intro i
      by_cases hi : i < 32
      · rw [tb_not hi, Nat.testBit_xor, Nat.testBit_two_pow]
        by_cases hip : p = i
        · subst hip; rw [hs]; simp
        · simp [hip]
      · have h1 : s.testBit i = false := Nat.testBit_lt_two_pow (Nat.lt_of_lt_of_le hs32 (Nat.pow_le_pow_right (by decide) (by omega)))
        rw [Nat.testBit_and, Nat.testBit_xor, Nat.testBit_two_pow, h1]
        have : ¬ p = i := by omega
        simp [this, h1]
    · exact Or.inr (Or.inr hs32)
  · exact Or.inr (Or.inl (by omega))
theorem xor_at' {s p : Nat} (hs : s.testBit p = true) (h : s < 1024) (hp : p < 10) : s &&& (2 ^ p ^^^ 4294967295) = s ^^^ 2 ^ p := by
  rcases xor_at hs with h1 | h1 | h1
  · exact h1
  · omega
  · omega
theorem sync_doers (x : Int32) : sync (f127_doers x) (f243_doers x) := sync_q (by
  intro A B n k c b h0
  have hn10 := h0.2.1.1.1
  have h48 := h0.2.1.1.2.1
  have hp := pow_1024 hn10
  have hru := h0.2.1.2.2.2.1
  rcases within_ex (x := x) (lo := 0) (hi := 2) (by decide) (by decide) with ⟨u, -, hu, rfl, e1, e2⟩ | ⟨e1, e2⟩
  case inr => exact ⟨-1, A, B, by unfold f127_doers; rw [show f13_within x 0 2 = some 0 from e1]; rfl, by unfold f243_doers; rw [show f149_isIn x 0 2 = some 0 from e2]; rfl, scrA_refl A, scrB_refl B, fun _ _ => rfl, fun _ _ => rfl⟩
  obtain ⟨A1, a1, a2, a3⟩ := fill_cls h0
  have hI1 : Inv5 A1 B n k c b := Inv5_scr h0 (fill_scr a3) rfl
  have h11 : A1 1 11 = zn n := hI1.1.1.1.1.trans h48
  -- whether each one is needed
  have need : ∀ (s : Nat) (B3 : ZI), s < 2 ^ n → (∀ o, o ≠ 159 → B3 o = B o) → ∃ v B4, f128_needsEachOne (zn s) A1 = some v ∧ f244_needsAll (zn s) B3 = some (v, B4) ∧ ∀ o, o ≠ 159 → B4 o = B o := by
    intro s B3 hs hB3
    obtain ⟨v, ⟨v', B4⟩, g1, g2, g3, g4⟩ := zpair (fun f (_ : Unit) c => f128_l2 (zn s) A1 f c) (fun f (d : ZI) c => f244_l2 (zn s) f c d) n (fun _ _ d => ∀ o, o ≠ 159 → d o = B o) (fun (a : Int32) (d : Int32 × ZI) => a = d.1 ∧ ∀ o, o ≠ 159 → d.2 o = B o) (fun f i a d hi had => by
      (try dsimp only)
      have hlt : zn i < zn n := (zn_lt (by omega) (by omega)).mpr hi
      have e48 : d 149 48 = zn n := by rw [had 149 (by decide)]; exact h48
      have pwi : 2 ^ i < 2 ^ n := Nat.pow_lt_pow_right (by decide) hi
      have hx : s ^^^ 2 ^ i < 2 ^ n := Nat.xor_lt_two_pow hs pwi
      have hz : zin (zn (s ^^^ 2 ^ i)) 1024 = true := (zn_zin (by omega)).mpr (by omega)
      rw [f128_l2, f244_l2, h11, e48, if_pos hlt, if_pos hlt, isIn_zn (by omega) (by omega), zbit (by omega) (by omega), show zshl 1 (zn i) = zn (2 ^ i) by rw [zl1]; exact zn_shl (by omega), zn_xor, if_pos hz, zn_zi (by omega), a2 _ hx, zadd1]
      simp only [Option.bind_some]
      by_cases hb : s.testBit i = true
      · have ex : zn s &&& (zn (2 ^ i) ^^^ -1) = zn (s ^^^ 2 ^ i) := by rw [not_zn, xor_at' hb (by omega) (by omega)]
        obtain ⟨B5, b1, b2⟩ := sat_eq (M := d) (show s ^^^ 2 ^ i < 1024 by omega) hru (had 149 (by decide))
        have gg : ∀ o, o ≠ 159 → B5 o = B o := fun o ho => (b2 o ho).trans (had o ho)
        simp only [if_pos hb, if_neg h10, ↓reduceIte]
        rw [ex, b1]
        simp only [Option.bind_some]
        rcases sSat_01 hru (show s ^^^ 2 ^ i < 1024 by omega) with h | h
        · rw [h]
          simp only [↓reduceIte]
          exact Or.inl ⟨(), B5, gg, trivial, rfl⟩
        · rw [h]
          simp only [if_neg h10]
          exact Or.inr ⟨0, (0, B5), ⟨rfl, gg⟩, rfl, rfl⟩
      · simp only [if_neg hb, if_neg (show ¬ (0 : Int32) = 1 by decide), ↓reduceIte]
        exact Or.inl ⟨(), d, had, trivial, rfl⟩) (fun f a d had => by
      have e48 : d 149 48 = zn n := by rw [had 149 (by decide)]; exact h48
      have hng : ¬ zn n < zn n := by rw [zn_lt (by omega) (by omega)]; omega
      refine ⟨1, (1, d), ⟨rfl, had⟩, ?_, ?_⟩
      · (try dsimp only)
        rw [f128_l2, h11, if_neg hng]
      · (try dsimp only)
        rw [f244_l2, e48, if_neg hng]) zfu 0 () B3 (by omega) (by rw [zfu_eq]; omega) hB3
    simp only at g3 g4
    subst g3
    exact ⟨v, B4, g1, g2, g4⟩
  obtain ⟨⟨r1, r2, r3⟩, ⟨s1, s2, s3, B2⟩, g1, g2, g3, g4, g5, g6⟩ := zpair (fun f (a : Int32 × Int32 × Int32) c => f127_l34 A1 (zn (2 ^ n - 1)) f a.1 a.2.1 a.2.2 c) (fun f (d : Int32 × Int32 × Int32 × ZI) c => f243_l24 f d.1 d.2.1 d.2.2.1 c d.2.2.2) (2 ^ n) (fun _ a d => a.1 = d.1 ∧ a.2.1 = d.2.1 ∧ a.2.2 = d.2.2.1 ∧ ∀ o, o ≠ 159 → d.2.2.2 o = B o) (fun a d => a.1 = d.1 ∧ a.2.1 = d.2.1 ∧ a.2.2 = d.2.2.1 ∧ ∀ o, o ≠ 159 → d.2.2.2 o = B o) (fun f i a d hi had => by
    obtain ⟨x1, x2, x3⟩ := a
    obtain ⟨y1, y2, y3, B3⟩ := d
    obtain ⟨rfl, rfl, rfl, g⟩ := had
    simp only at g
    left
    (try dsimp only)
    have e48 : B3 149 48 = zn n := by rw [g 149 (by decide)]; exact h48
    have hz : zin (zn i) 1024 = true := (zn_zin (by omega)).mpr (by omega)
    have hng : ¬ zn (2 ^ n - 1) < zn i := by rw [zn_lt (by omega) (by omega)]; omega
    have hlt1 : zn i < 1024 := by rw [zl1024, zn_lt (by omega) (by decide)]; omega
    obtain ⟨B4, b1, b2⟩ := sat_eq (M := B3) (show i < 1024 by omega) hru (g 149 (by decide))
    have gg : ∀ o, o ≠ 159 → B4 o = B o := fun o ho => (b2 o ho).trans (g o ho)
    obtain ⟨v, B5, n1, n2, n3⟩ := need i B4 hi gg
    rw [f127_l34, f243_l24, all_ref hn10 e48, if_neg hng, if_pos hlt1, if_pos hz, zn_zi (by omega), a2 i hi, n1, zadd1]
    simp only [Option.bind_some]
    rw [if_neg hng, b1]
    simp only [Option.bind_some]
    rw [n2]
    simp only [Option.bind_some, zlet_e]
    rcases sSat_01 hru (show i < 1024 by omega) with h | h
    · rw [h]
      simp only [↓reduceIte]
      exact ⟨(x1, x2, x3), (x1, x2, x3, B4), ⟨rfl, rfl, rfl, gg⟩, rfl, rfl⟩
    · rw [h]
      simp only [if_neg h10]
      by_cases hv : v = 0
      · simp only [if_pos hv, Option.bind_some]
        exact ⟨(x1 + 1, x2 + 0, x3 &&& zn i), (x1 + 1, x2 + 0, x3 &&& zn i, B5), ⟨rfl, rfl, rfl, n3⟩, rfl, rfl⟩
      · simp only [if_neg hv, Option.bind_some]
        exact ⟨(x1 + 1, x2 + 1, x3 &&& zn i), (x1 + 1, x2 + 1, x3 &&& zn i, B5), ⟨rfl, rfl, rfl, n3⟩, rfl, rfl⟩) (fun f a d had => by
    obtain ⟨x1, x2, x3⟩ := a
    obtain ⟨y1, y2, y3, B3⟩ := d
    have g := had.2.2.2
    simp only at g
    have e48 : B3 149 48 = zn n := by rw [g 149 (by decide)]; exact h48
    have hyg : zn (2 ^ n - 1) < zn (2 ^ n) := by rw [zn_lt (by omega) (by omega)]; omega
    refine ⟨_, _, had, ?_, ?_⟩
    · (try dsimp only)
      rw [f127_l34, if_pos hyg]
    · (try dsimp only)
      rw [f243_l24, all_ref hn10 e48]
      simp only [Option.bind_some]
      rw [if_pos hyg]) zfu 0 (0, 0, zn (2 ^ n - 1)) (0, 0, zn (2 ^ n - 1), B) (by omega) (by rw [zfu_eq]; omega) ⟨rfl, rfl, rfl, fun _ _ => rfl⟩
  simp only at g3 g4 g5 g6
  subst g3
  subst g4
  subst g5
  have g1 : f127_l34 A1 (zn (2 ^ n - 1)) zfu 0 0 (zn (2 ^ n - 1)) 0 = some (r1, r2, r3) := g1
  have g2 : f243_l24 zfu 0 0 (zn (2 ^ n - 1)) 0 B = some (r1, r2, r3, B2) := g2
  have hu3 : u = 0 ∨ u = 1 ∨ u = 2 := by omega
  refine ⟨if u = 0 then r1 else if u = 1 then r2 else r3, A1, B2, ?_, ?_, fill_scr a3, scrB_of (fun o _ q2 _ _ => g6 o q2), fun o ho => a3 o (by omega) (by omega), fun o ho => g6 o (by omega)⟩
  · unfold f127_doers
    rw [show f13_within (zn u) 0 2 = some 1 from e1]
    simp only [Option.bind_some, if_neg h10]
    rw [a1]
    simp only [Option.bind_some]
    rw [all_cls hI1]
    simp only [Option.bind_some]
    rw [g1]
    rcases hu3 with rfl | rfl | rfl <;> rfl
  · unfold f243_doers
    rw [show f149_isIn (zn u) 0 2 = some 1 from e2]
    simp only [Option.bind_some, if_neg h10]
    rw [all_ref hn10 h48]
    simp only [Option.bind_some]
    rw [g2]
    rcases hu3 with rfl | rfl | rfl <;> rfl)
theorem clq_eq {s t p : Nat} (hs : s < 1024) (ht : t < 1024) (hp : p < 10) (hsp : s.testBit p = true) (htp : t.testBit p = false) : (zn s &&& (zn t ^^^ -1) = zn (2 ^ p)) ↔ ((zn s &&& (zn (2 ^ p) ^^^ -1)) &&& (zn t ^^^ -1) = 0) := by
  have pw : 2 ^ p < 1024 := Nat.lt_of_lt_of_le (Nat.pow_lt_pow_right (by decide) hp) (Nat.le_refl _)
  have l1 : s &&& (t ^^^ 4294967295) < 1024 := Nat.lt_of_le_of_lt Nat.and_le_left hs
  have l2 : s &&& (2 ^ p ^^^ 4294967295) < 1024 := Nat.lt_of_le_of_lt Nat.and_le_left hs
  have l3 : (s &&& (2 ^ p ^^^ 4294967295)) &&& (t ^^^ 4294967295) < 1024 := Nat.lt_of_le_of_lt Nat.and_le_left l2
  rw [not_zn, not_zn, not_zn, zl0, zn_eq (by omega) (by omega), zn_eq (by omega) (by omega)]
  have b1 : ∀ i, i < 32 → (s &&& (t ^^^ 4294967295)).testBit i = (s.testBit i && !t.testBit i) := fun i hi => tb_not hi
  have b2 : ∀ i, i < 32 → ((s &&& (2 ^ p ^^^ 4294967295)) &&& (t ^^^ 4294967295)).testBit i = (s.testBit i && !decide (p = i) && !t.testBit i) := fun i hi => by rw [tb_not hi, tb_not hi, Nat.testBit_two_pow]
  constructor
  · intro h
    apply Nat.eq_of_testBit_eq
    intro i
    rw [Nat.zero_testBit]
    by_cases hi : i < 32
    · rw [b2 i hi]
      have := congrArg (fun x => x.testBit i) h
      simp only [b1 i hi, Nat.testBit_two_pow] at this
      by_cases hpi : p = i
      · simp [hpi]
      · simp only [hpi, decide_false] at this ⊢
        revert this
        cases s.testBit i <;> cases t.testBit i <;> simp
    · exact Nat.testBit_lt_two_pow (Nat.lt_of_lt_of_le l3 (Nat.le_trans (by decide : (1024 : Nat) ≤ 2 ^ 32) (Nat.pow_le_pow_right (by decide) (by omega))))
  · intro h
    apply Nat.eq_of_testBit_eq
    intro i
    rw [Nat.testBit_two_pow]
    by_cases hi : i < 32
    · rw [b1 i hi]
      have := congrArg (fun x => x.testBit i) h
      simp only [b2 i hi, Nat.zero_testBit] at this
      by_cases hpi : p = i
      · subst hpi
        simp [hsp, htp]
      · simp only [hpi, decide_false] at this ⊢
        revert this
        cases s.testBit i <;> cases t.testBit i <;> simp
    · have : ¬ p = i := by omega
      rw [Nat.testBit_lt_two_pow (Nat.lt_of_lt_of_le l1 (Nat.le_trans (by decide : (1024 : Nat) ≤ 2 ^ 32) (Nat.pow_le_pow_right (by decide) (by omega))))]
      simp [this]
theorem syncP_clique (x : Int32) : syncP (f136_clique x) (f263_clique x) := by
  rintro A B ⟨n, k, c, b, h0, -⟩
  have hn10 := h0.2.1.1.1
  have h48 := h0.2.1.1.2.1
  have h11 : A 1 11 = zn n := h0.1.1.1.1.trans h48
  have hp := pow_1024 hn10
  rcases within_ex (x := x) (lo := 0) (hi := 1) (by decide) (by decide) with ⟨u, -, hu, rfl, e1, e2⟩ | ⟨e1, e2⟩
  case inr => exact ⟨-1, by unfold f136_clique; rw [show f13_within x 0 1 = some 0 from e1]; rfl, by unfold f263_clique; rw [show f149_isIn x 0 1 = some 0 from e2]; rfl⟩
  have isc : ∀ s, s < 2 ^ n → ∃ v, f137_isClique (zn s) A = some v ∧ f264_isClique (zn s) B = some v := by
    intro s hs
    obtain ⟨v, v', g1, g2, g3⟩ := zpair (fun f (_ : Unit) c => f137_l2 (zn s) A f c) (fun f (_ : Unit) c => f264_l2 (zn s) B f c) n (fun _ _ _ => True) (fun (a d : Int32) => a = d) (fun f i a d hi _ => by
      (try dsimp only)
      have hlt : zn i < zn n := (zn_lt (by omega) (by omega)).mpr hi
      have hz : zin (zn i) 10 = true := (zn_zin (by omega)).mpr (by omega)
      have zz : zi (zn i) = i := zn_zi (by omega)
      obtain ⟨m1, m2, m3, m4, m5, m6, m7⟩ := mom_p h0 hi
      obtain ⟨-, -, ⟨t, ht, et, htp⟩, -⟩ := val_p h0 hi
      rw [f137_l2, f264_l2, h11, h48, if_pos hlt, if_pos hlt, isIn_zn (by omega) (by omega), zbit (by omega) (by omega), show zin (7 + zn i) 2064 = true from zx (d := 7) (by decide) (by omega), show zi (7 + zn i) = 7 + i from zy (d := 7) (by decide) (by omega), hz, zz, m4, et, show zshl 1 (zn i) = zn (2 ^ i) by rw [zl1]; exact zn_shl (by omega), zadd1]
      simp only [Option.bind_some, ↓reduceIte]
      by_cases hb : s.testBit i = true
      · simp only [if_pos hb, if_neg h10, ↓reduceIte]
        have := clq_eq (show s < 1024 by omega) ht (show i < 10 by omega) hb htp
        by_cases hc : zn s &&& (zn t ^^^ -1) = zn (2 ^ i)
        · rw [if_pos hc, if_pos (this.mp hc)]
          exact Or.inl ⟨(), (), trivial, rfl, rfl⟩
        · rw [if_neg hc, if_neg (fun h => hc (this.mpr h))]
          exact Or.inr ⟨0, 0, rfl, rfl, rfl⟩
      · simp only [if_neg hb, if_neg (show ¬ (0 : Int32) = 1 by decide), ↓reduceIte]
        exact Or.inl ⟨(), (), trivial, trivial, trivial⟩) (fun f a d _ => by
      have hng : ¬ zn n < zn n := by rw [zn_lt (by omega) (by omega)]; omega
      refine ⟨1, 1, rfl, ?_, ?_⟩
      · (try dsimp only)
        rw [f137_l2, h11, if_neg hng]
      · (try dsimp only)
        rw [f264_l2, h48, if_neg hng]) zfu 0 () () (by omega) (by rw [zfu_eq]; omega) trivial
    subst g3
    exact ⟨v, g1, g2⟩
  obtain ⟨mf, hmf, hmf2⟩ : ∃ m, zfu = m + 1 ∧ 2000 < m := ⟨99999, rfl, by decide⟩
  obtain ⟨r, r', g1, g2, g3, s, hs, g4⟩ := zpair (fun f (a : Int32) c => f136_l24 A (zn (2 ^ n - 1)) f a c) (fun f (a : Int32) c => f263_l15 B (f + 1) a c) (2 ^ n) (fun i a d => 1 ≤ i ∧ a = d ∧ ∃ s, s < 1024 ∧ a = zn s) (fun a d => a = d ∧ ∃ s, s < 1024 ∧ a = zn s) (fun f i a d hi had => by
    obtain ⟨hi1, rfl, s, hs, rfl⟩ := had
    left
    (try dsimp only)
    have hng : ¬ zn (2 ^ n - 1) < zn i := by rw [zn_lt (by omega) (by omega)]; omega
    have hlt1 : zn i < 1024 := by rw [zl1024, zn_lt (by omega) (by decide)]; omega
    obtain ⟨v, v1, v2⟩ := isc i hi
    rw [f136_l24, f263_l15, all_ref hn10 h48, if_neg hng, if_pos hlt1, bitCount_zn (show i < 1024 by omega), bitCount_zn hs, count_zn (show i < 1024 by omega), count_zn hs, v1, v2, zadd1]
    simp only [Option.bind_some]
    rw [if_neg hng]
    by_cases hc : zn (pop s) < zn (pop i)
    · simp only [if_pos hc]
      by_cases hv : v = 0
      · simp only [if_pos hv]
        exact ⟨zn s, zn s, ⟨by omega, rfl, s, hs, rfl⟩, rfl, rfl⟩
      · simp only [if_neg hv]
        exact ⟨zn i, zn i, ⟨by omega, rfl, i, by omega, rfl⟩, rfl, rfl⟩
    · simp only [if_neg hc]
      exact ⟨zn s, zn s, ⟨by omega, rfl, s, hs, rfl⟩, rfl, rfl⟩) (fun f a d had => by
    obtain ⟨hi1, h⟩ := had
    have hyg : zn (2 ^ n - 1) < zn (2 ^ n) := by rw [zn_lt (by omega) (by omega)]; omega
    refine ⟨a, d, h, ?_, ?_⟩
    · (try dsimp only)
      rw [f136_l24, if_pos hyg]
    · (try dsimp only)
      rw [f263_l15, all_ref hn10 h48]
      simp only [Option.bind_some]
      rw [if_pos hyg]) mf 1 0 0 (by omega) (by omega) ⟨by omega, rfl, 0, by decide, rfl⟩
  subst g3
  subst g4
  have g1 : f136_l24 A (zn (2 ^ n - 1)) mf 0 1 = some (zn s) := g1
  have g2 : f263_l15 B (mf + 1) 0 1 = some (zn s) := g2
  have g1' : f136_l24 A (zn (2 ^ n - 1)) zfu 0 0 = some (zn s) := by
    have e0 : ¬ zn (2 ^ n - 1) < 0 := zn_nneg (by omega)
    rw [hmf, f136_l24, if_neg e0, if_pos (by decide), show f28_bitCount 0 = some (zn (pop 0)) from bitCount_zn (s := 0) (by decide)]
    simp only [Option.bind_some]
    rw [if_neg (by rw [zn_lt (by decide) (by decide)]; omega), show (0 : Int32) + 1 = 1 from rfl]
    exact g1
  unfold f136_clique f263_clique
  rw [show f13_within (zn u) 0 1 = some 1 from e1, show f149_isIn (zn u) 0 1 = some 1 from e2, all_cls h0, hmf]
  rw [hmf] at g1'
  simp only [Option.bind_some, if_neg h10]
  rw [g1', g2]
  simp only [Option.bind_some]
  have hu2 : u = 0 ∨ u = 1 := by omega
  rcases hu2 with rfl | rfl
  · simp only [if_pos (show zn 0 = 0 from rfl)]
    rw [bitCount_zn hs, count_zn hs]
    exact ⟨_, rfl, rfl⟩
  · simp only [if_neg (show ¬ zn 1 = 0 by decide)]
    exact ⟨_, rfl, rfl⟩
end
section
-- ===== bid, sold, look, end, feed =====
theorem fix_bid {A A' : ZI} {w w' : Nat → Int32} {n k c b : Nat} (hf : fixIs A 1 w n k c b) (hok : fixOk w n k c b) (g : ∀ o, ¬ (34 ≤ o ∧ o ≤ 36) → A' o = A o) (h : ∀ j, j ≠ 55 → ¬ (562 ≤ j ∧ j < 578) → w' j = w j) {b' : Nat} (hb : bidIs A' 34 w' b') (hb8 : b' ≤ 8) (h55 : w' 55 = zn b') : fixIs A' 1 w' n k c b' ∧ fixOk w' n k c b' := by
  obtain ⟨f1, f2, f3, f4, f5⟩ := hf
  obtain ⟨o1, o2, o3, o4, o5, o6⟩ := hok
  have hk12 := o3.1
  have hn10 := o1.1
  have e2 : ∀ j, 1178 ≤ j → w' j = w j := fun j q1 => h j (by omega) (by omega)
  have e : ∀ j, j ≠ 55 → j < 562 → w' j = w j := fun j q1 q2 => h j q1 (by omega)
  refine ⟨⟨?_, ?_, ?_, ?_, hb⟩, ⟨?_, ?_, ?_, ?_, hb8, h55⟩⟩
  · obtain ⟨p1, p2⟩ := pplIs_of f1 (A' := A') (fun o ho => g o (by omega))
    refine ⟨by rw [e 48 (by decide) (by decide), e 49 (by decide) (by decide), e 50 (by decide) (by decide), e 56 (by decide) (by decide), e 57 (by decide) (by decide)]; exact p1, fun p hp => ?_⟩
    rw [e _ (by omega) (by omega), e _ (by omega) (by omega), e _ (by omega) (by omega)]
    exact p2 p hp
  · exact lawIs_L (h 58 (by decide) (by omega)) e2 (lawIs_of f2 (fun o ho => g o (by omega)))
  · exact wrkIs_W (h 52 (by decide) (by omega)) (fun j q1 q2 => e j (by omega) (by omega)) hk12 (wrkIs_of f3 (by rw [g 21 (by omega)]) (fun o q1 q2 => g o (by omega)))
  · exact ruleIs_C (h 53 (by decide) (by omega)) (h 54 (by decide) (by omega)) (fun j q1 q2 => e j (by omega) (by omega)) o4 (ruleIs_of f4 (fun o q1 q2 => g o (by omega)))
  · obtain ⟨p1, p2, p3, p4, p5, p6, p7, p8⟩ := o1
    refine ⟨p1, by rw [e 48 (by decide) (by decide)]; exact p2, by rw [e 49 (by decide) (by decide)]; exact p3, by rw [e 50 (by decide) (by decide)]; exact p4, by rw [e 56 (by decide) (by decide)]; exact p5, by rw [e 57 (by decide) (by decide)]; exact p6, by rw [e 51 (by decide) (by decide), voiceN_P n (fun p hp => e _ (by omega) (by omega))]; exact p7, fun p hp => ?_⟩
    rw [e _ (by omega) (by omega), e _ (by omega) (by omega), e _ (by omega) (by omega)]
    exact p8 p hp
  · exact lawOk_L (h 58 (by decide) (by omega)) e2 o2
  · exact wrkOk_W (h 52 (by decide) (by omega)) (fun j q1 q2 => e j (by omega) (by omega)) (Nat.le_refl _) o3
  · exact ruleOk_C (h 53 (by decide) (by omega)) (h 54 (by decide) (by omega)) (fun j q1 q2 => e j (by omega) (by omega)) o4
theorem Inv2_bid {A A' B B' : ZI} {n k c b b' : Nat} (h0 : Inv5 A B n k c b) (h6 : pastIs A B n) (h7 : imgIs A B) (h8 : tapeIs A B) (gA : ∀ o, ¬ (34 ≤ o ∧ o ≤ 36) → A' o = A o) (gB : ∀ o, o ≠ 149 → B' o = B o) (h : ∀ j, j ≠ 55 → ¬ (562 ≤ j ∧ j < 578) → B' 149 j = B 149 j) (hb : bidIs A' 34 (B' 149) b') (hb8 : b' ≤ 8) (h55 : B' 149 55 = zn b') : Inv2 A' B' := by
  obtain ⟨h1, h2, h3, h4, h5⟩ := h0
  have hn10 := h2.1.1
  obtain ⟨f1, f2⟩ := fix_bid h1 h2 gA h hb hb8 h55
  have hrow : ∀ j, j < 48 → B' 149 j = B 149 j := fun j hj => h j (by omega) (by omega)
  exact ⟨n, k, c, b', ⟨f1, f2, momIs_row (momIs_of h3 (fun q q1 q2 => gA q (by omega))) hn10 hrow, momOk_row h4 hn10 hrow, bookIs_row (bookIs_of h5 (fun o q1 q2 => gA o (by omega))) (fun j q1 q2 => h j (by omega) (by omega))⟩, pastIs_of h6 ⟨by rw [gA 0 (by omega)], by rw [gA 0 (by omega)], fun o q1 q2 => gA o (by omega)⟩ ⟨by rw [gB 148 (by decide)], gB 151 (by decide)⟩, imgIs_of h7 ⟨by rw [gA 0 (by omega)], fun o q1 q2 => gA o (by omega)⟩ ⟨by rw [gB 148 (by decide)], gB 150 (by decide)⟩, tapeIs_of h8 ⟨by rw [gA 119 (by omega)], by rw [gA 119 (by omega)], by rw [gA 119 (by omega)], gA 120 (by omega)⟩ ⟨by rw [gB 148 (by decide)], by rw [gB 148 (by decide)], by rw [gB 148 (by decide)], gB 158 (by decide)⟩⟩
theorem sync_bid (x y : Int32) : sync (f116_bid x y) (f258_bid x y) := by
  rintro A B ⟨n, k, c, b, h0, h6, h7, h8⟩
  have hI : Inv2 A B := ⟨n, k, c, b, h0, h6, h7, h8⟩
  have hb8 := h0.2.1.2.2.2.2.1
  have h55 : B 149 55 = zn b := h0.2.1.2.2.2.2.2
  obtain ⟨hb1, hb2⟩ : bidIs A 34 (B 149) b := h0.1.2.2.2.2
  by_cases hx : x = -1
  · subst hx
    refine ⟨0, zs A 34 2 0, zs B 149 55 0, rfl, rfl, Inv2_bid (b' := 0) h0 h6 h7 h8 (fun o ho => zs_df (by omega)) (fun o ho => zs_df ho) (fun j q1 q2 => by rw [zs_sm, if_neg q1]) ⟨by rw [zs_sm, zs_sm]; rfl, fun i hi => by omega⟩ (by decide) (by rw [zs_sm]; rfl), fun o ho => zs_df (by omega), fun o ho => zs_df (by omega)⟩
  rcases has_eq h0 x with ⟨p, hp, rfl, e1, e2⟩ | ⟨e1, e2⟩
  case inr => exact sync_same (v := -1) hI (by unfold f116_bid; rw [if_neg hx, e1]; rfl) (by unfold f258_bid; rw [if_neg hx, e2]; rfl)
  rcases within_ex (x := y) (lo := 0) (hi := 9999) (by decide) (by decide) with ⟨u, -, hu, rfl, e3, e4⟩ | ⟨e3, e4⟩
  case inr => exact sync_same (v := -1) hI (by unfold f116_bid; rw [if_neg hx, e1, show f13_within y 0 9999 = some 0 from e3]; rfl) (by unfold f258_bid; rw [if_neg hx, e2, show f149_isIn y 0 9999 = some 0 from e4]; rfl)
  have a2 : A 34 2 = zn b := hb1.trans h55
  by_cases hfull : b = 8
  · subst hfull
    refine sync_same (v := -1) hI ?_ ?_
    · unfold f116_bid; rw [if_neg hx, e1, show f13_within (zn u) 0 9999 = some 1 from e3, a2]; rfl
    · unfold f258_bid; rw [if_neg hx, e2, show f149_isIn (zn u) 0 9999 = some 1 from e4, h55]; rfl
  have hz8 : zin (zn b) 8 = true := (zn_zin (by omega)).mpr (by omega)
  have zz8 : zi (zn b) = b := zn_zi (by omega)
  have q1 : (562 : Int32) + 2 * zn b = zn (562 + 2 * b) := by rw [zl562, zl2, zn_mul, zn_add]
  have q2 : zn (562 + 2 * b) + 1 = zn (563 + 2 * b) := by rw [zadd1]; congr 1; omega
  have q3 : zin (zn (562 + 2 * b)) 2064 = true := (zn_zin (by omega)).mpr (by omega)
  have q4 : zin (zn (563 + 2 * b)) 2064 = true := (zn_zin (by omega)).mpr (by omega)
  have q5 : zi (zn (562 + 2 * b)) = 562 + 2 * b := zn_zi (by omega)
  have q6 : zi (zn (563 + 2 * b)) = 563 + 2 * b := zn_zi (by omega)
  have lt8 : zn b < 8 := by rw [zl8, zn_lt (by omega) (by decide)]; omega
  have ne8 : ¬ zn b = 8 := by rw [zl8, zn_eq (by omega) (by decide)]; exact hfull
  have gA : ∀ o, ¬ (34 ≤ o ∧ o ≤ 36) → (zs (zs (zs A 35 b (zn p)) 36 b (zn u)) 34 2 (zn (b + 1))) o = A o := fun o ho => by rw [zs_df (by omega), zs_df (by omega), zs_df (by omega)]
  have hB : ∀ j, (zs (zs (zs B 149 (562 + 2 * b) (zn p)) 149 (563 + 2 * b) (zn u)) 149 55 (zn (b + 1))) 149 j = if j = 55 then zn (b + 1) else if j = 563 + 2 * b then zn u else if j = 562 + 2 * b then zn p else B 149 j := fun j => by rw [zs_sm, zs_sm, zs_sm]
  have gB : ∀ o, o ≠ 149 → (zs (zs (zs B 149 (562 + 2 * b) (zn p)) 149 (563 + 2 * b) (zn u)) 149 55 (zn (b + 1))) o = B o := fun o ho => by rw [zs_df ho, zs_df ho, zs_df ho]
  refine ⟨zn (b + 1), zs (zs (zs A 35 b (zn p)) 36 b (zn u)) 34 2 (zn (b + 1)), zs (zs (zs B 149 (562 + 2 * b) (zn p)) 149 (563 + 2 * b) (zn u)) 149 55 (zn (b + 1)), ?_, ?_, Inv2_bid (b' := b + 1) h0 h6 h7 h8 gA gB (fun j q1 q2 => by rw [hB, if_neg q1, if_neg (by omega), if_neg (by omega)]) ⟨?_, fun i hi => ⟨?_, ?_⟩⟩ (by omega) (by rw [hB, if_pos rfl]), fun o ho => gA o (by omega), fun o ho => gB o (by omega)⟩
  · unfold f116_bid f117_add
    rw [if_neg hx, e1, show f13_within (zn u) 0 9999 = some 1 from e3, a2]
    simp only [Option.bind_some, if_neg h10, if_pos lt8, if_pos hz8, zz8, zlet_e]
    rw [zs_df (show (34 : Nat) ≠ 35 by decide), a2, if_pos hz8, zz8, zs_df (show (34 : Nat) ≠ 36 by decide), zs_df (show (34 : Nat) ≠ 35 by decide), a2, zadd1]
    simp only [Option.bind_some, zs_sm, ↓reduceIte]
  · unfold f258_bid
    rw [if_neg hx, e2, show f149_isIn (zn u) 0 9999 = some 1 from e4, h55]
    simp only [Option.bind_some, if_neg h10, if_neg ne8, q1, if_pos q3, q5, zlet_e]
    rw [zs_sm, if_neg (show ¬ 55 = 562 + 2 * b by omega), h55, q1, q2, if_pos q4, q6, zs_sm _ 149 55, if_pos rfl, zs_sm _ 149 (563 + 2 * b), if_neg (show ¬ 55 = 563 + 2 * b by omega), zs_sm, if_neg (show ¬ 55 = 562 + 2 * b by omega), h55, zadd1]
  · rw [hB, if_pos rfl, zs_sm, if_pos rfl]
  · rw [hB, if_neg (by omega), if_neg (by omega), zs_df (show (35 : Nat) ≠ 34 by decide), zs_df (show (35 : Nat) ≠ 36 by decide), zs_sm]
    by_cases hib : i = b
    · rw [if_pos hib, if_pos (by omega)]
    · rw [if_neg hib, if_neg (by omega)]
      exact (hb2 i (by omega)).1
  · rw [hB, if_neg (by omega), zs_df (show (36 : Nat) ≠ 34 by decide), zs_sm]
    by_cases hib : i = b
    · rw [if_pos hib, if_pos (by omega)]
    · rw [if_neg hib, if_neg (by omega), if_neg (by omega), zs_df (show (36 : Nat) ≠ 35 by decide)]
      exact (hb2 i (by omega)).2
theorem syncP_sold (x : Int32) : syncP (f118_sold x) (f259_sold x) := by
  rintro A B ⟨n, k, c, b, h0, -⟩
  have hb8 := h0.2.1.2.2.2.2.1
  have h55 : B 149 55 = zn b := h0.2.1.2.2.2.2.2
  obtain ⟨hb1, hb2⟩ : bidIs A 34 (B 149) b := h0.1.2.2.2.2
  have a2 : A 34 2 = zn b := hb1.trans h55
  by_cases hb0 : b = 0
  · subst hb0
    exact ⟨-1, by unfold f118_sold; rw [if_pos (show A 34 2 = 0 from a2)], by unfold f259_sold; rw [if_pos (show B 149 55 = 0 from h55)]⟩
  have nb0 : ¬ zn b = 0 := by rw [zl0, zn_eq (by omega) (by decide)]; exact hb0
  have i1 : ∀ i, i < b → zin (zn i) 8 = true := fun i hi => (zn_zin (by omega)).mpr (by omega)
  have i2 : ∀ i, i < b → zi (zn i) = i := fun i hi => zn_zi (by omega)
  have j1 : ∀ i, (562 : Int32) + 2 * zn i = zn (562 + 2 * i) := fun i => by rw [zl562, zl2, zn_mul, zn_add]
  have j2 : ∀ i, zn (562 + 2 * i) + 1 = zn (563 + 2 * i) := fun i => by rw [zadd1]; congr 1; omega
  have j3 : ∀ i, i < b → zin (zn (562 + 2 * i)) 2064 = true ∧ zin (zn (563 + 2 * i)) 2064 = true ∧ zi (zn (562 + 2 * i)) = 562 + 2 * i ∧ zi (zn (563 + 2 * i)) = 563 + 2 * i := fun i hi => ⟨(zn_zin (by omega)).mpr (by omega), (zn_zin (by omega)).mpr (by omega), zn_zi (by omega), zn_zi (by omega)⟩
  obtain ⟨r, r', g1, g2, rfl, q, hq, rfl⟩ := zpair (fun f (a : Int32) c => f120_l4 34 A f a c) (fun f (a : Int32) c => f259_l25 B f a c) b (fun _ a d => a = d ∧ ∃ q, q < b ∧ a = zn q) (fun a d => a = d ∧ ∃ q, q < b ∧ a = zn q) (fun f i a d hi had => by
    obtain ⟨rfl, q, hq, rfl⟩ := had
    left
    (try dsimp only)
    have lt : zn i < zn b := (zn_lt (by omega) (by omega)).mpr hi
    obtain ⟨-, w1, -, w2⟩ := j3 i hi
    obtain ⟨-, w3, -, w4⟩ := j3 q hq
    rw [f120_l4, f259_l25, a2, h55, if_pos lt, if_pos lt, i1 i hi, i1 q hq, i2 i hi, i2 q hq, j1, j2, j1, j2, w1, w2, w3, w4, show A (34 + 2) q = _ from (hb2 q hq).2, show A (34 + 2) i = _ from (hb2 i hi).2, zadd1]
    simp only [↓reduceIte]
    by_cases hc : B 149 (563 + 2 * q) < B 149 (563 + 2 * i)
    · rw [if_pos hc, if_pos hc]
      exact ⟨_, _, ⟨rfl, i, hi, rfl⟩, rfl, rfl⟩
    · rw [if_neg hc, if_neg hc]
      exact ⟨_, _, ⟨rfl, q, hq, rfl⟩, rfl, rfl⟩) (fun f a d had => by
    have hng : ¬ zn b < zn b := by rw [zn_lt (by omega) (by omega)]; omega
    refine ⟨a, d, had, ?_, ?_⟩
    · (try dsimp only)
      rw [f120_l4, a2, if_neg hng]
    · (try dsimp only)
      rw [f259_l25, h55, if_neg hng]) zfu 1 0 0 (by omega) (by rw [zfu_eq]; omega) ⟨rfl, 0, by omega, rfl⟩
  obtain ⟨s, s', g3, g4, rfl⟩ := zpair (fun f (a : Int32) c => f121_l9 34 A (zn q) f a c) (fun f (a : Int32) c => f259_l80 B (zn q) f a c) b (fun _ a d => a = d) (fun a d => a = d) (fun f i a d hi had => by
    subst had
    left
    (try dsimp only)
    have lt : zn i < zn b := (zn_lt (by omega) (by omega)).mpr hi
    obtain ⟨-, w1, -, w2⟩ := j3 i hi
    rw [f121_l9, f259_l80, a2, h55, if_pos lt, if_pos lt, i1 i hi, i2 i hi, j1, j2, w1, w2, show A (34 + 2) i = _ from (hb2 i hi).2, zadd1]
    simp only [↓reduceIte, gre_eq, Option.bind_some, zlet_e]
    by_cases hc : zn i = zn q
    · rw [if_pos hc, if_pos hc]
      exact ⟨_, _, rfl, rfl, rfl⟩
    · rw [if_neg hc, if_neg hc]
      exact ⟨_, _, rfl, rfl, rfl⟩) (fun f a d had => by
    have hng : ¬ zn b < zn b := by rw [zn_lt (by omega) (by omega)]; omega
    refine ⟨a, d, had, ?_, ?_⟩
    · (try dsimp only)
      rw [f121_l9, a2, if_neg hng]
    · (try dsimp only)
      rw [f259_l80, h55, if_neg hng]) zfu 0 0 0 (by omega) (by rw [zfu_eq]; omega) rfl
  have g1 : f120_l4 34 A zfu 0 1 = some (zn q) := g1
  have g2 : f259_l25 B zfu 0 1 = some (zn q) := g2
  have g3 : f121_l9 34 A (zn q) zfu 0 0 = some s := g3
  have g4 : f259_l80 B (zn q) zfu 0 0 = some s := g4
  rcases within_ex (x := x) (lo := 0) (hi := 1) (by decide) (by decide) with ⟨u, -, hu, rfl, -, e2⟩ | ⟨e1, e2⟩
  · obtain ⟨w3, -, w4, -⟩ := j3 q hq
    have hu2 : u = 0 ∨ u = 1 := by omega
    rcases hu2 with rfl | rfl
    · refine ⟨B 149 (562 + 2 * q), ?_, ?_⟩
      · unfold f118_sold f119_winner f120_greatest
        rw [a2, if_neg nb0, if_pos (show zn 0 = 0 from rfl), g1]
        simp only [Option.bind_some]
        rw [i1 q hq, i2 q hq, show A (34 + 1) q = _ from (hb2 q hq).1]
        rfl
      · unfold f259_sold
        rw [h55, if_neg nb0, show f149_isIn (zn 0) 0 1 = some 1 from e2]
        simp only [Option.bind_some, if_neg h10]
        rw [g2]
        simp only [Option.bind_some]
        rw [g4]
        simp only [Option.bind_some]
        rw [if_pos (show zn 0 = 0 from rfl), j1, w3, w4]
        rfl
    · refine ⟨s, ?_, ?_⟩
      · unfold f118_sold f121_price f120_greatest
        rw [a2, if_neg nb0, if_neg (show ¬ zn 1 = 0 by decide), if_pos (show zn 1 = 1 from rfl), g1]
        simp only [Option.bind_some]
        rw [g3]
        rfl
      · unfold f259_sold
        rw [h55, if_neg nb0, show f149_isIn (zn 1) 0 1 = some 1 from e2]
        simp only [Option.bind_some, if_neg h10]
        rw [g2]
        simp only [Option.bind_some]
        rw [g4]
        simp only [Option.bind_some]
        rw [if_neg (show ¬ zn 1 = 0 by decide)]
  · have hx0 : ¬ x = 0 := fun h => by subst h; exact absurd e2 (by decide)
    have hx1 : ¬ x = 1 := fun h => by subst h; exact absurd e2 (by decide)
    exact ⟨-1, by unfold f118_sold; rw [a2, if_neg nb0, if_neg hx0, if_neg hx1], by unfold f259_sold; rw [h55, if_neg nb0, show f149_isIn x 0 1 = some 0 from e2]; rfl⟩
end
section
-- ===== look, end, feed =====
theorem voices_eq {A : ZI} {t : Nat} {w : Nat → Int32} {n : Nat} (hp : pplIs A t w n) (h48 : w 48 = zn n) (hn10 : n ≤ 10) : f84_voices t A = some (zn (voiceN w n)) := by
  obtain ⟨⟨h11, -⟩, h2⟩ := hp
  obtain ⟨r, g1, rfl⟩ := zloop (fun f (a : Int32) c => f84_l4 t A f a c) n (fun i a => a = zn (voiceN w i)) (fun a => a = zn (voiceN w n)) (fun f i a hi ha => by
    subst ha
    left
    (try dsimp only)
    rw [f84_l4, h11, h48, if_pos ((zn_lt (by omega) (by omega)).mpr hi), if_pos ((zn_zin (by omega)).mpr (by omega)), zn_zi (by omega), (h2 i hi).2.2, zadd1]
    have e : voiceN w (i + 1) = voiceN w i + (if w (80 + i) = -1 then 0 else 1) := rfl
    simp only [zlet_e]
    by_cases hc : w (80 + i) = -1
    · rw [if_pos hc]
      refine ⟨zn (voiceN w i), by rw [e, if_pos hc]; rfl, ?_⟩
      rw [show zn (voiceN w i) + 0 = zn (voiceN w i) by rw [zl0, zn_add]; rfl]
    · rw [if_neg hc]
      refine ⟨zn (voiceN w i + 1), by rw [e, if_neg hc], ?_⟩
      rw [zadd1]) (fun f a ha => by
    have hng : ¬ zn n < zn n := by rw [zn_lt (by omega) (by omega)]; omega
    refine ⟨a, ha, ?_⟩
    (try dsimp only)
    rw [f84_l4, h11, h48, if_neg hng]) zfu 0 0 (by omega) (by rw [zfu_eq]; omega) rfl
  have g1 : f84_l4 t A zfu 0 0 = some (zn (voiceN w n)) := g1
  unfold f84_voices
  rw [g1]
  rfl
theorem look_case {x : Int32} {A B : ZI} (hI : Inv2 A B) {v v' : Int32} (e1 : f143_look x A = some (v, A)) (e2 : f266_look x B = some (v', B)) (hv : v = v') : ∃ v A' B', f143_look x A = some (v, A') ∧ f266_look x B = some (v, B') ∧ Inv2 A' B' ∧ (∀ o, 148 ≤ o → A' o = A o) ∧ ∀ o, o < 148 → B' o = B o := by
  subst hv
  exact sync_same hI e1 e2
theorem sync_look (x : Int32) : sync (f143_look x) (f266_look x) := by
  rintro A B ⟨n, k, c, b, h0, h6, h7, h8⟩
  have hI : Inv2 A B := ⟨n, k, c, b, h0, h6, h7, h8⟩
  obtain ⟨h1, h2, h3, h4, h5⟩ := id h0
  have hn10 := h2.1.1
  have h48 := h2.1.2.1
  obtain ⟨⟨p1, p2, p3, p4, p5⟩, -⟩ := h1.1
  obtain ⟨m1, m2, m3, m4, m5, m6, m7⟩ := h3.1
  have d : ∀ i j : Int32, i ≠ j → ¬ i = j := fun _ _ h => h
  by_cases x0 : x = 0
  · subst x0; exact look_case hI rfl rfl p1
  by_cases x1 : x = 1
  · subst x1; exact look_case hI rfl rfl m2
  by_cases x2 : x = 2
  · subst x2; exact look_case hI rfl rfl m1
  by_cases x3 : x = 3
  · subst x3; exact look_case hI rfl rfl p2
  by_cases x4 : x = 4
  · subst x4; exact look_case hI rfl rfl p3
  by_cases x5 : x = 5
  · subst x5; exact look_case hI rfl rfl m3
  by_cases x6 : x = 6
  · subst x6; exact look_case hI rfl rfl m4
  by_cases x7 : x = 7
  · subst x7; exact look_case hI rfl rfl m7
  by_cases x8 : x = 8
  · subst x8; exact look_case hI rfl rfl m6
  by_cases x9 : x = 9
  · subst x9; exact look_case hI rfl rfl h1.2.1.1
  by_cases x10 : x = 10
  · subst x10
    have hv : f84_voices 1 A = some (B 149 51) := by rw [voices_eq h1.1 h48 hn10, h2.1.2.2.2.2.2.2.1]
    refine look_case hI (v := B 149 51) ?_ rfl rfl
    have e : f143_look 10 A = ((f84_voices 1 A).bind fun v1 => some (v1, A)).bind fun (v1, M2) => some (v1, M2) := rfl
    rw [e, hv]
    rfl
  by_cases x11 : x = 11
  · subst x11; exact look_case hI rfl rfl h1.2.2.1.1
  by_cases x12 : x = 12
  · subst x12; exact look_case hI rfl rfl h1.2.2.2.1.1
  by_cases x13 : x = 13
  · subst x13; exact look_case hI rfl rfl h1.2.2.2.2.1
  by_cases x14 : x = 14
  · subst x14
    obtain ⟨o, m, -, -, -, q1, q2, -⟩ := h6
    exact look_case hI rfl rfl (q1.trans q2.symm)
  by_cases x15 : x = 15
  · subst x15
    obtain ⟨A1, a1, a2, a3⟩ := weigh_cls (Or.inl rfl) h1 h2 h3 h4
    obtain ⟨A2, b1, b2⟩ := elect_cls (voter := -1) (other := -1) (fixIs_of h1 (fun o ho => a3 o (by omega) (by omega) (by omega))) h2 h4 a2
    obtain ⟨B2, c1, c2⟩ := giv_ref (M := B) rfl (ask_of h2) h4
    rw [gNow_vo hn10] at b1
    have e : f143_look 15 A = ((f26_weigh 1 2 A).bind fun M2 => (f36_elect 1 (-1 : Int32) (-1 : Int32) M2).bind fun (v3, M4) => some (v3, M4)).bind fun (v1, M2) => some (v1, M2) := rfl
    have e2 : f266_look 15 B = (f205_givenNow B).bind fun (v1, M2) => some (v1, M2) := rfl
    refine ⟨optI (gNow (B 149) n), A2, B2, ?_, ?_, Inv2_scr hI (scrA_of (fun o q1 q2 q3 q4 _ _ _ => (b2 o q2).trans (a3 o q1 q4 q3))) (scrB_of (fun o _ q2 q3 _ => c2 o q2 q3)), fun o ho => (b2 o (by omega)).trans (a3 o (by omega) (by omega) (by omega)), fun o ho => c2 o (by omega) (by omega)⟩
    · rw [e, a1]
      simp only [Option.bind_some]
      rw [b1]
      rfl
    · rw [e2, c1]
      rfl
  by_cases x16 : x = 16
  · subst x16; exact look_case hI rfl rfl p4
  by_cases x17 : x = 17
  · subst x17; exact look_case hI rfl rfl p5
  refine look_case hI (v := -1) (v' := -1) ?_ ?_ rfl
  · unfold f143_look f144_lookFurther
    rw [if_neg x0, if_neg x1, if_neg x2, if_neg x3, if_neg x4, if_neg x5, if_neg x6, if_neg x7, if_neg x8, if_neg x9, if_neg x10, if_neg x11, if_neg x12, if_neg x13, if_neg x14, if_neg x15, if_neg x16, if_neg x17]
    rfl
  · unfold f266_look
    rw [if_neg x0, if_neg x1, if_neg x2, if_neg x3, if_neg x4, if_neg x5, if_neg x6, if_neg x7, if_neg x8, if_neg x9, if_neg x10, if_neg x11, if_neg x12, if_neg x13, if_neg x14, if_neg x15, if_neg x16, if_neg x17]
def tapN (A B : ZI) (t : Nat) : Prop := t ≤ 400 ∧ A 119 1 = zn t ∧ B 148 19 = zn t ∧ ∀ i, i < t → A 120 i = B 158 i ∧ ∃ x, x < 256 ∧ A 120 i = zn x
def tapK (A A' B B' : ZI) : Prop := (∀ o, o ≠ 119 → o ≠ 120 → A' o = A o) ∧ (∀ j, j ≠ 1 → A' 119 j = A 119 j) ∧ (∀ o, o ≠ 148 → o ≠ 158 → B' o = B o) ∧ ∀ j, j ≠ 19 → B' 148 j = B 148 j
theorem tapK_refl (A B : ZI) : tapK A A B B := ⟨fun _ _ _ => rfl, fun _ _ => rfl, fun _ _ _ => rfl, fun _ _ => rfl⟩
theorem tapK_trans {A A1 A2 B B1 B2 : ZI} (h : tapK A A1 B B1) (g : tapK A1 A2 B1 B2) : tapK A A2 B B2 := ⟨fun o q1 q2 => (g.1 o q1 q2).trans (h.1 o q1 q2), fun j q => (g.2.1 j q).trans (h.2.1 j q), fun o q1 q2 => (g.2.2.1 o q1 q2).trans (h.2.2.1 o q1 q2), fun j q => (g.2.2.2 j q).trans (h.2.2.2 j q)⟩
theorem Inv2_tape {A A' B B' : ZI} (h : Inv2 A B) {t : Nat} (ht : tapN A' B' t) (hk : tapK A A' B B') : Inv2 A' B' := by
  obtain ⟨n, k, c, b, ⟨h1, h2, h3, h4, h5⟩, h6, h7, h8⟩ := h
  obtain ⟨ka, kb, kc, kd⟩ := hk
  obtain ⟨t1, t2, t3, t4⟩ := ht
  obtain ⟨t', -, -, -, -, g10, g11⟩ := h8
  have e149 : B' 149 = B 149 := kc 149 (by decide) (by decide)
  refine ⟨n, k, c, b, ?_, pastIs_of h6 ⟨by rw [ka 0 (by decide) (by decide)], by rw [ka 0 (by decide) (by decide)], fun o q1 q2 => ka o (by omega) (by omega)⟩ ⟨kd 4 (by decide), kc 151 (by decide) (by decide)⟩, imgIs_of h7 ⟨by rw [ka 0 (by decide) (by decide)], fun o q1 q2 => ka o (by omega) (by omega)⟩ ⟨kd 5 (by decide), kc 150 (by decide) (by decide)⟩, ⟨t, t1, t2, t3, t4, by rw [kb 10 (by decide), kd 26 (by decide)]; exact g10, by rw [kb 11 (by decide), kd 28 (by decide)]; exact g11⟩⟩
  unfold Inv5
  rw [e149]
  exact ⟨fixIs_of h1 (fun o ho => ka o (by omega) (by omega)), h2, momIs_of h3 (fun o q1 q2 => ka o (by omega) (by omega)), h4, bookIs_of h5 (fun o q1 q2 => ka o (by omega) (by omega))⟩
theorem sync_end (x : Int32) : sync (f51_end x) (f155_end x) := by
  rintro A B hI
  obtain ⟨t, h1, h2, h3, h4, -⟩ : tapeIs A B := by
    obtain ⟨n, k, c, b, -, -, -, h8⟩ := hI
    exact h8
  rcases within_ex (x := x) (lo := 0) (hi := t) (by decide) (by omega) with ⟨u, -, hu, rfl, e1, e2⟩ | ⟨e1, e2⟩
  case inr => exact sync_same (v := 0) hI (by unfold f51_end; rw [h2, show f13_within x 0 (zn t) = some 0 from e1]; rfl) (by unfold f155_end; rw [h3, show f149_isIn x 0 (zn t) = some 0 from e2]; rfl)
  refine ⟨1, zs A 119 1 (zn u), zs B 148 19 (zn u), by unfold f51_end; rw [h2, show f13_within (zn u) 0 (zn t) = some 1 from e1]; rfl, by unfold f155_end; rw [h3, show f149_isIn (zn u) 0 (zn t) = some 1 from e2]; rfl, Inv2_tape hI (t := u) ⟨by omega, by rw [zs_sm]; rfl, by rw [zs_sm]; rfl, fun i hi => ?_⟩ ⟨fun o q1 _ => zs_df q1, fun j q => by rw [zs_sm, if_neg q], fun o q1 _ => zs_df q1, fun j q => by rw [zs_sm, if_neg q]⟩, fun o ho => zs_df (by omega), fun o ho => zs_df (by omega)⟩
  rw [zs_df (show (120 : Nat) ≠ 119 by decide), zs_df (show (158 : Nat) ≠ 148 by decide)]
  exact h4 i (by omega)
theorem znb (Y : BitVec 32) : (zn Y.toNat).toBitVec = Y := by
  show BitVec.ofNat 32 Y.toNat = Y
  rw [BitVec.ofNat_toNat, BitVec.setWidth_eq]
theorem b255' : ∀ i : Fin 32, (255#32)[i.val]'i.isLt = decide (i.val < 8) := by decide +kernel
theorem b255 {i : Nat} (hi : i < 32) : (255#32)[i] = decide (i < 8) := b255' ⟨i, hi⟩
theorem byte_j (a : Int32) (j : Nat) (hj : j = 0 ∨ j = 8 ∨ j = 16 ∨ j = 24) : ∃ x, x < 256 ∧ zushr a (zn j) &&& 255 = zn x ∧ zshr a (zn j) &&& 255 = zn x := by
  refine ⟨((a.toBitVec >>> j) &&& 255#32).toNat, ?_, ?_, ?_⟩
  · have : ((a.toBitVec >>> j) &&& 255#32).toNat ≤ 255 := by
      rw [BitVec.toNat_and]
      exact Nat.and_le_right
    omega
  · apply Int32.toBitVec_inj.mp
    rw [znb]
    rcases hj with rfl | rfl | rfl | rfl
    · simp [zushr, zn]
    · simp [zushr, zn]
    · simp [zushr, zn]
    · simp [zushr, zn]
  · have core : ∀ d, d = 0 ∨ d = 8 ∨ d = 16 ∨ d = 24 → a.toBitVec.sshiftRight d &&& 255#32 = (a.toBitVec >>> d) &&& 255#32 := by
      intro d hd
      ext i hi
      rw [BitVec.getElem_and, BitVec.getElem_and, b255 hi]
      by_cases h8 : i < 8
      · rw [BitVec.getElem_sshiftRight, dif_pos (by omega), BitVec.getElem_ushiftRight, BitVec.getLsbD_eq_getElem (by omega)]
      · rw [decide_eq_false h8, Bool.and_false, Bool.and_false]
    apply Int32.toBitVec_inj.mp
    rw [znb, ← core j hj]
    rcases hj with rfl | rfl | rfl | rfl
    · simp [zshr, zn]
    · simp [zshr, zn]
    · simp [zshr, zn]
    · simp [zshr, zn]
theorem tap_step {A B : ZI} {t x : Nat} (h : tapN A B t) (ht : t < 400) (hx : x < 256) : tapN (zs (zs A 120 t (zn x)) 119 1 (zn (t + 1))) (zs (zs B 158 t (zn x)) 148 19 (zn (t + 1))) (t + 1) ∧ tapK A (zs (zs A 120 t (zn x)) 119 1 (zn (t + 1))) B (zs (zs B 158 t (zn x)) 148 19 (zn (t + 1))) := by
  obtain ⟨h1, h2, h3, h4⟩ := h
  refine ⟨⟨by omega, by rw [zs_sm, if_pos rfl], by rw [zs_sm, if_pos rfl], fun i hi => ?_⟩, ⟨fun o q1 q2 => by rw [zs_df q1, zs_df q2], fun j q => by rw [zs_sm, if_neg q, zs_df (show (119 : Nat) ≠ 120 by decide)], fun o q1 q2 => by rw [zs_df q1, zs_df q2], fun j q => by rw [zs_sm, if_neg q, zs_df (show (148 : Nat) ≠ 158 by decide)]⟩⟩
  rw [zs_df (show (120 : Nat) ≠ 119 by decide), zs_df (show (158 : Nat) ≠ 148 by decide), zs_sm, zs_sm]
  by_cases hit : i = t
  · rw [if_pos hit, if_pos hit]
    exact ⟨rfl, x, hx, rfl⟩
  · rw [if_neg hit, if_neg hit]
    exact h4 i (by omega)
def sel (a1 a2 a3 a4 a5 x : Int32) : Option Int32 := if x < (4 : Int32) then some a1 else (if x < (8 : Int32) then some a2 else (if x < (12 : Int32) then some a3 else (if x < (16 : Int32) then some a4 else some a5)))
theorem place4 {i : Nat} (hi : i < 20) : (24 : Int32) - 8 * zrem (zn i) 4 = zn (24 - 8 * (i % 4)) ∧ zn i < 20 := by
  have : ∀ i : Fin 20, (24 : Int32) - 8 * zrem (zn i.val) 4 = zn (24 - 8 * (i.val % 4)) ∧ zn i.val < 20 := by decide +kernel
  exact this ⟨i, hi⟩
theorem feed1 {A B : ZI} {t i s : Nat} {a a1 a2 a3 a4 a5 : Int32} (h : tapN A B t) (ht : t < 400) (hi : i < 20) (hs : s = 24 - 8 * (i % 4)) (hsel : sel a1 a2 a3 a4 a5 (zn i) = some a) : ∃ A' B', (∀ m, f50_l3 119 a (m + 1) (zn s) A = f50_l3 119 a m (zn s + -8) A') ∧ (∀ m, f154_l18 a1 a2 a3 a4 a5 (m + 1) (zn i) B = f154_l18 a1 a2 a3 a4 a5 m (zn (i + 1)) B') ∧ tapN A' B' (t + 1) ∧ tapK A A' B B' := by
  have hm : i % 4 < 4 := Nat.mod_lt _ (by decide)
  obtain ⟨x, hx, e1, e2⟩ := byte_j a s (by omega)
  obtain ⟨q1, q2⟩ := tap_step h ht hx
  obtain ⟨h1, h2, h3, -⟩ := h
  have hz : zin (zn t) 400 = true := (zn_zin (by omega)).mpr ht
  have lt : zn t < 400 := by rw [zl400, zn_lt (by omega) (by decide)]; exact ht
  refine ⟨_, _, fun m => ?_, fun m => ?_, q1, q2⟩
  · rw [f50_l3, if_neg (zn_nneg (by omega)), h2, if_pos lt, if_pos hz, zn_zi (by omega), e1]
    simp only [zlet_e]
    rw [zs_df (show (119 : Nat) ≠ 119 + 1 by decide), h2, zadd1]
  · obtain ⟨p1, p2⟩ := place4 hi
    have hsel' : ((if zn i < (4 : Int32) then some a1 else (if zn i < (8 : Int32) then some a2 else (if zn i < (12 : Int32) then some a3 else (if zn i < (16 : Int32) then some a4 else some a5)))) : Option Int32) = some a := hsel
    rw [f154_l18, if_pos p2, hsel']
    simp only [Option.bind_some]
    rw [h3, if_pos hz, zn_zi (by omega), p1, ← hs, e2, zadd1]
    simp only [zlet_e]
    rw [zs_df (show (148 : Nat) ≠ 158 by decide), h3, zadd1]
theorem feed4 {A B : ZI} {t q : Nat} {a a1 a2 a3 a4 a5 : Int32} (h : tapN A B t) (ht : t + 4 ≤ 400) (hq : q < 5) (hsel : ∀ r, r < 4 → sel a1 a2 a3 a4 a5 (zn (4 * q + r)) = some a) : ∃ A' B', f50_append 119 a A = some A' ∧ (∀ m, f154_l18 a1 a2 a3 a4 a5 (m + 4) (zn (4 * q)) B = f154_l18 a1 a2 a3 a4 a5 m (zn (4 * q + 4)) B') ∧ tapN A' B' (t + 4) ∧ tapK A A' B B' := by
  obtain ⟨A1, B1, c1, d1, t1, k1⟩ := feed1 (s := 24) (i := 4 * q) h (by omega) (by omega) (by omega) (hsel 0 (by decide))
  obtain ⟨A2, B2, c2, d2, t2, k2⟩ := feed1 (s := 16) (i := 4 * q + 1) t1 (by omega) (by omega) (by omega) (hsel 1 (by decide))
  obtain ⟨A3, B3, c3, d3, t3, k3⟩ := feed1 (s := 8) (i := 4 * q + 2) t2 (by omega) (by omega) (by omega) (hsel 2 (by decide))
  obtain ⟨A4, B4, c4, d4, t4, k4⟩ := feed1 (s := 0) (i := 4 * q + 3) t3 (by omega) (by omega) (by omega) (hsel 3 (by decide))
  refine ⟨A4, B4, ?_, fun m => ?_, t4, tapK_trans (tapK_trans (tapK_trans k1 k2) k3) k4⟩
  · obtain ⟨m, hm⟩ : ∃ m, zfu = m + 1 + 1 + 1 + 1 + 1 := ⟨99995, rfl⟩
    unfold f50_append
    rw [hm]
    have e : f50_l3 119 a (m + 1 + 1 + 1 + 1 + 1) 24 A = some A4 := by
      rw [show (24 : Int32) = zn 24 from rfl, c1, show zn 24 + -8 = zn 16 from rfl, c2, show zn 16 + -8 = zn 8 from rfl, c3, show zn 8 + -8 = zn 0 from rfl, c4, f50_l3, if_pos (by decide)]
    rw [e]
    rfl
  · rw [show m + 4 = m + 1 + 1 + 1 + 1 from rfl, d1, d2, d3, d4]
theorem sync_feed (a1 a2 a3 a4 a5 : Int32) : sync (f48_feed a1 a2 a3 a4 a5) (f154_feed a1 a2 a3 a4 a5) := by
  rintro A B hI
  obtain ⟨t, h1, h2, h3, h4, -⟩ : tapeIs A B := by
    obtain ⟨n, k, c, b, -, -, -, h8⟩ := hI
    exact h8
  by_cases ht : 400 < t + 20
  · have hlt : (400 : Int32) < zn (t + 20) := by rw [zl400, zn_lt (by decide) (by omega)]; exact ht
    refine sync_same (v := -1) hI ?_ ?_
    · unfold f48_feed f49_hasRoom
      rw [h2, zl20, zn_add, if_pos hlt]
      rfl
    · unfold f154_feed
      rw [h3, zl20, zn_add, if_pos hlt]
  have hlt : ¬ (400 : Int32) < zn (t + 20) := by rw [zl400, zn_lt (by decide) (by omega)]; exact ht
  have s4 : ∀ q r, q < 5 → r < 4 → sel a1 a2 a3 a4 a5 (zn (4 * q + r)) = some (if q = 0 then a1 else if q = 1 then a2 else if q = 2 then a3 else if q = 3 then a4 else a5) := by
    intro q r hq hr
    have hq5 : q = 0 ∨ q = 1 ∨ q = 2 ∨ q = 3 ∨ q = 4 := by omega
    have hr4 : r = 0 ∨ r = 1 ∨ r = 2 ∨ r = 3 := by omega
    rcases hq5 with rfl | rfl | rfl | rfl | rfl <;> rcases hr4 with rfl | rfl | rfl | rfl <;> rfl
  obtain ⟨A1, B1, c1, d1, t1, k1⟩ := feed4 (q := 0) ⟨h1, h2, h3, h4⟩ (by omega) (by decide) (fun r hr => s4 0 r (by decide) hr)
  obtain ⟨A2, B2, c2, d2, t2, k2⟩ := feed4 (q := 1) t1 (by omega) (by decide) (fun r hr => s4 1 r (by decide) hr)
  obtain ⟨A3, B3, c3, d3, t3, k3⟩ := feed4 (q := 2) t2 (by omega) (by decide) (fun r hr => s4 2 r (by decide) hr)
  obtain ⟨A4, B4, c4, d4, t4, k4⟩ := feed4 (q := 3) t3 (by omega) (by decide) (fun r hr => s4 3 r (by decide) hr)
  obtain ⟨A5, B5, c5, d5, t5, k5⟩ := feed4 (q := 4) t4 (by omega) (by decide) (fun r hr => s4 4 r (by decide) hr)
  have kk : tapK A A5 B B5 := tapK_trans (tapK_trans (tapK_trans (tapK_trans k1 k2) k3) k4) k5
  refine ⟨zn (t + 20), A5, B5, ?_, ?_, Inv2_tape hI t5 kk, fun o ho => kk.1 o (by omega) (by omega), fun o ho => kk.2.2.1 o (by omega) (by omega)⟩
  · unfold f48_feed f49_hasRoom
    rw [h2, zl20, zn_add, if_neg hlt]
    simp only [Option.bind_some, if_neg h10]
    rw [show f50_append 119 a1 A = _ from c1]
    simp only [Option.bind_some]
    rw [show f50_append 119 a2 A1 = _ from c2]
    simp only [Option.bind_some]
    rw [show f50_append 119 a3 A2 = _ from c3]
    simp only [Option.bind_some]
    rw [show f50_append 119 a4 A3 = _ from c4]
    simp only [Option.bind_some]
    rw [show f50_append 119 a5 A4 = _ from c5]
    simp only [Option.bind_some]
    rw [t5.2.1]
  · have e : f154_l18 a1 a2 a3 a4 a5 zfu 0 B = some B5 := by
      obtain ⟨m, hm⟩ : ∃ m, zfu = m + 1 + 4 + 4 + 4 + 4 + 4 := ⟨99979, rfl⟩
      rw [hm, show (0 : Int32) = zn (4 * 0) from rfl, d1, show zn (4 * 0 + 4) = zn (4 * 1) from rfl, d2, show zn (4 * 1 + 4) = zn (4 * 2) from rfl, d3, show zn (4 * 2 + 4) = zn (4 * 3) from rfl, d4, show zn (4 * 3 + 4) = zn (4 * 4) from rfl, d5, f154_l18, if_neg (by decide)]
    unfold f154_feed
    rw [h3, zl20, zn_add, if_neg hlt, e]
    simp only [Option.bind_some]
    rw [t5.2.2.1]
end
section
-- ===== image =====
theorem zc_sm (M : ZI) (o b n j : Nat) : (zc M o b 0 0 n) o j = if j < n then M b j else M o j := by rw [zc_ap, if_pos rfl, cpy_ap]
theorem zc_df {M : ZI} {o b s d n o' : Nat} (h : o' ≠ o) : (zc M o b s d n) o' = M o' := by rw [zc_ap, if_neg h]
theorem sRun_B {F w w' : Nat → Int32} (h : ∀ j, j < 2064 → w' j = w j) : ∀ (k i : Nat) (st : List Int32), i + k ≤ 400 → sRun F w' k i st = sRun F w k i st
  | 0, _, _, _ => rfl
  | k + 1, i, st, hi => by
    unfold sRun
    rw [h (1244 + 2 * i) (by omega), h (1245 + 2 * i) (by omega)]
    congr 1
    funext s
    exact sRun_B h k (i + 1) s (by omega)
theorem lawOk_B {w w' : Nat → Int32} {c : Nat} (h : ∀ j, j < 2064 → w' j = w j) (hk : lawOk w c) : lawOk w' c := by
  obtain ⟨l1, L, l2, l3, l4⟩ := hk
  refine ⟨l1, L, l2, by rw [h 58 (by decide)]; exact l3, fun i hi => ?_⟩
  obtain ⟨f, m, t, q1, q2, q3, q4, q5, q6, q7, q8, q9⟩ := l4 i hi
  refine ⟨f, m, t, q1, q2, q3, by rw [h _ (by omega)]; exact q4, by rw [h _ (by omega)]; exact q5, by rw [h _ (by omega)]; exact q6, by rw [h _ (by omega)]; exact q7, fun F => ?_, ?_⟩
  · rw [sRun_B h _ _ _ (by omega)]; exact q8 F
  · rcases q9 with q9 | q9
    · exact Or.inl q9
    · exact Or.inr fun F => by rw [sRun_B h _ _ _ (by omega)]; exact q9 F
theorem lawIs_B {A : ZI} {t c : Nat} {w w' : Nat → Int32} (h : ∀ j, j < 2064 → w' j = w j) (hok : lawOk w c) (hk : lawIs A t w c) : lawIs A t w' c := by
  obtain ⟨g1, g2, g3, g4⟩ := hk
  obtain ⟨l1, L, l2, l3, -⟩ := hok
  refine ⟨by rw [h 58 (by decide)]; exact g1, g2, fun j hj => by rw [h _ (by omega), h _ (by omega)]; exact g3 j hj, fun i hi => ?_⟩
  rw [h 58 (by decide)] at hi
  have hi' := hi
  rw [l3, zn_zi (by omega)] at hi'
  rw [h _ (by omega), h _ (by omega), h _ (by omega), h _ (by omega)]
  exact g4 i hi
theorem fix_B {A : ZI} {t : Nat} {w w' : Nat → Int32} {n k c b : Nat} (h : ∀ j, j < 2064 → w' j = w j) (hf : fixIs A t w n k c b) (hok : fixOk w n k c b) : fixIs A t w' n k c b ∧ fixOk w' n k c b := by
  obtain ⟨⟨f1, f1'⟩, f2, f3, f4, f5⟩ := hf
  obtain ⟨o1, o2, o3, o4, o5, o6⟩ := hok
  have hk12 := o3.1
  have hn10 := o1.1
  refine ⟨⟨⟨?_, fun p hp => ?_⟩, ?_, ?_, ?_, ?_⟩, ⟨?_, ?_, ?_, ?_, o5, ?_⟩⟩
  · rw [h 48 (by decide), h 49 (by decide), h 50 (by decide), h 56 (by decide), h 57 (by decide)]; exact f1
  · rw [h _ (by omega), h _ (by omega), h _ (by omega)]
    exact f1' p hp
  · exact lawIs_B h o2 f2
  · exact wrkIs_W (h 52 (by decide)) (fun j q1 q2 => h j (by omega)) hk12 f3
  · exact ruleIs_C (h 53 (by decide)) (h 54 (by decide)) (fun j q1 q2 => h j (by omega)) o4 f4
  · exact bidIs_D (h 55 (by decide)) (fun j q1 q2 => h j (by omega)) o5 f5
  · obtain ⟨p1, p2, p3, p4, p5, p6, p7, p8⟩ := o1
    refine ⟨p1, by rw [h 48 (by decide)]; exact p2, by rw [h 49 (by decide)]; exact p3, by rw [h 50 (by decide)]; exact p4, by rw [h 56 (by decide)]; exact p5, by rw [h 57 (by decide)]; exact p6, by rw [h 51 (by decide), voiceN_P n (fun p hp => h _ (by omega))]; exact p7, fun p hp => ?_⟩
    rw [h _ (by omega), h _ (by omega), h _ (by omega)]
    exact p8 p hp
  · exact lawOk_B h o2
  · exact wrkOk_W (h 52 (by decide)) (fun j q1 q2 => h j (by omega)) (Nat.le_refl _) o3
  · exact ruleOk_C (h 53 (by decide)) (h 54 (by decide)) (fun j q1 q2 => h j (by omega)) o4
  · rw [h 55 (by decide)]; exact o6
theorem cp_book {A : ZI} {t a : Nat} {w : Nat → Int32} (hd : a + 5 ≤ t ∨ t + 5 ≤ a) (h : bookIs A a w) : ∃ A', f141_copy t a A = some A' ∧ bookIs A' t w ∧ ∀ o, ¬ (t ≤ o ∧ o ≤ t + 4) → A' o = A o := by
  refine ⟨_, rfl, fun i hi => ?_, fun o ho => ?_⟩
  · simp (disch := omega) only [zc_sm, zc_df, if_pos hi]
    exact h i hi
  · simp (disch := omega) only [zc_df]
theorem cp_code {A : ZI} {t a : Nat} (hd : a + 5 ≤ t ∨ t + 5 ≤ a) : ∃ A', f82_copy t a A = some A' ∧ A' t 3 = A a 3 ∧ (∀ j, j < 400 → A' (t + 1) j = A (a + 1) j ∧ A' (t + 2) j = A (a + 2) j) ∧ ∀ o, ¬ (t ≤ o ∧ o ≤ t + 2) → A' o = A o := by
  refine ⟨_, rfl, ?_, fun i hi => ?_, fun o ho => ?_⟩
  · simp (disch := omega) only [zs_sm, zc_df, ↓reduceIte]
  · simp (disch := omega) only [zs_df, zc_sm, zc_df, if_pos hi]
    exact ⟨trivial, trivial⟩
  · simp (disch := omega) only [zc_df, zs_df]
theorem cp_law {A : ZI} {t a c : Nat} {w : Nat → Int32} (hd : a + 10 ≤ t ∨ t + 10 ≤ a) (hok : lawOk w c) (h : lawIs A a w c) : ∃ A', f81_copy t a A = some A' ∧ lawIs A' t w c ∧ ∀ o, ¬ (t ≤ o ∧ o ≤ t + 8) → A' o = A o := by
  obtain ⟨A1, e1, e2, e3, e4⟩ := cp_code (A := A) (t := t + 1) (a := a + 1) (by omega)
  obtain ⟨g1, g2, g3, g4⟩ := h
  obtain ⟨l1, L, l2, l3, -⟩ := hok
  unfold f81_copy
  rw [e1]
  refine ⟨_, rfl, ⟨?_, ?_, fun j hj => ?_, fun i hi => ?_⟩, fun o ho => ?_⟩
  · simp (disch := omega) only [zs_sm, zc_df, ↓reduceIte]
    rw [e4 a (by omega)]
    exact g1
  · simp (disch := omega) only [zs_df, zc_df]
    rw [e2]
    exact g2
  · simp (disch := omega) only [zs_df, zc_df]
    rw [(e3 j (by omega)).1, (e3 j (by omega)).2]
    exact g3 j hj
  · have hi' := hi
    rw [l3, zn_zi (by omega)] at hi'
    have hi16 : i < 16 := by omega
    simp (disch := omega) only [zs_df, zc_sm, zc_df, if_pos hi16]
    rw [e4 _ (by omega), e4 _ (by omega), e4 _ (by omega), e4 _ (by omega)]
    exact g4 i hi
  · simp (disch := omega) only [zc_df, zs_df]
    exact e4 o (by omega)
theorem cp_wrk {A : ZI} {t a k : Nat} {w : Nat → Int32} (hd : a + 10 ≤ t ∨ t + 10 ≤ a) (hk : k ≤ 12) (h : wrkIs A a w k) : ∃ A', f88_copy t a A = some A' ∧ wrkIs A' t w k ∧ ∀ o, ¬ (t ≤ o ∧ o ≤ t + 6) → A' o = A o := by
  obtain ⟨h1, h2⟩ := h
  refine ⟨_, rfl, ⟨?_, fun i hi => ?_⟩, fun o ho => ?_⟩
  · simp (disch := omega) only [zs_sm, zc_df, ↓reduceIte]
    exact h1
  · have hi12 : i < 12 := by omega
    simp (disch := omega) only [zs_df, zc_sm, zc_df, if_pos hi12]
    exact h2 i hi
  · simp (disch := omega) only [zc_df, zs_df]
theorem cp_rule {A : ZI} {t a : Nat} {w : Nat → Int32} (hd : a + 10 ≤ t ∨ t + 10 ≤ a) (hok : ruleOk w) (h : ruleIs A a w) : ∃ A', f90_copy t a A = some A' ∧ ruleIs A' t w ∧ ∀ o, ¬ (t ≤ o ∧ o ≤ t + 3) → A' o = A o := by
  obtain ⟨A1, e1, e2, e3, e4⟩ := cp_code (A := A) (t := t + 1) (a := a + 1) (by omega)
  obtain ⟨g1, g2, g3⟩ := h
  obtain ⟨rl, r1, r2, -⟩ := hok
  unfold f90_copy
  rw [e1]
  refine ⟨_, rfl, ⟨?_, ?_, fun j hj => ?_⟩, fun o ho => ?_⟩
  · simp (disch := omega) only [zs_sm, ↓reduceIte]
    rw [e4 a (by omega)]
    exact g1
  · simp (disch := omega) only [zs_df]
    rw [e2]
    exact g2
  · have hj' := hj
    rw [r2, zn_zi (by omega)] at hj'
    simp (disch := omega) only [zs_df]
    rw [(e3 j (by omega)).1, (e3 j (by omega)).2]
    exact g3 j hj
  · simp (disch := omega) only [zs_df]
    exact e4 o (by omega)
theorem cp_bid {A : ZI} {t a b : Nat} {w : Nat → Int32} (hd : a + 10 ≤ t ∨ t + 10 ≤ a) (hb : b ≤ 8) (h : bidIs A a w b) : ∃ A', f142_copy t a A = some A' ∧ bidIs A' t w b ∧ ∀ o, ¬ (t ≤ o ∧ o ≤ t + 2) → A' o = A o := by
  obtain ⟨h1, h2⟩ := h
  refine ⟨_, rfl, ⟨?_, fun i hi => ?_⟩, fun o ho => ?_⟩
  · simp (disch := omega) only [zs_sm, zc_df, ↓reduceIte]
    exact h1
  · have hi8 : i < 8 := by omega
    simp (disch := omega) only [zs_df, zc_sm, zc_df, if_pos hi8]
    exact h2 i hi
  · simp (disch := omega) only [zc_df, zs_df]
def pplCp (t a : Nat) (A6 : ZI) : Option ZI := zlet (zc A6 (t + 36) (a + 36) 0 0 10) fun (M7 : ZI) => zlet (zc M7 (t + 37) (a + 37) 0 0 10) fun (M8 : ZI) => zlet (zc M8 (t + 38) (a + 38) 0 0 10) fun (M9 : ZI) => zlet (zs M9 t 11 (M9 a 11)) fun (M10 : ZI) => zlet (zs M10 t 12 (M10 a 12)) fun (M11 : ZI) => zlet (zs M11 t 13 (M11 a 13)) fun (M12 : ZI) => zlet (zs M12 t 14 (M12 a 14)) fun (M13 : ZI) => zlet (zs M13 t 15 (M13 a 15)) fun (M14 : ZI) => some M14
theorem cp_ppl {A : ZI} {t a n : Nat} {w : Nat → Int32} (hd : a + 41 ≤ t ∨ t + 41 ≤ a) (hn10 : n ≤ 10) (h : pplIs A a w n) : ∃ A', pplCp t a A = some A' ∧ pplIs A' t w n ∧ ∀ o, o ≠ t → ¬ (t + 36 ≤ o ∧ o ≤ t + 38) → A' o = A o := by
  obtain ⟨p1, p2⟩ := h
  refine ⟨_, rfl, ⟨?_, fun p hp => ?_⟩, fun o q1 q2 => ?_⟩
  · simp (disch := omega) only [zs_sm, zs_df, zc_df, ↓reduceIte, Nat.reduceEqDiff]
    exact p1
  · have hp10 : p < 10 := by omega
    simp (disch := omega) only [zs_df, zc_sm, zc_df, if_pos hp10]
    exact p2 p hp
  · simp (disch := omega) only [zs_df, zc_df]
theorem f140_eq (t a : Nat) (M : ZI) : f140_copy t a M = (f21_copy (t + 1) (a + 1) M).bind fun M1 => (f141_copy (t + 6) (a + 6) M1).bind fun M2 => (f81_copy (t + 11) (a + 11) M2).bind fun M3 => (f88_copy (t + 20) (a + 20) M3).bind fun M4 => (f90_copy (t + 28) (a + 28) M4).bind fun M5 => (f142_copy (t + 33) (a + 33) M5).bind fun M6 => pplCp t a M6 := rfl
theorem cp_realm {A : ZI} {t a n k c b : Nat} {w : Nat → Int32} (hd : a + 41 ≤ t ∨ t + 41 ≤ a) (hf : fixIs A a w n k c b) (hok : fixOk w n k c b) (hm : momIs A (a + 1) w n) (hb : bookIs A (a + 6) w) : ∃ A', f140_copy t a A = some A' ∧ fixIs A' t w n k c b ∧ momIs A' (t + 1) w n ∧ bookIs A' (t + 6) w ∧ ∀ o, ¬ (t ≤ o ∧ o ≤ t + 38) → A' o = A o := by
  obtain ⟨⟨p1, p2⟩, f2, f3, f4, f5⟩ := hf
  obtain ⟨o1, o2, o3, o4, o5, o6⟩ := hok
  have hn10 := o1.1
  have hk12 := o3.1
  obtain ⟨A1, a1, a2, a3⟩ := copy_mom (t := t + 1) hm hn10 (by omega)
  obtain ⟨A2, b1, b2, b3⟩ := cp_book (A := A1) (t := t + 6) (a := a + 6) (by omega) (bookIs_of hb (fun o q1 q2 => a3 o (by omega)))
  have s2 : ∀ o, ¬ (t + 1 ≤ o ∧ o ≤ t + 10) → A2 o = A o := fun o ho => (b3 o (by omega)).trans (a3 o (by omega))
  obtain ⟨A3, c1, c2, c3⟩ := cp_law (A := A2) (t := t + 11) (a := a + 11) (by omega) o2 (lawIs_of f2 (fun o q => s2 o (by omega)))
  have s3 : ∀ o, ¬ (t + 1 ≤ o ∧ o ≤ t + 19) → A3 o = A o := fun o ho => (c3 o (by omega)).trans (s2 o (by omega))
  obtain ⟨A4, d1, d2, d3⟩ := cp_wrk (A := A3) (t := t + 20) (a := a + 20) (by omega) hk12 (wrkIs_of f3 (by rw [s3 _ (by omega)]) (fun o q1 q2 => s3 o (by omega)))
  have s4 : ∀ o, ¬ (t + 1 ≤ o ∧ o ≤ t + 26) → A4 o = A o := fun o ho => (d3 o (by omega)).trans (s3 o (by omega))
  obtain ⟨A5, e1, e2, e3⟩ := cp_rule (A := A4) (t := t + 28) (a := a + 28) (by omega) o4 (ruleIs_of f4 (fun o q1 q2 => s4 o (by omega)))
  have s5 : ∀ o, ¬ (t + 1 ≤ o ∧ o ≤ t + 31) → A5 o = A o := fun o ho => (e3 o (by omega)).trans (s4 o (by omega))
  obtain ⟨A6, g1, g2, g3⟩ := cp_bid (A := A5) (t := t + 33) (a := a + 33) (by omega) o5 (bidIs_of f5 (fun o q1 q2 => s5 o (by omega)))
  have s6 : ∀ o, ¬ (t + 1 ≤ o ∧ o ≤ t + 35) → A6 o = A o := fun o ho => (g3 o (by omega)).trans (s5 o (by omega))
  obtain ⟨A', k1, k2, k3⟩ := cp_ppl (A := A6) (t := t) (a := a) (w := w) (n := n) hd hn10 (pplIs_of ⟨p1, p2⟩ (fun o q => s6 o (by omega)))
  have k1' : f140_copy t a A = some A' := by
    rw [f140_eq, show f21_copy (t + 1) (a + 1) A = _ from a1, Option.bind_some, b1, Option.bind_some, c1, Option.bind_some, d1, Option.bind_some, e1, Option.bind_some, g1, Option.bind_some, k1]
  refine ⟨A', k1', ⟨k2, ?_, ?_, ?_, ?_⟩, ?_, ?_, fun o ho => (k3 o (by omega) (by omega)).trans (s6 o (by omega))⟩
  · exact lawIs_of c2 (fun o q => (k3 o (by omega) (by omega)).trans ((g3 o (by omega)).trans ((e3 o (by omega)).trans (d3 o (by omega)))))
  · have q : ∀ o, t + 20 ≤ o → o ≤ t + 26 → A' o = A4 o := fun o q1 q2 => (k3 o (by omega) (by omega)).trans ((g3 o (by omega)).trans (e3 o (by omega)))
    exact wrkIs_of d2 (by rw [q _ (by omega) (by omega)]) (fun o q1 q2 => q o (by omega) (by omega))
  · exact ruleIs_of e2 (fun o q1 q2 => (k3 o (by omega) (by omega)).trans (g3 o (by omega)))
  · exact bidIs_of g2 (fun o q1 q2 => k3 o (by omega) (by omega))
  · exact momIs_of a2 (fun o q1 q2 => (k3 o (by omega) (by omega)).trans ((g3 o (by omega)).trans ((e3 o (by omega)).trans ((d3 o (by omega)).trans ((c3 o (by omega)).trans (b3 o (by omega)))))))
  · exact bookIs_of b2 (fun o q1 q2 => (k3 o (by omega) (by omega)).trans ((g3 o (by omega)).trans ((e3 o (by omega)).trans ((d3 o (by omega)).trans (c3 o (by omega))))))
end
section
theorem row_back {B : ZI} : ∃ B', f265_l15 0 zfu 0 B = some B' ∧ (∀ o, o ≠ 149 → B' o = B o) ∧ ∀ j, j < 2064 → B' 149 j = B 150 j := by
  obtain ⟨r, g1, g2, g3⟩ := zloop (fun f (a : ZI) c => f265_l15 0 f c a) 2064 (fun i a => (∀ o, o ≠ 149 → a o = B o) ∧ ∀ j, j < i → a 149 j = B 150 j) (fun a => (∀ o, o ≠ 149 → a o = B o) ∧ ∀ j, j < 2064 → a 149 j = B 150 j) (fun f i a hi ha => by
    obtain ⟨q1, q2⟩ := ha
    left
    (try dsimp only)
    have hz : zin (zn i) 2064 = true := (zn_zin (by omega)).mpr hi
    have e150 := q1 150 (by decide)
    rw [f265_l15, if_pos (show zn i < 2064 by rw [zl2064, zn_lt (by omega) (by decide)]; exact hi), if_pos rfl, if_pos hz, if_pos hz, zn_zi (by omega), zadd1, e150]
    refine ⟨zs a 149 i (B 150 i), ⟨fun o ho => by rw [zs_df ho]; exact q1 o ho, fun j hj => ?_⟩, rfl⟩
    rw [zs_sm]
    by_cases hji : j = i
    · rw [if_pos hji, hji]
    · rw [if_neg hji]
      exact q2 j (by omega)) (fun f a ha => by
    refine ⟨a, ha, ?_⟩
    (try dsimp only)
    rw [f265_l15, if_neg (show ¬ zn 2064 < 2064 by rw [zl2064, zn_lt (by decide) (by decide)]; omega)]) zfu 0 B (by omega) (by rw [zfu_eq]; omega) ⟨fun _ _ => rfl, fun j hj => by omega⟩
  exact ⟨r, g1, g2, g3⟩
theorem row_away {B : ZI} {x : Int32} (hx : ¬ x = 0) : ∃ B', f265_l15 x zfu 0 B = some B' ∧ (∀ o, o ≠ 150 → B' o = B o) ∧ ∀ j, j < 2064 → B' 150 j = B 149 j := by
  obtain ⟨r, g1, g2, g3⟩ := zloop (fun f (a : ZI) c => f265_l15 x f c a) 2064 (fun i a => (∀ o, o ≠ 150 → a o = B o) ∧ ∀ j, j < i → a 150 j = B 149 j) (fun a => (∀ o, o ≠ 150 → a o = B o) ∧ ∀ j, j < 2064 → a 150 j = B 149 j) (fun f i a hi ha => by
    obtain ⟨q1, q2⟩ := ha
    left
    (try dsimp only)
    have hz : zin (zn i) 2064 = true := (zn_zin (by omega)).mpr hi
    have e149 := q1 149 (by decide)
    rw [f265_l15, if_pos (show zn i < 2064 by rw [zl2064, zn_lt (by omega) (by decide)]; exact hi), if_neg hx, if_pos hz, if_pos hz, zn_zi (by omega), zadd1, e149]
    refine ⟨zs a 150 i (B 149 i), ⟨fun o ho => by rw [zs_df ho]; exact q1 o ho, fun j hj => ?_⟩, rfl⟩
    rw [zs_sm]
    by_cases hji : j = i
    · rw [if_pos hji, hji]
    · rw [if_neg hji]
      exact q2 j (by omega)) (fun f a ha => by
    refine ⟨a, ha, ?_⟩
    (try dsimp only)
    rw [f265_l15, if_neg (show ¬ zn 2064 < 2064 by rw [zl2064, zn_lt (by decide) (by decide)]; omega)]) zfu 0 B (by omega) (by rw [zfu_eq]; omega) ⟨fun _ _ => rfl, fun j hj => by omega⟩
  exact ⟨r, g1, g2, g3⟩
theorem sync_image (x : Int32) : sync (f139_image x) (f265_image x) := by
  rintro A B ⟨n, k, c, b, h0, h6, h7, h8⟩
  have hI : Inv2 A B := ⟨n, k, c, b, h0, h6, h7, h8⟩
  obtain ⟨i1, i2⟩ := id h7
  by_cases hx : x = 0
  · subst hx
    rcases i2 with i2 | ⟨i2, n', k', c', b', f1, f2, f3, f4, f5⟩
    · exact sync_same (v := 0) hI (by unfold f139_image; rw [if_pos rfl, if_pos i2]) (by unfold f265_image; rw [zlet_e, if_pos rfl, if_pos (i1.symm.trans i2)])
    have hn10 := f2.1.1
    obtain ⟨A1, a1, a2, a3, a4, a5⟩ := cp_realm (t := 1) (a := 42) (by omega) f1 f2 f3 f5
    obtain ⟨B1, b1, b2, b3⟩ := row_back (B := B)
    have n0 : ¬ A 0 2 = 0 := by rw [i2]; decide
    have n1 : ¬ B 148 5 = 0 := by rw [← i1]; exact n0
    obtain ⟨g1, g2⟩ := fix_B b3 a2 f2
    have gA : ∀ o, o ≠ 0 → (zs A1 0 5 0) o = A1 o := fun o ho => zs_df ho
    have gA2 : ∀ o, o ≠ 0 → ¬ (1 ≤ o ∧ o ≤ 39) → (zs A1 0 5 0) o = A o := fun o ho h => (gA o ho).trans (a5 o (by omega))
    have gB : ∀ o, o ≠ 148 → (zs (zs B1 148 4 0) 148 5 1) o = B1 o := fun o ho => by rw [zs_df ho, zs_df ho]
    have gB2 : ∀ o, o ≠ 148 → o ≠ 149 → (zs (zs B1 148 4 0) 148 5 1) o = B o := fun o ho h => (gB o ho).trans (b2 o h)
    have e148 : ∀ j, (zs (zs B1 148 4 0) 148 5 1) 148 j = if j = 5 then 1 else if j = 4 then 0 else B 148 j := fun j => by rw [zs_sm, zs_sm, b2 148 (by decide)]
    have e0 : ∀ j, (zs A1 0 5 0) 0 j = if j = 5 then 0 else A 0 j := fun j => by rw [zs_sm, a5 0 (by omega)]
    have e149 : (zs (zs B1 148 4 0) 148 5 1) 149 = B1 149 := gB 149 (by decide)
    have e150 : (zs (zs B1 148 4 0) 148 5 1) 150 = B 150 := gB2 150 (by decide) (by decide)
    refine ⟨1, zs A1 0 5 0, zs (zs B1 148 4 0) 148 5 1, ?_, ?_, ⟨n', k', c', b', ?_, ?_, ?_, ?_⟩, fun o ho => gA2 o (by omega) (by omega), fun o ho => gB2 o (by omega) (by omega)⟩
    · unfold f139_image
      rw [if_pos rfl, if_neg n0, a1]
      rfl
    · unfold f265_image
      rw [zlet_e, if_pos rfl, if_neg n1, b1]
      rfl
    · unfold Inv5
      rw [e149]
      exact ⟨fixIs_of g1 (fun o ho => gA o (by omega)), g2, momIs_row (momIs_of a3 (fun o q1 q2 => gA o (by omega))) hn10 (fun j hj => b3 j (by omega)), momOk_row f4 hn10 (fun j hj => b3 j (by omega)), bookIs_row (bookIs_of a4 (fun o q1 q2 => gA o (by omega))) (fun j q1 q2 => b3 j (by omega))⟩
    · exact forget_past h6 (by rw [e0]; rfl) (by rw [e0]; rfl) (by rw [e148]; rfl)
    · unfold imgIs
      rw [e150, e0, e148]
      refine ⟨i2, Or.inr ⟨i2, n', k', c', b', fixIs_of f1 (fun o ho => gA2 o (by omega) (by omega)), f2, momIs_of f3 (fun o q1 q2 => gA2 o (by omega) (by omega)), f4, bookIs_of f5 (fun o q1 q2 => gA2 o (by omega) (by omega))⟩⟩
    · exact tapeIs_of h8 ⟨by rw [gA2 119 (by omega) (by omega)], by rw [gA2 119 (by omega) (by omega)], by rw [gA2 119 (by omega) (by omega)], gA2 120 (by omega) (by omega)⟩ ⟨by rw [e148]; rfl, by rw [e148]; rfl, by rw [e148]; rfl, gB2 158 (by decide) (by decide)⟩
  · obtain ⟨f1, f2, f3, f4, f5⟩ := id h0
    have hn10 := f2.1.1
    obtain ⟨A1, a1, a2, a3, a4, a5⟩ := cp_realm (t := 42) (a := 1) (by omega) f1 f2 f3 f5
    obtain ⟨B1, b1, b2, b3⟩ := row_away (B := B) hx
    obtain ⟨g1, g2⟩ := fix_B b3 a2 f2
    have gA : ∀ o, o ≠ 0 → (zs A1 0 2 1) o = A1 o := fun o ho => zs_df ho
    have gA2 : ∀ o, o ≠ 0 → ¬ (42 ≤ o ∧ o ≤ 80) → (zs A1 0 2 1) o = A o := fun o ho h => (gA o ho).trans (a5 o (by omega))
    have gB : ∀ o, o ≠ 148 → (zs B1 148 5 1) o = B1 o := fun o ho => by rw [zs_df ho]
    have gB2 : ∀ o, o ≠ 148 → o ≠ 150 → (zs B1 148 5 1) o = B o := fun o ho h => (gB o ho).trans (b2 o h)
    have e148 : ∀ j, (zs B1 148 5 1) 148 j = if j = 5 then 1 else B 148 j := fun j => by rw [zs_sm, b2 148 (by decide)]
    have e0 : ∀ j, (zs A1 0 2 1) 0 j = if j = 2 then 1 else A 0 j := fun j => by rw [zs_sm, a5 0 (by omega)]
    have e149 : (zs B1 148 5 1) 149 = B 149 := gB2 149 (by decide) (by decide)
    have e150 : (zs B1 148 5 1) 150 = B1 150 := gB 150 (by decide)
    refine ⟨1, zs A1 0 2 1, zs B1 148 5 1, ?_, ?_, ⟨n, k, c, b, ?_, ?_, ?_, ?_⟩, fun o ho => gA2 o (by omega) (by omega), fun o ho => gB2 o (by omega) (by omega)⟩
    · unfold f139_image
      rw [if_neg hx, a1]
      rfl
    · unfold f265_image
      rw [zlet_e, if_neg hx, b1, Option.bind_some, if_neg hx]
      rfl
    · unfold Inv5
      rw [e149]
      exact ⟨fixIs_of f1 (fun o ho => gA2 o (by omega) (by omega)), f2, momIs_of f3 (fun o q1 q2 => gA2 o (by omega) (by omega)), f4, bookIs_of f5 (fun o q1 q2 => gA2 o (by omega) (by omega))⟩
    · exact pastIs_of h6 ⟨by rw [e0]; rfl, by rw [e0]; rfl, fun o q1 q2 => gA2 o (by omega) (by omega)⟩ ⟨by rw [e148]; rfl, gB2 151 (by decide) (by decide)⟩
    · unfold imgIs
      rw [e150, e0, e148]
      refine ⟨rfl, Or.inr ⟨rfl, n, k, c, b, fixIs_of g1 (fun o ho => gA o (by omega)), g2, momIs_row (momIs_of a3 (fun o q1 q2 => gA o (by omega))) hn10 (fun j hj => b3 j (by omega)), momOk_row f4 hn10 (fun j hj => b3 j (by omega)), bookIs_row (bookIs_of a4 (fun o q1 q2 => gA o (by omega))) (fun j q1 q2 => b3 j (by omega))⟩⟩
    · exact tapeIs_of h8 ⟨by rw [gA2 119 (by omega) (by omega)], by rw [gA2 119 (by omega) (by omega)], by rw [gA2 119 (by omega) (by omega)], gA2 120 (by omega) (by omega)⟩ ⟨by rw [e148]; rfl, by rw [e148]; rfl, by rw [e148]; rfl, gB2 158 (by decide) (by decide)⟩
end
section
-- ===== fits, thieves, lookAt =====
def togB (w : Nat → Int32) (k p s d : Nat) : Bool := (List.range k).all fun i => !s.testBit i || (decide (w (90 + 6 * i) = zn p) && (decide (w (95 + 6 * i) = -1) || (s.testBit (zi (w (95 + 6 * i))) || d.testBit (zi (w (95 + 6 * i))))))
theorem togB_iff {w : Nat → Int32} {k p s d : Nat} : togB w k p s d = true ↔ wTog w k p s d := by
  unfold togB wTog wAft
  rw [List.all_eq_true]
  constructor
  · intro h i hi hb
    have := h i (List.mem_range.mpr hi)
    rw [hb] at this
    simpa using this
  · intro h i hi
    have hik := List.mem_range.mp hi
    by_cases hb : s.testBit i = true
    · have := h i hik hb
      rw [hb]
      simpa using this
    · simp [hb]
def fB (w : Nat → Int32) (k p s : Nat) : Bool := decide (zn (wSum w 3 s k) = w 56) && decide (zn (wSum w 4 s k) = w 57) && decide (wSum w 1 s k ≤ 24) && togB w k p s (zi (w 6))
def fN (P : Nat → Bool) : Nat → Nat
  | 0 => 0
  | j + 1 => fN P j + (if P j = true then 1 else 0)
theorem fN_le (P : Nat → Bool) : ∀ j, fN P j ≤ j
  | 0 => Nat.le_refl _
  | j + 1 => by
    have := fN_le P j
    unfold fN
    split <;> omega
theorem fN_skip {P : Nat → Bool} {x : Nat} : ∀ d, (∀ s, x ≤ s → s < x + d → P s = false) → fN P (x + d) = fN P x
  | 0, _ => rfl
  | d + 1, h => by
    have := fN_skip (P := P) (x := x) d (fun s h1 h2 => h s h1 (by omega))
    rw [show x + (d + 1) = (x + d) + 1 from rfl, fN, h (x + d) (by omega) (by omega), this]
    rfl
theorem fN_skip' {P : Nat → Bool} {x y : Nat} (hxy : x ≤ y) (h : ∀ s, x ≤ s → s < y → P s = false) : fN P y = fN P x := by
  have := fN_skip (P := P) (x := x) (y - x) (fun s h1 h2 => h s h1 (by omega))
  rwa [show x + (y - x) = y by omega] at this
theorem fN_0 {P : Nat → Bool} : ∀ j, fN P j = 0 → ∀ s, s < j → P s = false
  | 0, _, s, hs => by omega
  | j + 1, h, s, hs => by
    unfold fN at h
    by_cases hsj : s = j
    · subst hsj
      by_cases hp : P s = true
      · rw [if_pos hp] at h; omega
      · simpa using hp
    · exact fN_0 j (by omega) s (by omega)
theorem fN_pos {P : Nat → Bool} {s : Nat} (hs : P s = true) : ∀ j, s < j → 0 < fN P j
  | 0, h => by omega
  | j + 1, h => by
    unfold fN
    by_cases hsj : s = j
    · subst hsj
      rw [if_pos hs]; omega
    · have := fN_pos hs j (by omega)
      omega
def firstIs (P : Nat → Bool) (N : Nat) (v : Int32) : Prop := (v = -1 ∧ ∀ s, s < N → P s = false) ∨ ∃ s, s < N ∧ P s = true ∧ v = zn s ∧ ∀ r, r < s → P r = false
theorem firstIs_skip {P : Nat → Bool} {x y : Nat} {v : Int32} (hxy : x ≤ y) (h : ∀ s, x ≤ s → s < y → P s = false) (hf : firstIs P x v) : firstIs P y v := by
  rcases hf with ⟨h1, h2⟩ | ⟨s, h1, h2, h3, h4⟩
  · exact Or.inl ⟨h1, fun s hs => by
      by_cases hsx : s < x
      · exact h2 s hsx
      · exact h s (by omega) hs⟩
  · exact Or.inr ⟨s, by omega, h2, h3, h4⟩
theorem firstIs_one {P : Nat → Bool} {N : Nat} {v v' : Int32} (h : firstIs P N v) (h' : firstIs P N v') : v = v' := by
  rcases h with ⟨h1, h2⟩ | ⟨s, h1, h2, h3, h4⟩ <;> rcases h' with ⟨g1, g2⟩ | ⟨r, g1, g2, g3, g4⟩
  · rw [h1, g1]
  · rw [h2 r g1] at g2; exact absurd g2 (by decide)
  · rw [g2 s h1] at h2; exact absurd h2 (by decide)
  · have : s = r := by
      rcases Nat.lt_trichotomy s r with h | h | h
      · rw [g4 s h] at h2; exact absurd h2 (by decide)
      · exact h
      · rw [h4 r h] at g2; exact absurd g2 (by decide)
    rw [h3, g3, this]
theorem fB_sub {w : Nat → Int32} {k p o s : Nat} (hb : ∀ i, o.testBit i = true ↔ i < k ∧ w (90 + 6 * i) = zn p ∧ zi (w (91 + 6 * i)) ≤ 24) (hs : s < 2 ^ k) (h : fB w k p s = true) : s &&& o = s := by
  unfold fB at h
  simp only [Bool.and_eq_true, decide_eq_true_eq] at h
  obtain ⟨⟨-, h2⟩, h3⟩ := h
  have h3 := togB_iff.mp h3
  refine sub_of fun i hi => ?_
  have hik := tb_lt hs hi
  refine (hb i).mpr ⟨hik, (h3 i hik hi).1, ?_⟩
  have := wSum_ge (w := w) (f := 1) k hik hi
  have e : w (90 + 1 + 6 * i) = w (91 + 6 * i) := rfl
  rw [e] at this
  omega
/-- one that fits: each work in it is counted -/
theorem each_cls {M : ZI} {w : Nat → Int32} {k s : Nat} (h6 : M 21 6 = zn k) (hk12 : k ≤ 12) (hs : s < 4096) : ∃ M', f112_l24 21 (zn s) zfu 0 M = some M' ∧ (∀ i, i < k → M' 28 i = M 28 i + (if s.testBit i = true then 1 else 0)) ∧ ∀ o, o ≠ 28 → M' o = M o := by
  obtain ⟨r, g1, g2, g3⟩ := zloop (fun f (a : ZI) c => f112_l24 21 (zn s) f c a) k (fun i a => (∀ j, j < i → a 28 j = M 28 j + (if s.testBit j = true then 1 else 0)) ∧ (∀ j, i ≤ j → a 28 j = M 28 j) ∧ ∀ o, o ≠ 28 → a o = M o) (fun a => (∀ i, i < k → a 28 i = M 28 i + (if s.testBit i = true then 1 else 0)) ∧ ∀ o, o ≠ 28 → a o = M o) (fun f i a hi ha => by
    obtain ⟨q1, q2, q3⟩ := ha
    left
    (try dsimp only)
    have hz : zin (zn i) 12 = true := (zn_zin (by omega)).mpr (by omega)
    rw [f112_l24, q3 21 (by decide), h6, if_pos ((zn_lt (by omega) (by omega)).mpr hi), isIn_zn hs (by omega), zadd1]
    simp only [Option.bind_some]
    by_cases hb : s.testBit i = true
    · rw [if_pos hb, if_neg (by decide), if_pos hz, if_pos hz, zn_zi (by omega)]
      refine ⟨zs a 28 i (a 28 i + 1), ⟨fun j hj => ?_, fun j hj => ?_, fun o ho => by rw [zs_df ho]; exact q3 o ho⟩, rfl⟩
      · rw [zs_sm]
        by_cases hji : j = i
        · rw [if_pos hji, hji, q2 i (Nat.le_refl _), if_pos hb]
        · rw [if_neg hji]; exact q1 j (by omega)
      · rw [zs_sm, if_neg (by omega)]; exact q2 j (by omega)
    · rw [if_neg hb, if_pos rfl]
      refine ⟨a, ⟨fun j hj => ?_, fun j hj => q2 j (by omega), q3⟩, rfl⟩
      by_cases hji : j = i
      · rw [hji, q2 i (Nat.le_refl _), if_neg hb, Int32.add_zero]
      · exact q1 j (by omega)) (fun f a ha => by
    obtain ⟨q1, q2, q3⟩ := ha
    have hng : ¬ zn k < zn k := by rw [zn_lt (by omega) (by omega)]; omega
    refine ⟨a, ⟨q1, q3⟩, ?_⟩
    (try dsimp only)
    rw [f112_l24, q3 21 (by decide), h6, if_neg hng]) zfu 0 M (by omega) (by rw [zfu_eq]; omega) ⟨fun j hj => by omega, fun _ _ => rfl, fun _ _ => rfl⟩
  exact ⟨r, g1, g2, g3⟩
def fitSt (A M : ZI) (w : Nat → Int32) (k p s : Nat) : Prop := M 21 8 = zn (fN (fB w k p) s) ∧ firstIs (fB w k p) s (M 21 9) ∧ (∀ i, i < k → M 28 i = zn (fN (fun r => fB w k p r && r.testBit i) s)) ∧ (∀ o, o ≠ 21 → o ≠ 28 → M o = A o) ∧ ∀ j, j ≠ 8 → j ≠ 9 → M 21 j = A 21 j
theorem fitSt_skip {A M : ZI} {w : Nat → Int32} {k p x y : Nat} (hxy : x ≤ y) (h : ∀ s, x ≤ s → s < y → fB w k p s = false) (hf : fitSt A M w k p x) : fitSt A M w k p y := by
  obtain ⟨h1, h2, h3, h4, h5⟩ := hf
  refine ⟨by rw [fN_skip' hxy h]; exact h1, firstIs_skip hxy h h2, fun i hi => ?_, h4, h5⟩
  rw [fN_skip' hxy (fun s q1 q2 => by rw [h s q1 q2]; rfl)]
  exact h3 i hi
theorem fit_one {A M : ZI} {w : Nat → Int32} {n k p o s : Nat} (hi : wrkIs A 21 w k) (hk : wrkOk w n k) (hn : n ≤ 10) (hmo : ∃ d, d < 4096 ∧ w 6 = zn d) (hb : ∀ i, o.testBit i = true ↔ i < k ∧ w (90 + 6 * i) = zn p ∧ zi (w (91 + 6 * i)) ≤ 24) (hso : s &&& o = s) (ho : o < 2 ^ k) (hf : fitSt A M w k p s) :
    ∃ M', ((f42_sum 21 (zn s) (21 + 4) M).bind fun v12 => ((if v12 = w 56 then (f42_sum 21 (zn s) (21 + 5) M).bind fun v13 => (if v13 = w 57 then (f42_sum 21 (zn s) (21 + 2) M).bind fun v14 => (if (24 : Int32) < v14 then some M else (f43_isWhole 21 (zn s) (w 6) M).bind fun v15 => (if v15 = 0 then some M else (f112_countFit 21 (zn s) M).bind fun M16 => some M16)) else some M) else some M) : Option (ZI))) = some M' ∧ fitSt A M' w k p (s + 1) := by
  obtain ⟨h1, h2, h3, h4, h5⟩ := id hf
  obtain ⟨d, hd, e6⟩ := hmo
  have hk12 := hk.1
  have hp4 := pow_4096 hk12
  have hsle : s ≤ o := by rw [← hso]; exact Nat.and_le_right
  have hs : s < 4096 := by omega
  have hi' : wrkIs M 21 w k := wrkIs_of hi (h5 6 (by decide) (by decide)) (fun q q1 q2 => h4 q (by omega) (by omega))
  have h6 : M 21 6 = zn k := hi'.1.trans hk.2.1
  have zd : zi (w 6) = d := by rw [e6, zn_zi (by omega)]
  have no : fB w k p s = false → fitSt A M w k p (s + 1) := fun hF => fitSt_skip (by omega) (fun r q1 q2 => by rw [show r = s by omega]; exact hF) hf
  rw [show f42_sum 21 (zn s) (21 + 4) M = _ from sum_cls hi' hk hn (f := 3) (by decide) hs, Option.bind_some]
  by_cases c1 : zn (wSum w 3 s k) = w 56
  case neg => exact ⟨M, by rw [if_neg c1], no (by unfold fB; simp [c1])⟩
  rw [if_pos c1, show f42_sum 21 (zn s) (21 + 5) M = _ from sum_cls hi' hk hn (f := 4) (by decide) hs, Option.bind_some]
  by_cases c2 : zn (wSum w 4 s k) = w 57
  case neg => exact ⟨M, by rw [if_neg c2], no (by unfold fB; simp [c2])⟩
  rw [if_pos c2, show f42_sum 21 (zn s) (21 + 2) M = _ from sum_cls hi' hk hn (f := 1) (by decide) hs, Option.bind_some]
  have bd := wSum_bd (f := 1) (s := s) hk hn (by decide)
  by_cases c3 : 24 < wSum w 1 s k
  · exact ⟨M, by rw [if_pos (show (24 : Int32) < zn (wSum w 1 s k) by rw [zl24, zn_lt (by decide) (by omega)]; exact c3)], no (by unfold fB; simp [show ¬ wSum w 1 s k ≤ 24 by omega])⟩
  obtain ⟨b, eb, hbb⟩ := whole_cls hi' hk hs hd
  rw [if_neg (show ¬ (24 : Int32) < zn (wSum w 1 s k) by rw [zl24, zn_lt (by decide) (by omega)]; exact c3), e6, eb, Option.bind_some]
  have htog : b = true ↔ wTog w k p s (zi (w 6)) := by
    rw [hbb, zd]
    constructor
    · exact fun h i hi hbi => ⟨((hb i).mp (of_sub hso hbi)).2.1, h i hi hbi⟩
    · exact fun h i hi hbi => (h i hi hbi).2
  by_cases c4 : b = true
  case neg => exact ⟨M, by rw [if_neg c4, if_pos rfl], no (by
    unfold fB
    have : ¬ wTog w k p s (zi (w 6)) := fun h => c4 (htog.mpr h)
    simp [show togB w k p s (zi (w 6)) = false from Bool.eq_false_iff.mpr (fun h => this (togB_iff.mp h))])⟩
  have hF : fB w k p s = true := by
    unfold fB
    simp [c1, c2, show wSum w 1 s k ≤ 24 by omega, togB_iff.mpr (htog.mp c4)]
  rw [if_pos c4, if_neg (by decide)]
  have hN := fN_le (fB w k p) s
  -- the first of them is kept
  have first : ∃ M2, ((if (M 21 8) = 0 then zlet (zs M 21 9 (zn s)) fun (M1 : ZI) => some M1 else some M) : Option (ZI)) = some M2 ∧ firstIs (fB w k p) (s + 1) (M2 21 9) ∧ (∀ o, o ≠ 21 → M2 o = M o) ∧ ∀ j, j ≠ 9 → M2 21 j = M 21 j := by
    by_cases c0 : fN (fB w k p) s = 0
    · refine ⟨zs M 21 9 (zn s), by rw [h1, c0]; rfl, ?_, fun o ho => zs_df ho, fun j hj => by rw [zs_sm, if_neg hj]⟩
      rw [zs_sm, if_pos rfl]
      exact Or.inr ⟨s, by omega, hF, rfl, fun r hr => fN_0 s c0 r hr⟩
    · refine ⟨M, by rw [h1, if_neg (by rw [zl0, zn_eq (by omega) (by decide)]; exact c0)], ?_, fun _ _ => rfl, fun _ _ => rfl⟩
      rcases h2 with ⟨-, h2⟩ | ⟨r, q1, q2, q3, q4⟩
      · exact absurd (fN_skip' (Nat.zero_le s) (fun r _ hr => h2 r hr)) c0
      · exact Or.inr ⟨r, by omega, q2, q3, q4⟩
  obtain ⟨M2, m1, m2, m3, m4⟩ := first
  have e8 : M2 21 8 + 1 = zn (fN (fB w k p) s + 1) := by rw [m4 8 (by decide), h1, zadd1]
  obtain ⟨M4, n1, n2, n3⟩ := each_cls (M := zs M2 21 8 (M2 21 8 + 1)) (w := w) (k := k) (s := s) (by rw [zs_sm, if_neg (by decide), m4 6 (by decide)]; exact h6) hk12 hs
  refine ⟨M4, ?_, ?_, ?_, fun i hi => ?_, fun o q1 q2 => ?_, fun j q1 q2 => ?_⟩
  · unfold f112_countFit
    rw [m1, Option.bind_some, zlet_e, n1]
    rfl
  · rw [n3 21 (by decide), zs_sm, if_pos rfl, e8, fN, if_pos hF]
  · rw [n3 21 (by decide), zs_sm, if_neg (by decide)]
    exact m2
  · rw [n2 i hi, zs_df (by decide), m3 28 (by decide), h3 i hi, fN, hF, Bool.true_and]
    by_cases hbi : s.testBit i = true
    · rw [if_pos hbi, if_pos hbi, zadd1]
    · rw [if_neg hbi, if_neg hbi, Int32.add_zero, Nat.add_zero]
  · rw [n3 o q2, zs_df q1, m3 o q1]
    exact h4 o q1 q2
  · rw [n3 21 (by decide), zs_sm, if_neg q1, m4 j q2]
    exact h5 j q1 q2
theorem clear_cls {M : ZI} : ∃ M', f111_l22 21 zfu 0 M = some M' ∧ (∀ i, i < 12 → M' 28 i = 0) ∧ ∀ o, o ≠ 28 → M' o = M o := by
  obtain ⟨r, g1, g2, g3⟩ := zloop (fun f (a : ZI) c => f111_l22 21 f c a) 12 (fun i a => (∀ j, j < i → a 28 j = 0) ∧ ∀ o, o ≠ 28 → a o = M o) (fun a => (∀ i, i < 12 → a 28 i = 0) ∧ ∀ o, o ≠ 28 → a o = M o) (fun f i a hi ha => by
    obtain ⟨q1, q2⟩ := ha
    left
    (try dsimp only)
    rw [f111_l22, if_pos (show zn i < 12 by rw [zl12, zn_lt (by omega) (by decide)]; exact hi), if_pos ((zn_zin (by omega)).mpr hi), zn_zi (by omega), zadd1]
    refine ⟨zs a 28 i 0, ⟨fun j hj => ?_, fun o ho => by rw [zs_df ho]; exact q2 o ho⟩, rfl⟩
    rw [zs_sm]
    by_cases hji : j = i
    · rw [if_pos hji]
    · rw [if_neg hji]; exact q1 j (by omega)) (fun f a ha => by
    refine ⟨a, ha, ?_⟩
    (try dsimp only)
    rw [f111_l22, if_neg (by decide)]) zfu 0 M (by omega) (by rw [zfu_eq]; omega) ⟨fun j hj => by omega, fun _ _ => rfl⟩
  exact ⟨r, g1, g2, g3⟩
theorem count_cls {A B : ZI} {n k c b p : Nat} (h0 : Inv5 A B n k c b) (hp : p < n) : ∃ A', f110_countFits 1 (zn p) A = some A' ∧ fitSt A A' (B 149) k p (2 ^ k) := by
  obtain ⟨⟨h1, -, hi, -⟩, h2, h3, h4, -⟩ := h0
  have hn := h2.1.1
  have hk := h2.2.2.1
  have hk12 := hk.1
  have hp4 := pow_4096 hk12
  obtain ⟨o, ho, e1, hb⟩ := owned_cls hi hk hn hp (show 24 ≤ 24 by decide)
  have hi21 : wrkIs A 21 (B 149) k := hi
  obtain ⟨M1, c1, c2, c3⟩ := clear_cls (M := zs (zs A 21 8 0) 21 9 (-1))
  have st0 : fitSt A M1 (B 149) k p 0 := by
    refine ⟨?_, ?_, fun i hik => c2 i (by omega), fun o q1 q2 => by rw [c3 o q2, zs_df q1, zs_df q1], fun j q1 q2 => by rw [c3 21 (by decide), zs_sm, if_neg q2, zs_sm, if_neg q1]⟩
    · rw [c3 21 (by decide), zs_sm, if_neg (by decide), zs_sm, if_pos rfl]
      rfl
    · rw [c3 21 (by decide), zs_sm, if_pos rfl]
      exact Or.inl ⟨rfl, fun s hs => by omega⟩
  have hd : A 2 8 = (B 149) 6 := h3.1.2.2.2.2.1
  have h56 : A 1 14 = B 149 56 := h1.1.2.2.2.1
  have h57 : A 1 15 = B 149 57 := h1.1.2.2.2.2
  have hmo := h4.2.2.2.1
  obtain ⟨r, g1, g2⟩ := zloop (fun f (a : Int32 × ZI) c => f111_l49 21 (B 149 6) (B 149 56) (B 149 57) (zn o) f a.1 c a.2) 4096 (fun i a => ∃ s, a.1 = zn s ∧ s &&& o = s ∧ i ≤ s ∧ fitSt A a.2 (B 149) k p s) (fun a => fitSt A a (B 149) k p (2 ^ k)) (fun f i a hi4 ha => by
    obtain ⟨x, M⟩ := a
    obtain ⟨s, rfl, hso, his, hst⟩ := ha
    (try dsimp only)
    (try dsimp only at hst)
    obtain ⟨M2, m1, m2⟩ := fit_one hi21 hk hn hmo hb hso ho hst
    obtain ⟨y, ey, hy1, hy2, hy3, hy4⟩ := next_part (show o < 4096 by omega) hso
    have e : f111_l49 21 (B 149 6) (B 149 56) (B 149 57) (zn o) (f + 1) (zn s) (zn i) M = (if (zn s - zn o) &&& zn o = 0 then some M2 else f111_l49 21 (B 149 6) (B 149 56) (B 149 57) (zn o) f ((zn s - zn o) &&& zn o) (zn i + 1) M2) := by
      rw [f111_l49, if_pos (show zn i < 4096 by rw [zl4096, zn_lt (by omega) (by decide)]; exact hi4)]
      rw [show f42_sum 21 (zn s) (21 + 4) M = _ from sum_cls (wrkIs_of hi21 (hst.2.2.2.2 6 (by decide) (by decide)) (fun q q1 q2 => hst.2.2.2.1 q (by omega) (by omega))) hk hn (f := 3) (by decide) (by
        have : s ≤ o := by rw [← hso]; exact Nat.and_le_right
        omega)] at m1 ⊢
      rw [Option.bind_some] at m1 ⊢
      rw [m1]
      rfl
    rw [e, ey, zadd1]
    by_cases hs : s = o
    · right
      subst hs
      rw [hy3 rfl, if_pos (show zn 0 = 0 from rfl)]
      refine ⟨M2, ?_, rfl⟩
      exact fitSt_skip (by omega) (fun r q1 q2 => by
        cases hF : fB (B 149) k p r with
        | false => rfl
        | true =>
          have := fB_sub hb q2 hF
          have : r ≤ s := by rw [← this]; exact Nat.and_le_right
          omega) m2
    · left
      obtain ⟨hy5, hy6⟩ := hy4 hs
      have hyo : y ≤ o := by rw [← hy1]; exact Nat.and_le_right
      rw [if_neg (by rw [zl0, zn_eq (by omega) (by decide)]; omega)]
      refine ⟨(zn y, M2), ⟨y, rfl, hy1, by omega, ?_⟩, rfl⟩
      exact fitSt_skip (by omega) (fun r q1 q2 => by
        cases hF : fB (B 149) k p r with
        | false => rfl
        | true =>
          have := hy6 r (fB_sub hb (by omega) hF) (by omega)
          omega) m2) (fun f a ha => by
    obtain ⟨s, -, hso, hs4, -⟩ := ha
    have : s ≤ o := by rw [← hso]; exact Nat.and_le_right
    omega) zfu 0 (0, M1) (by omega) (by rw [zfu_eq]; omega) ⟨0, rfl, Nat.zero_and o, Nat.le_refl _, st0⟩
  have g1 : f111_l49 21 (B 149 6) (B 149 56) (B 149 57) (zn o) zfu 0 0 M1 = some r := g1
  refine ⟨r, ?_, g2⟩
  unfold f110_countFits f111_countFits
  rw [show A (1 + 1) 8 = B 149 6 from hd, h56, h57, show f41_ownedBy (1 + 20) (zn p) 24 A = some (zn o) from e1, Option.bind_some, zlet_e, zlet_e, show f111_l22 (1 + 20) zfu 0 (zs (zs A (1 + 20) 8 0) (1 + 20) 9 (-1)) = some M1 from c1, Option.bind_some, show f111_l49 (1 + 20) (B 149 6) (B 149 56) (B 149 57) (zn o) zfu 0 0 M1 = some r from g1]
  rfl
theorem fit_scr {A A' : ZI} {w : Nat → Int32} {k p s : Nat} (h : fitSt A A' w k p s) : scrA A A' := by
  obtain ⟨-, -, -, h4, h5⟩ := h
  exact ⟨fun o _ _ _ _ q5 _ q7 _ => h4 o q7 q5, h5⟩
theorem fits_ref {B : ZI} {w : Nat → Int32} {n k p s : Nat} (hw : B 149 = w) (hk : wrkOk w n k) (hn : n ≤ 10) (hmo : ∃ d, d < 4096 ∧ w 6 = zn d) (hs : s < 2 ^ k) : f253_fitsTraces (zn s) (zn p) B = some (if fB w k p s = true then 1 else 0) := by
  have hk12 := hk.1
  have hp4 := pow_4096 hk12
  obtain ⟨d, hd, e6⟩ := hmo
  have zd : zi (w 6) = d := by rw [e6, zn_zi (by omega)]
  unfold f253_fitsTraces
  rw [hw, show f221_sumOf (zn s) 3 B = _ from sum_ref2 (f := 3) hw hk hn (by decide) (by omega), Option.bind_some]
  by_cases c1 : zn (wSum w 3 s k) = w 56
  case neg => rw [if_neg c1, if_neg (by unfold fB; simp [c1])]
  rw [if_pos c1, show f221_sumOf (zn s) 4 B = _ from sum_ref2 (f := 4) hw hk hn (by decide) (by omega), Option.bind_some]
  by_cases c2 : zn (wSum w 4 s k) = w 57
  case neg => rw [if_neg c2, if_neg (by unfold fB; simp [c2])]
  rw [if_pos c2, show f221_sumOf (zn s) 1 B = _ from sum_ref2 (f := 1) hw hk hn (by decide) (by omega), Option.bind_some]
  have bd := wSum_bd (f := 1) (s := s) hk hn (by decide)
  by_cases c3 : 24 < wSum w 1 s k
  · rw [if_pos (show (24 : Int32) < zn (wSum w 1 s k) by rw [zl24, zn_lt (by decide) (by omega)]; exact c3), if_neg (by unfold fB; simp [show ¬ wSum w 1 s k ≤ 24 by omega])]
  obtain ⟨b, eb, hbb⟩ := tog_ref (M := B) (p := p) hw hk (show s < 4096 by omega) hd e6
  rw [if_neg (show ¬ (24 : Int32) < zn (wSum w 1 s k) by rw [zl24, zn_lt (by decide) (by omega)]; exact c3), eb, Option.bind_some]
  rw [← zd] at hbb
  by_cases c4 : b = true
  · rw [if_pos c4, if_neg (by decide), if_pos]
    unfold fB
    simp [c1, c2, show wSum w 1 s k ≤ 24 by omega, togB_iff.mpr (hbb.mp c4)]
  · rw [if_neg c4, if_pos rfl, if_neg]
    unfold fB
    simp [show togB w k p s (zi (w 6)) = false from Bool.eq_false_iff.mpr (fun h => c4 (hbb.mpr (togB_iff.mp h)))]
end
section
theorem hits_eq {r i : Nat} : (r &&& 2 ^ i = 2 ^ i) ↔ r.testBit i = true := by
  constructor
  · intro h
    have := congrArg (fun x => x.testBit i) h
    simp only [Nat.testBit_and, Nat.testBit_two_pow_self, Bool.and_true] at this
    exact this
  · intro h
    apply Nat.eq_of_testBit_eq
    intro j
    rw [Nat.testBit_and, Nat.testBit_two_pow]
    by_cases hij : i = j
    · subst hij
      simp [h]
    · simp [hij]
theorem cnt_ref {B : ZI} {w : Nat → Int32} {n k p m : Nat} (hw : B 149 = w) (hk : wrkOk w n k) (hn : n ≤ 10) (hmo : ∃ d, d < 4096 ∧ w 6 = zn d) (hm : m < 4096) : f252_fitsWith (zn p) (zn m) B = some (zn (fN (fun r => fB w k p r && decide (r &&& m = m)) (2 ^ k))) := by
  have hk12 := hk.1
  have hp4 := pow_4096 hk12
  have h52 : B 149 52 = zn k := by rw [hw]; exact hk.2.1
  have sh : zshl 1 (zn k) = zn (2 ^ k) := by rw [zl1]; exact zn_shl (by omega)
  obtain ⟨r, g1, rfl⟩ := zloop (fun f (a : Int32) c => f252_l5 (zn p) (zn m) B f a c) (2 ^ k) (fun i a => a = zn (fN (fun r => fB w k p r && decide (r &&& m = m)) i)) (fun a => a = zn (fN (fun r => fB w k p r && decide (r &&& m = m)) (2 ^ k))) (fun f i a hi ha => by
    subst ha
    left
    (try dsimp only)
    have l1 : i &&& m < 4096 := Nat.lt_of_le_of_lt Nat.and_le_right hm
    rw [f252_l5, h52, sh, if_pos ((zn_lt (by omega) (by omega)).mpr hi), zn_and, fits_ref hw hk hn hmo hi, zadd1]
    refine ⟨_, rfl, ?_⟩
    by_cases hc : i &&& m = m
    · rw [if_pos (show zn (i &&& m) = zn m by rw [hc]), Option.bind_some]
      by_cases hF : fB w k p i = true
      · rw [if_pos hF, if_neg (by decide), zlet_e, fN, if_pos (by rw [hF, decide_eq_true hc]; rfl), zadd1]
      · rw [if_neg hF, if_pos rfl, zlet_e, fN, if_neg (by simp [hF]), Int32.add_zero]
        rfl
    · rw [if_neg (by rw [zn_eq (by omega) (by omega)]; exact hc), zlet_e, fN, if_neg (by simp [hc]), Int32.add_zero]
      rfl) (fun f a ha => by
    refine ⟨a, ha, ?_⟩
    (try dsimp only)
    rw [f252_l5, h52, sh, if_neg (by rw [zn_lt (by omega) (by omega)]; omega)]) zfu 0 0 (Nat.zero_le _) (by rw [zfu_eq]; omega) rfl
  have g1 : f252_l5 (zn p) (zn m) B zfu 0 0 = some _ := g1
  unfold f252_fitsWith
  rw [g1]
  rfl
theorem fN_congr {P Q : Nat → Bool} : ∀ j, (∀ s, s < j → P s = Q s) → fN P j = fN Q j
  | 0, _ => rfl
  | j + 1, h => by
    unfold fN
    rw [fN_congr j (fun s hs => h s (by omega)), h j (by omega)]
theorem cnt_ref0 {B : ZI} {w : Nat → Int32} {n k p : Nat} (hw : B 149 = w) (hk : wrkOk w n k) (hn : n ≤ 10) (hmo : ∃ d, d < 4096 ∧ w 6 = zn d) : f252_fitsWith (zn p) 0 B = some (zn (fN (fB w k p) (2 ^ k))) := by
  rw [show (0 : Int32) = zn 0 from rfl, cnt_ref hw hk hn hmo (by decide), fN_congr (Q := fB w k p) _ (fun s _ => by simp)]
theorem cnt_refI {B : ZI} {w : Nat → Int32} {n k p i : Nat} (hw : B 149 = w) (hk : wrkOk w n k) (hn : n ≤ 10) (hmo : ∃ d, d < 4096 ∧ w 6 = zn d) (hi : i < k) : f252_fitsWith (zn p) (zshl 1 (zn i)) B = some (zn (fN (fun r => fB w k p r && r.testBit i) (2 ^ k))) := by
  have hk12 := hk.1
  have : 2 ^ i < 4096 := Nat.lt_of_lt_of_le (Nat.pow_lt_pow_right (by decide) (show i < 12 by omega)) (Nat.le_refl _)
  rw [show zshl 1 (zn i) = zn (2 ^ i) by rw [zl1]; exact zn_shl (by omega), cnt_ref hw hk hn hmo this, fN_congr (Q := fun r => fB w k p r && r.testBit i) _ (fun s _ => by
    by_cases h : s.testBit i = true
    · simp [h, hits_eq.mpr h]
    · have h' : ¬ s &&& 2 ^ i = 2 ^ i := fun hc => h (hits_eq.mp hc)
      simp [h, h'])]
theorem fst_ref {B : ZI} {w : Nat → Int32} {n k p : Nat} (hw : B 149 = w) (hk : wrkOk w n k) (hn : n ≤ 10) (hmo : ∃ d, d < 4096 ∧ w 6 = zn d) : ∃ v, f251_l32 (zn p) B zfu 0 = some v ∧ firstIs (fB w k p) (2 ^ k) v := by
  have hk12 := hk.1
  have hp4 := pow_4096 hk12
  have h52 : B 149 52 = zn k := by rw [hw]; exact hk.2.1
  have sh : zshl 1 (zn k) = zn (2 ^ k) := by rw [zl1]; exact zn_shl (by omega)
  obtain ⟨r, g1, g2⟩ := zloop (fun f (_ : Unit) c => f251_l32 (zn p) B f c) (2 ^ k) (fun i _ => ∀ s, s < i → fB w k p s = false) (fun v => firstIs (fB w k p) (2 ^ k) v) (fun f i a hi ha => by
    (try dsimp only)
    rw [f251_l32, h52, sh, if_pos ((zn_lt (by omega) (by omega)).mpr hi), fits_ref hw hk hn hmo hi, zadd1, Option.bind_some]
    by_cases hF : fB w k p i = true
    · right
      rw [if_pos hF, if_neg (by decide)]
      exact ⟨zn i, Or.inr ⟨i, hi, hF, rfl, ha⟩, rfl⟩
    · left
      rw [if_neg hF, if_pos rfl]
      refine ⟨(), fun s hs => ?_, rfl⟩
      by_cases hsi : s = i
      · rw [hsi]; simpa using hF
      · exact ha s (by omega)) (fun f a ha => by
    refine ⟨-1, Or.inl ⟨rfl, ha⟩, ?_⟩
    (try dsimp only)
    rw [f251_l32, h52, sh, if_neg (by rw [zn_lt (by omega) (by omega)]; omega)]) zfu 0 () (Nat.zero_le _) (by rw [zfu_eq]; omega) (fun s hs => by omega)
  exact ⟨r, g1, g2⟩
theorem sync_fits (x y : Int32) : sync (f109_fits x y) (fun M => (f251_fits x y M).bind fun v => some (v, M)) := sync_q (by
  intro A B n k c b h0
  have hk := h0.2.1.2.2.1
  have hn := h0.2.1.1.1
  have hmo := h0.2.2.2.1.2.2.2.1
  rcases has_eq h0 x with ⟨p, hp, rfl, e1, e2⟩ | ⟨e1, e2⟩
  case inr => exact ⟨-1, A, B, by unfold f109_fits; rw [e1]; rfl, by unfold f251_fits; (try dsimp only); rw [e2]; rfl, scrA_refl A, scrB_refl B, fun _ _ => rfl, fun _ _ => rfl⟩
  rcases within_ex (x := y) (lo := 0) (hi := 1) (by decide) (by decide) with ⟨u, -, hu, rfl, e3, e4⟩ | ⟨e3, e4⟩
  case inr => exact ⟨-1, A, B, by unfold f109_fits; rw [e1, show f13_within y 0 1 = some 0 from e3]; rfl, by unfold f251_fits; (try dsimp only); rw [e2, show f149_isIn y 0 1 = some 0 from e4]; rfl, scrA_refl A, scrB_refl B, fun _ _ => rfl, fun _ _ => rfl⟩
  obtain ⟨A1, a1, a2⟩ := count_cls h0 hp
  obtain ⟨v, f1, f2⟩ := fst_ref (B := B) (p := p) rfl hk hn hmo
  have hA : ∀ o, 148 ≤ o → A1 o = A o := fun o ho => a2.2.2.2.1 o (by omega) (by omega)
  have hu2 : u = 0 ∨ u = 1 := by omega
  rcases hu2 with rfl | rfl
  · refine ⟨zn (fN (fB (B 149) k p) (2 ^ k)), A1, B, ?_, ?_, fit_scr a2, scrB_refl B, hA, fun _ _ => rfl⟩
    · unfold f109_fits
      rw [e1, Option.bind_some, if_neg (by decide), show f13_within (zn 0) 0 1 = some 1 from e3, Option.bind_some, if_neg (by decide), a1, Option.bind_some, if_pos (show zn 0 = 0 from rfl), a2.1]
    · (try dsimp only)
      unfold f251_fits
      rw [e2, Option.bind_some, if_neg (by decide), show f149_isIn (zn 0) 0 1 = some 1 from e4, Option.bind_some, if_neg (by decide), if_pos (show zn 0 = 0 from rfl), cnt_ref0 rfl hk hn hmo]
      rfl
  · refine ⟨v, A1, B, ?_, ?_, fit_scr a2, scrB_refl B, hA, fun _ _ => rfl⟩
    · unfold f109_fits
      rw [e1, Option.bind_some, if_neg (by decide), show f13_within (zn 1) 0 1 = some 1 from e3, Option.bind_some, if_neg (by decide), a1, Option.bind_some, if_neg (show ¬ zn 1 = 0 by decide), firstIs_one a2.2.1 f2]
    · (try dsimp only)
      unfold f251_fits
      rw [e2, Option.bind_some, if_neg (by decide), show f149_isIn (zn 1) 0 1 = some 1 from e4, Option.bind_some, if_neg (by decide), if_neg (show ¬ zn 1 = 0 by decide), f1]
      rfl)
theorem sync_thieves : sync f129_thieves (fun M => (f254_thieves M).bind fun v => some (v, M)) := sync_q (by
  intro A B n k c b h0
  have hk := h0.2.1.2.2.1
  have hn := h0.2.1.1.1
  have h48 := h0.2.1.1.2.1
  have hmo := h0.2.2.2.1.2.2.2.1
  obtain ⟨⟨r1, A'⟩, r2, g1, g2, g3, g4, g5⟩ := zpair (fun f (a : Int32 × ZI) c => f129_l4 f a.1 c a.2) (fun f (d : Int32) c => f254_l4 B f d c) n (fun _ a d => a.1 = d ∧ scrA A a.2 ∧ ∀ o, 148 ≤ o → a.2 o = A o) (fun a d => a.1 = d ∧ scrA A a.2 ∧ ∀ o, 148 ≤ o → a.2 o = A o) (fun f i a d hi had => by
    obtain ⟨x1, M⟩ := a
    obtain ⟨rfl, hs, hA⟩ := had
    left
    (try dsimp only at hs hA)
    (try dsimp only)
    have hI : Inv5 M B n k c b := Inv5_scr h0 hs rfl
    have h11 : M 1 11 = zn n := hI.1.1.1.1.trans h48
    have lt : zn i < zn n := (zn_lt (by omega) (by omega)).mpr hi
    obtain ⟨M1, a1, a2⟩ := count_cls hI hi
    obtain ⟨v, f1, f2⟩ := fst_ref (B := B) (p := i) rfl hk hn hmo
    have hN := fN_le (fB (B 149) k i) (2 ^ k)
    have hp4 := pow_4096 hk.1
    have ev : f251_fits (zn i) 1 B = some v := by
      rcases has_eq h0 (zn i) with ⟨p, hp, e0, e1, e2⟩ | ⟨e1, e2⟩
      · unfold f251_fits
        rw [e2, Option.bind_some, if_neg (by decide), show f149_isIn 1 0 1 = some 1 from by decide, Option.bind_some, if_neg (by decide), if_neg (by decide), f1]
      · exfalso
        unfold f152_isPerson f149_isIn at e2
        rw [h48, if_neg (zn_nneg (by omega)), if_neg (show ¬ zn n - 1 < zn i by rw [zl1, zn_sub (by omega), zn_lt (by omega) (by omega)]; omega)] at e2
        exact absurd e2 (by decide)
    rw [f129_l4, f254_l4, h11, h48, if_pos lt, if_pos lt, a1, ev, Option.bind_some, Option.bind_some, a2.1, zadd1]
    have hs2 : scrA A M1 := scrA_trans hs (fit_scr a2)
    have hA2 : ∀ o, 148 ≤ o → M1 o = A o := fun o ho => (a2.2.2.2.1 o (by omega) (by omega)).trans (hA o ho)
    simp only [zlet_e]
    rcases f2 with ⟨rfl, f2⟩ | ⟨s, q1, q2, rfl, -⟩
    · have : fN (fB (B 149) k i) (2 ^ k) = 0 := fN_skip' (Nat.zero_le _) (fun s _ hs => f2 s hs)
      rw [this, if_neg (show ¬ (0 : Int32) < zn 0 by decide), if_pos rfl]
      exact ⟨(x1, M1), x1, ⟨rfl, hs2, hA2⟩, rfl, by rw [Int32.or_zero]⟩
    · have := fN_pos q2 _ q1
      rw [if_pos (show (0 : Int32) < zn (fN (fB (B 149) k i) (2 ^ k)) by rw [zl0, zn_lt (by decide) (by omega)]; exact this), if_neg (zn_ne_neg (by omega))]
      exact ⟨(_, M1), _, ⟨rfl, hs2, hA2⟩, rfl, rfl⟩) (fun f a d had => by
    obtain ⟨x1, M⟩ := a
    have hI : Inv5 M B n k c b := Inv5_scr h0 had.2.1 rfl
    have h11 : M 1 11 = zn n := hI.1.1.1.1.trans h48
    have hng : ¬ zn n < zn n := by rw [zn_lt (by omega) (by omega)]; omega
    refine ⟨(x1, M), d, had, ?_, ?_⟩
    · (try dsimp only)
      rw [f129_l4, h11, if_neg hng]
    · (try dsimp only)
      rw [f254_l4, h48, if_neg hng]) zfu 0 (0, A) 0 (by omega) (by rw [zfu_eq]; omega) ⟨rfl, scrA_refl A, fun _ _ => rfl⟩
  have g1 : f129_l4 zfu 0 0 A = some (r1, A') := g1
  have g2 : f254_l4 B zfu 0 0 = some r2 := g2
  simp only at g3 g4 g5
  subst g3
  refine ⟨r1, A', B, ?_, ?_, g4, scrB_refl B, g5, fun _ _ => rfl⟩
  · unfold f129_thieves
    rw [g1]
    rfl
  · (try dsimp only)
    unfold f254_thieves
    rw [g2]
    rfl)
end
section
theorem fN_part {P : Nat → Bool} {Q : Nat → Bool} : ∀ j, fN (fun r => P r && Q r) j ≤ fN P j
  | 0 => Nat.le_refl _
  | j + 1 => by
    have := fN_part (P := P) (Q := Q) j
    unfold fN
    cases h1 : P j <;> cases h2 : Q j <;> simp <;> omega
theorem fN_all {P : Nat → Bool} {Q : Nat → Bool} : ∀ j, fN (fun r => P r && Q r) j = fN P j → ∀ s, s < j → P s = true → Q s = true
  | 0, _, s, hs, _ => by omega
  | j + 1, h, s, hs, hP => by
    have h0 := fN_part (P := P) (Q := Q) j
    unfold fN at h
    by_cases hsj : s = j
    · subst hsj
      cases h2 : Q s with
      | true => rfl
      | false =>
        simp [hP, h2] at h
        omega
    · refine fN_all j ?_ s (by omega) hP
      cases h1 : P j <;> cases h2 : Q j <;> simp [h1, h2] at h <;> omega
theorem fN_two {P : Nat → Bool} : ∀ j, 2 ≤ fN P j → ∃ s r, s < r ∧ r < j ∧ P s = true ∧ P r = true
  | 0, h => by simp [fN] at h
  | j + 1, h => by
    by_cases h2 : 2 ≤ fN P j
    · obtain ⟨s, r, q1, q2, q3⟩ := fN_two j h2
      exact ⟨s, r, q1, by omega, q3⟩
    · unfold fN at h
      have hj : P j = true := by
        cases hj : P j with
        | true => rfl
        | false => rw [hj] at h; simp at h; omega
      have h1 : 0 < fN P j := by
        rw [if_pos hj] at h; omega
      have : ∃ s, s < j ∧ P s = true := by
        apply Classical.byContradiction
        intro hc
        have : fN P j = 0 := fN_skip' (Nat.zero_le _) (fun s _ hs => by
          cases hP : P s with
          | false => rfl
          | true => exact absurd ⟨s, hs, hP⟩ hc)
        omega
      obtain ⟨s, hs, hP⟩ := this
      exact ⟨s, j, hs, by omega, hP, hj⟩
theorem mx_zn {N c : Nat} (hN : N ≤ 4096) (hc : c ≤ N) : zmax (zn c) (zn N - zn c) = zn (max c (N - c)) := by
  rw [zn_sub (by omega), zmax_zn (by omega) (by omega)]
/-- there is a work that tells -/
theorem tells_one {w : Nat → Int32} {n k p : Nat} (hN : 2 ≤ fN (fB w k p) (2 ^ k)) : ∃ i, i < k ∧ w (90 + 6 * i) = zn p ∧ 0 < fN (fun r => fB w k p r && r.testBit i) (2 ^ k) ∧ fN (fun r => fB w k p r && r.testBit i) (2 ^ k) < fN (fB w k p) (2 ^ k) := by
  obtain ⟨s, r, h1, h2, h3, h4⟩ := fN_two _ hN
  have hd : ∃ i, s.testBit i ≠ r.testBit i := by
    apply Classical.byContradiction
    intro hc
    have : s = r := Nat.eq_of_testBit_eq (fun i => Classical.byContradiction fun h => hc ⟨i, h⟩)
    omega
  obtain ⟨i, hi⟩ := hd
  have own : ∀ q, q < 2 ^ k → fB w k p q = true → q.testBit i = true → i < k ∧ w (90 + 6 * i) = zn p := by
    intro q hq hF hb
    have hik := tb_lt hq hb
    unfold fB at hF
    simp only [Bool.and_eq_true, decide_eq_true_eq] at hF
    exact ⟨hik, (togB_iff.mp hF.2 i hik hb).1⟩
  have done : ∀ q q', q < 2 ^ k → q' < 2 ^ k → fB w k p q = true → fB w k p q' = true → q.testBit i = true → q'.testBit i = false → ∃ i, i < k ∧ w (90 + 6 * i) = zn p ∧ 0 < fN (fun r => fB w k p r && r.testBit i) (2 ^ k) ∧ fN (fun r => fB w k p r && r.testBit i) (2 ^ k) < fN (fB w k p) (2 ^ k) := by
    intro q q' hq hq' g1 g2 g3 g4
    obtain ⟨o1, o2⟩ := own q hq g1 g3
    refine ⟨i, o1, o2, fN_pos (P := fun r => fB w k p r && r.testBit i) (s := q) (by simp [g1, g3]) _ hq, ?_⟩
    have hle := fN_part (P := fB w k p) (Q := fun r => r.testBit i) (2 ^ k)
    have hne : fN (fun r => fB w k p r && r.testBit i) (2 ^ k) ≠ fN (fB w k p) (2 ^ k) := by
      intro hc
      have := fN_all (P := fB w k p) (Q := fun r => r.testBit i) _ hc q' hq' g2
      rw [g4] at this
      exact absurd this (by decide)
    omega
  cases hs : s.testBit i with
  | true =>
    cases hr : r.testBit i with
    | true => rw [hs, hr] at hi; exact absurd rfl hi
    | false => exact done s r (by omega) h2 h3 h4 hs hr
  | false =>
    cases hr : r.testBit i with
    | true => exact done r s h2 (by omega) h4 h3 hr hs
    | false => rw [hs, hr] at hi; exact absurd rfl hi
theorem fN_none {w : Nat → Int32} {k p i : Nat} (hi : ¬ w (90 + 6 * i) = zn p) : fN (fun r => fB w k p r && r.testBit i) (2 ^ k) = 0 := by
  refine fN_skip' (Nat.zero_le _) (fun s _ hs => ?_)
  cases h1 : fB w k p s with
  | false => rfl
  | true =>
    cases h2 : s.testBit i with
    | false => rfl
    | true =>
      unfold fB at h1
      simp only [Bool.and_eq_true, decide_eq_true_eq] at h1
      exact absurd (togB_iff.mp h1.2 i (tb_lt hs h2) h2).1 hi
theorem sync_lookAt (x : Int32) : sync (f113_lookAt x) (fun M => (f255_lookAt x M).bind fun v => some (v, M)) := sync_q (by
  intro A B n k c b h0
  have hk := h0.2.1.2.2.1
  have hn := h0.2.1.1.1
  have h52 : B 149 52 = zn k := hk.2.1
  have hk12 := hk.1
  have hmo := h0.2.2.2.1.2.2.2.1
  rcases has_eq h0 x with ⟨p, hp, rfl, e1, e2⟩ | ⟨e1, e2⟩
  case inr => exact ⟨-1, A, B, by unfold f113_lookAt; rw [e1]; rfl, by unfold f255_lookAt; (try dsimp only); rw [e2]; rfl, scrA_refl A, scrB_refl B, fun _ _ => rfl, fun _ _ => rfl⟩
  obtain ⟨M, a1, a2⟩ := count_cls h0 hp
  have hA : ∀ o, 148 ≤ o → M o = A o := fun o ho => a2.2.2.2.1 o (by omega) (by omega)
  have hp4 := pow_4096 hk12
  have hc0 := cnt_ref0 (B := B) (p := p) rfl hk hn hmo
  have hwI : wrkIs A 21 (B 149) k := h0.1.2.2.1
  have h6 : M 21 6 = zn k := (a2.2.2.2.2 6 (by decide) (by decide)).trans (hwI.1.trans h52)
  have how : ∀ i, i < k → M 22 i = B 149 (90 + 6 * i) := fun i hi => by rw [a2.2.2.2.1 22 (by decide) (by decide)]; exact (hwI.2 i hi).1
  have h8 : M 21 8 = zn (fN (fB (B 149) k p) (2 ^ k)) := a2.1
  have h28 := a2.2.2.1
  have hle := fN_le (fB (B 149) k p) (2 ^ k)
  generalize hNd : fN (fB (B 149) k p) (2 ^ k) = N at *
  have hN4 : N ≤ 4096 := by omega
  by_cases hN2 : N < 2
  · refine ⟨-1, M, B, ?_, ?_, fit_scr a2, scrB_refl B, hA, fun _ _ => rfl⟩
    · unfold f113_lookAt f114_mostTelling
      rw [e1, Option.bind_some, if_neg (by decide), a1, Option.bind_some, h8, if_pos (show zn N < 2 by rw [zl2, zn_lt (by omega) (by decide)]; exact hN2)]
      rfl
    · (try dsimp only)
      obtain ⟨mf, hmf⟩ : ∃ m, zfu = m + 1 := ⟨99999, rfl⟩
      unfold f255_lookAt
      rw [e2, Option.bind_some, if_neg (by decide), hc0, Option.bind_some, hmf, f255_l27, h52, if_neg (show ¬ (1 : Int32) < zn N by rw [zl1, zn_lt (by decide) (by omega)]; omega)]
      by_cases hlt : (0 : Int32) < zn k
      · rw [if_pos hlt]; rfl
      · rw [if_neg hlt]; rfl
  obtain ⟨t, t1, t2, t3, t4⟩ := tells_one (n := n) (w := B 149) (k := k) (p := p) (by omega)
  rw [hNd] at t4
  have ng : ¬ zn N < 2 := by rw [zl2, zn_lt (by omega) (by decide)]; omega
  have gt1 : (1 : Int32) < zn N := by rw [zl1, zn_lt (by decide) (by omega)]; omega
  have hcl : ∀ i, fN (fun r => fB (B 149) k p r && r.testBit i) (2 ^ k) ≤ N := fun i => by
    have := fN_part (P := fB (B 149) k p) (Q := fun r => r.testBit i) (2 ^ k)
    omega
  obtain ⟨r, r', g1, g2, rfl⟩ := zpair (fun f (a : Int32 × Int32) c => f114_l17 21 (zn p) M f a.1 a.2 c) (fun f (d : Int32 × Int32) c => f255_l27 (zn p) B (zn N) f d.1 d.2 c) k
    (fun i a d => (∃ q v, q < k ∧ v < N ∧ a = (zn q, zn v) ∧ d = (zn q, zn v)) ∨ (i ≤ t ∧ (a.1 = -1 ∨ a.2 = zn N) ∧ ∃ z, N ≤ z ∧ z ≤ 100000 ∧ d.2 = zn z ∧ (z = N ∨ z = 100000))) (fun a d => a = d) (fun f i a d hi had => by
    obtain ⟨x1, x2⟩ := a
    obtain ⟨y1, y2⟩ := d
    left
    (try dsimp only)
    (try dsimp only at had)
    have lt : zn i < zn k := (zn_lt (by omega) (by omega)).mpr hi
    have hz : zin (zn i) 12 = true := (zn_zin (by omega)).mpr (by omega)
    have hci := hcl i
    have eC : f114_l17 21 (zn p) M (f + 1) x1 x2 (zn i) = (if B 149 (90 + 6 * i) = zn p then (if x1 = (-1 : Int32) then f114_l17 21 (zn p) M f (zn i) (zn (max (fN (fun r => fB (B 149) k p r && r.testBit i) (2 ^ k)) (N - fN (fun r => fB (B 149) k p r && r.testBit i) (2 ^ k)))) (zn (i + 1)) else (if zn (max (fN (fun r => fB (B 149) k p r && r.testBit i) (2 ^ k)) (N - fN (fun r => fB (B 149) k p r && r.testBit i) (2 ^ k))) < x2 then f114_l17 21 (zn p) M f (zn i) (zn (max (fN (fun r => fB (B 149) k p r && r.testBit i) (2 ^ k)) (N - fN (fun r => fB (B 149) k p r && r.testBit i) (2 ^ k)))) (zn (i + 1)) else f114_l17 21 (zn p) M f x1 x2 (zn (i + 1)))) else f114_l17 21 (zn p) M f x1 x2 (zn (i + 1))) := by
      rw [f114_l17, h6, if_pos lt, if_pos hz, if_pos hz, zlet_e, if_pos hz, zn_zi (by omega), show M (21 + 7) i = _ from h28 i hi, show M (21 + 1) i = _ from how i hi, h8, mx_zn hN4 hci, zlet_e]
      dsimp only
      rw [zadd1]
    have eR : f255_l27 (zn p) B (zn N) (f + 1) y1 y2 (zn i) = (if zn (max (fN (fun r => fB (B 149) k p r && r.testBit i) (2 ^ k)) (N - fN (fun r => fB (B 149) k p r && r.testBit i) (2 ^ k))) < y2 then f255_l27 (zn p) B (zn N) f (zn i) (zn (max (fN (fun r => fB (B 149) k p r && r.testBit i) (2 ^ k)) (N - fN (fun r => fB (B 149) k p r && r.testBit i) (2 ^ k)))) (zn (i + 1)) else f255_l27 (zn p) B (zn N) f y1 y2 (zn (i + 1))) := by
      rw [f255_l27, h52, if_pos lt, if_pos gt1, cnt_refI rfl hk hn hmo hi, Option.bind_some, gre_eq, Option.bind_some, mx_zn hN4 hci, zadd1, Option.bind_some]
    rw [eC, eR]
    have hnone := fN_none (w := B 149) (k := k) (p := p) (i := i)
    have ht : i = t → B 149 (90 + 6 * i) = zn p ∧ 0 < fN (fun r => fB (B 149) k p r && r.testBit i) (2 ^ k) ∧ fN (fun r => fB (B 149) k p r && r.testBit i) (2 ^ k) < N := fun h => by subst h; exact ⟨t2, t3, t4⟩
    generalize fN (fun r => fB (B 149) k p r && r.testBit i) (2 ^ k) = ci at *
    rcases had with ⟨q, v, hq, hv, h1, h2⟩ | ⟨hit, h1, z, hz1, hz2, h2, h3⟩
    · simp only [Prod.mk.injEq] at h1 h2
      obtain ⟨rfl, rfl⟩ := h1
      obtain ⟨rfl, rfl⟩ := h2
      by_cases ho : B 149 (90 + 6 * i) = zn p
      · rw [if_pos ho, if_neg (zn_ne_neg (by omega))]
        by_cases hlt : max ci (N - ci) < v
        · rw [if_pos ((zn_lt (by omega) (by omega)).mpr hlt), if_pos ((zn_lt (by omega) (by omega)).mpr hlt)]
          exact ⟨(_, _), (_, _), Or.inl ⟨i, max ci (N - ci), hi, by omega, rfl, rfl⟩, rfl, rfl⟩
        · rw [if_neg (by rw [zn_lt (by omega) (by omega)]; exact hlt), if_neg (by rw [zn_lt (by omega) (by omega)]; exact hlt)]
          exact ⟨(_, _), (_, _), Or.inl ⟨q, v, hq, hv, rfl, rfl⟩, rfl, rfl⟩
      · rw [if_neg ho, hnone ho, if_neg (by rw [zn_lt (by omega) (by omega)]; omega)]
        exact ⟨(_, _), (_, _), Or.inl ⟨q, v, hq, hv, rfl, rfl⟩, rfl, rfl⟩
    · subst h2
      by_cases ho : B 149 (90 + 6 * i) = zn p
      · by_cases hlt : max ci (N - ci) < N
        · rw [if_pos ho, if_pos ((zn_lt (by omega) (by omega)).mpr (show max ci (N - ci) < z by omega))]
          have e : ∀ X Y : Option Int32, (if x1 = (-1 : Int32) then X else (if zn (max ci (N - ci)) < x2 then X else Y)) = X := by
            intro X Y
            by_cases hx1 : x1 = -1
            · rw [if_pos hx1]
            · rw [if_neg hx1]
              rcases h1 with h1 | h1
              · exact absurd h1 hx1
              · rw [h1, if_pos ((zn_lt (by omega) (by omega)).mpr hlt)]
          rw [e]
          exact ⟨(_, _), (_, _), Or.inl ⟨i, max ci (N - ci), hi, hlt, rfl, rfl⟩, rfl, rfl⟩
        · have hmx : max ci (N - ci) = N := by omega
          have hne : i ≠ t := fun h => by
            obtain ⟨-, q1, q2⟩ := ht h
            omega
          rw [if_pos ho, hmx]
          have e : ∃ a1 a2, (a1 = -1 ∨ a2 = zn N) ∧ (if x1 = (-1 : Int32) then f114_l17 21 (zn p) M f (zn i) (zn N) (zn (i + 1)) else (if zn N < x2 then f114_l17 21 (zn p) M f (zn i) (zn N) (zn (i + 1)) else f114_l17 21 (zn p) M f x1 x2 (zn (i + 1)))) = f114_l17 21 (zn p) M f a1 a2 (zn (i + 1)) := by
            by_cases hx1 : x1 = -1
            · exact ⟨zn i, zn N, Or.inr rfl, by rw [if_pos hx1]⟩
            · rcases h1 with h1 | h1
              · exact absurd h1 hx1
              · exact ⟨x1, x2, Or.inr h1, by rw [if_neg hx1, h1, if_neg (by rw [zn_lt (by omega) (by omega)]; omega)]⟩
          obtain ⟨b1, b2, q1, q2⟩ := e
          rw [q2]
          by_cases hNz : N < z
          · rw [if_pos ((zn_lt (by omega) (by omega)).mpr hNz)]
            exact ⟨(b1, b2), (_, _), Or.inr ⟨by omega, q1, N, Nat.le_refl _, by omega, rfl, Or.inl rfl⟩, rfl, rfl⟩
          · rw [if_neg (by rw [zn_lt (by omega) (by omega)]; exact hNz)]
            exact ⟨(b1, b2), (_, _), Or.inr ⟨by omega, q1, z, hz1, hz2, rfl, h3⟩, rfl, rfl⟩
      · have hne : i ≠ t := fun h => ho (ht h).1
        have hmx : max 0 (N - 0) = N := by omega
        rw [if_neg ho, hnone ho, hmx]
        by_cases hNz : N < z
        · rw [if_pos ((zn_lt (by omega) (by omega)).mpr hNz)]
          exact ⟨(x1, x2), (_, _), Or.inr ⟨by omega, h1, N, Nat.le_refl _, by omega, rfl, Or.inl rfl⟩, rfl, rfl⟩
        · rw [if_neg (by rw [zn_lt (by omega) (by omega)]; exact hNz)]
          exact ⟨(x1, x2), (_, _), Or.inr ⟨by omega, h1, z, hz1, hz2, rfl, h3⟩, rfl, rfl⟩) (fun f a d had => by
    rcases had with ⟨q, v, hq, hv, rfl, rfl⟩ | ⟨hit, -⟩
    · have hng : ¬ zn k < zn k := by rw [zn_lt (by omega) (by omega)]; omega
      refine ⟨zn q, zn q, rfl, ?_, ?_⟩
      · (try dsimp only)
        rw [f114_l17, h6, if_neg hng]
      · (try dsimp only)
        rw [f255_l27, h52, if_neg hng]
    · omega) zfu 0 (-1, 0) (-1, 100000) (by omega) (by rw [zfu_eq]; omega) (Or.inr ⟨by omega, Or.inl rfl, 100000, by omega, by omega, rfl, Or.inr rfl⟩)
  have g1 : f114_l17 21 (zn p) M zfu (-1) 0 0 = some r := g1
  have g2 : f255_l27 (zn p) B (zn N) zfu (-1) 100000 0 = some r := g2
  refine ⟨r, M, B, ?_, ?_, fit_scr a2, scrB_refl B, hA, fun _ _ => rfl⟩
  · unfold f113_lookAt f114_mostTelling
    rw [e1, Option.bind_some, if_neg (by decide), a1, Option.bind_some, h8, if_neg ng, g1]
    rfl
  · (try dsimp only)
    unfold f255_lookAt
    rw [e2, Option.bind_some, if_neg (by decide), hc0, Option.bind_some, g2]
    rfl)
end
section
-- ===== turnsOf: soonest due first is best =====
def del (S : Nat → Bool) (p : Nat) : Nat → Bool := fun i => S i && decide (i ≠ p)
theorem del_comm (S : Nat → Bool) (p q : Nat) : del (del S p) q = del (del S q) p := by
  funext i
  unfold del
  cases S i <;> cases decide (i ≠ p) <;> cases decide (i ≠ q) <;> rfl
theorem del_no {S : Nat → Bool} {p : Nat} (h : S p = false) : del S p = S := by
  funext i
  unfold del
  by_cases hi : i = p
  · rw [hi, h]; rfl
  · simp [hi]
def tTry (S : Nat → Bool) (due : Nat → Nat) (Y : Nat) (g : (Nat → Bool) → Nat) (base : Nat) : Nat → Nat
  | 0 => base
  | i + 1 => if S i = true ∧ Y ≤ due i then max (tTry S due Y g base i) (1 + g (del S i)) else tTry S due Y g base i
def tT (n : Nat) (due : Nat → Nat) : Nat → Nat → (Nat → Bool) → Nat
  | 0, _, _ => 0
  | d + 1, Y, S => tTry S due Y (tT n due d (Y + 1)) (tT n due d (Y + 1) S) n
theorem tTry_base {S : Nat → Bool} {due : Nat → Nat} {Y : Nat} {g : (Nat → Bool) → Nat} {base : Nat} : ∀ n, base ≤ tTry S due Y g base n
  | 0 => Nat.le_refl _
  | n + 1 => by
    have := tTry_base (S := S) (due := due) (Y := Y) (g := g) (base := base) n
    unfold tTry
    split <;> omega
theorem tTry_one {S : Nat → Bool} {due : Nat → Nat} {Y : Nat} {g : (Nat → Bool) → Nat} {base : Nat} {i : Nat} (hS : S i = true) (hd : Y ≤ due i) : ∀ n, i < n → 1 + g (del S i) ≤ tTry S due Y g base n
  | 0, h => by omega
  | n + 1, h => by
    unfold tTry
    by_cases hin : i = n
    · subst hin
      rw [if_pos ⟨hS, hd⟩]
      omega
    · have := tTry_one (g := g) (base := base) hS hd n (by omega)
      split <;> omega
theorem tTry_le {S : Nat → Bool} {due : Nat → Nat} {Y X : Nat} {g : (Nat → Bool) → Nat} {base : Nat} (hb : base ≤ X) : ∀ n, (∀ i, i < n → S i = true → Y ≤ due i → 1 + g (del S i) ≤ X) → tTry S due Y g base n ≤ X
  | 0, _ => hb
  | n + 1, h => by
    have := tTry_le (S := S) (due := due) (Y := Y) (g := g) hb n (fun i hi => h i (by omega))
    unfold tTry
    split
    · next hc =>
      have := h n (by omega) hc.1 hc.2
      omega
    · exact this
theorem tT_skip {n : Nat} {due : Nat → Nat} {d Y : Nat} {S : Nat → Bool} : tT n due d (Y + 1) S ≤ tT n due (d + 1) Y S := tTry_base n
theorem tT_take {n : Nat} {due : Nat → Nat} {d Y i : Nat} {S : Nat → Bool} (hi : i < n) (hS : S i = true) (hd : Y ≤ due i) : 1 + tT n due d (Y + 1) (del S i) ≤ tT n due (d + 1) Y S := tTry_one hS hd n hi
theorem tT_le {n : Nat} {due : Nat → Nat} {d Y X : Nat} {S : Nat → Bool} (h1 : tT n due d (Y + 1) S ≤ X) (h2 : ∀ i, i < n → S i = true → Y ≤ due i → 1 + tT n due d (Y + 1) (del S i) ≤ X) : tT n due (d + 1) Y S ≤ X := tTry_le h1 n h2
theorem tT_del {n : Nat} {due : Nat → Nat} {p : Nat} : ∀ d Y S, tT n due d Y S ≤ 1 + tT n due d Y (del S p)
  | 0, _, _ => by unfold tT; omega
  | d + 1, Y, S => by
    refine tT_le ?_ fun i hi hS hd => ?_
    · have h1 := tT_del (n := n) (due := due) (p := p) d (Y + 1) S
      have h2 := tT_skip (n := n) (due := due) (d := d) (Y := Y) (S := del S p)
      omega
    · by_cases hip : i = p
      · subst hip
        have h2 := tT_skip (n := n) (due := due) (d := d) (Y := Y) (S := del S i)
        omega
      · have h1 := tT_del (n := n) (due := due) (p := p) d (Y + 1) (del S i)
        rw [del_comm] at h1
        have h2 := tT_take (n := n) (due := due) (d := d) (Y := Y) (i := i) (S := del S p) hi (by unfold del; simp [hS, hip]) hd
        omega
def adds (S : Nat → Bool) (p : Nat) : Nat → Bool := fun i => S i || decide (i = p)
theorem del_adds {S : Nat → Bool} {p : Nat} (h : S p = false) : del (adds S p) p = S := by
  funext i
  unfold del adds
  by_cases hi : i = p
  · rw [hi, h]; simp
  · simp [hi]
theorem del_adds_ne {S : Nat → Bool} {p r : Nat} (h : r ≠ p) : del (adds S p) r = adds (del S r) p := by
  funext i
  unfold del adds
  by_cases hi : i = p
  · subst hi
    have : ¬ i = r := fun hc => h hc.symm
    simp [this]
  · simp [hi]
theorem adds_del {S : Nat → Bool} {p : Nat} (h : S p = true) : adds (del S p) p = S := by
  funext i
  unfold del adds
  by_cases hi : i = p
  · rw [hi, h]; simp
  · simp [hi]
/-- one due later is worth no less than one due sooner -/
theorem tT_swap {n : Nat} {due : Nat → Nat} {p q : Nat} (hq : q < n) (hpq : due p ≤ due q) : ∀ d Y R, R p = false → R q = false → tT n due d Y (adds R p) ≤ tT n due d Y (adds R q)
  | 0, _, _, _, _ => by unfold tT; omega
  | d + 1, Y, R, h1, h2 => by
    refine tT_le ?_ fun i hi hS hd => ?_
    · exact Nat.le_trans (tT_swap hq hpq d (Y + 1) R h1 h2) tT_skip
    · by_cases hip : i = p
      · subst hip
        rw [del_adds h1]
        have h3 := tT_take (n := n) (due := due) (d := d) (Y := Y) (i := q) (S := adds R q) hq (by unfold adds; simp) (by omega)
        rw [del_adds h2] at h3
        exact h3
      · have hR : R i = true := by
          unfold adds at hS
          simpa [hip] using hS
        have hiq : i ≠ q := fun hc => by rw [hc, h2] at hR; exact absurd hR (by decide)
        rw [del_adds_ne hip]
        have h3 := tT_swap hq hpq d (Y + 1) (del R i) (by unfold del; rw [h1]; rfl) (by unfold del; rw [h2]; rfl)
        have h4 := tT_take (n := n) (due := due) (d := d) (Y := Y) (i := i) (S := adds R q) hi (by unfold adds; simp [hR]) hd
        rw [del_adds_ne hiq] at h4
        omega
theorem tT_none {n : Nat} {due : Nat → Nat} {d Y : Nat} {S : Nat → Bool} (h : ∀ i, i < n → S i = true → ¬ Y ≤ due i) : tT n due (d + 1) Y S = tT n due d (Y + 1) S :=
  Nat.le_antisymm (tT_le (Nat.le_refl _) (fun i hi hS hd => absurd hd (h i hi hS))) tT_skip
theorem tT_first {n : Nat} {due : Nat → Nat} {d Y p : Nat} {S : Nat → Bool} (hp : p < n) (hS : S p = true) (hd : Y ≤ due p) (hmin : ∀ i, i < n → S i = true → Y ≤ due i → due p ≤ due i) : tT n due (d + 1) Y S = 1 + tT n due d (Y + 1) (del S p) := by
  refine Nat.le_antisymm (tT_le (tT_del d (Y + 1) S) fun i hi hSi hdi => ?_) (tT_take hp hS hd)
  by_cases hip : i = p
  · rw [hip]; exact Nat.le_refl _
  · have e1 : del S i = adds (del (del S i) p) p := (adds_del (by unfold del; simp [hS]; exact fun h => hip h.symm)).symm
    have e2 : del S p = adds (del (del S i) p) i := by
      rw [del_comm]
      exact (adds_del (by unfold del; simp [hSi, hip])).symm
    have := tT_swap (n := n) (due := due) (p := p) (q := i) hi (hmin i hi hSi hdi) d (Y + 1) (del (del S i) p) (by unfold del; simp) (by unfold del; simp)
    rw [← e1, ← e2] at this
    omega
end
section
def setOf (n m : Nat) : Nat → Bool := fun i => decide (i < n) && !m.testBit i
def dueOf (w : Nat → Int32) (i : Nat) : Nat := zi (w (70 + i))
theorem pop_or {m p : Nat} (hm : m < 1024) (hp : p < 10) (hb : m.testBit p = false) : pop (m ||| 2 ^ p) = pop m + 1 := by
  have : ∀ p : Fin 10, ∀ s : Fin 1024, s.val.testBit p.val = false → pop (s.val ||| 2 ^ p.val) = pop s.val + 1 := by decide +kernel
  exact this ⟨p, hp⟩ ⟨m, hm⟩ hb
theorem set_or {n m p : Nat} : setOf n (m ||| 2 ^ p) = del (setOf n m) p := by
  funext i
  unfold setOf del
  rw [Nat.testBit_or, Nat.testBit_two_pow]
  by_cases hi : i = p
  · subst hi; simp
  · have : ¬ p = i := fun h => hi h.symm
    simp [hi, this]
theorem due_p {A B : ZI} {n k c b i : Nat} (h0 : Inv5 A B n k c b) (hi : i < n) : dueOf (B 149) i ≤ 999 ∧ A 38 i = zn (dueOf (B 149) i) ∧ B 149 (70 + i) = zn (dueOf (B 149) i) := by
  obtain ⟨-, ⟨q, hq, e⟩, -⟩ := h0.2.1.1.2.2.2.2.2.2.2 i hi
  have e2 : dueOf (B 149) i = q := by unfold dueOf; rw [e, zn_zi (by omega)]
  rw [e2]
  exact ⟨hq, (h0.1.1.2 i hi).2.1.trans e, e⟩
theorem first_cls {A B : ZI} {n k c b y0 m x : Nat} (h0 : Inv5 A B n k c b) (hy0 : y0 ≤ 999) (ey : A 2 5 = zn y0) (hm : m < 1024) (hx : x ≤ 11) : ∃ v, f106_l18 A (zn m) (zn x) zfu (-1) 0 = some v ∧ ((v = -1 ∧ ∀ i, i < n → setOf n m i = true → ¬ y0 + x ≤ dueOf (B 149) i) ∨ ∃ p, p < n ∧ v = zn p ∧ setOf n m p = true ∧ y0 + x ≤ dueOf (B 149) p ∧ ∀ i, i < n → setOf n m i = true → y0 + x ≤ dueOf (B 149) i → dueOf (B 149) p ≤ dueOf (B 149) i) := by
  have hn10 := h0.2.1.1.1
  have h48 := h0.2.1.1.2.1
  have h11 : A 1 11 = zn n := h0.1.1.1.1.trans h48
  have hst : ∀ i, i < n → (setOf n m i = true ↔ ¬ m.testBit i = true) := fun i hi => by
    unfold setOf
    simp [hi]
  obtain ⟨v, g1, g2⟩ := zloop (fun f (a : Int32) c => f106_l18 A (zn m) (zn x) f a c) n (fun j v => (v = -1 ∧ ∀ i, i < j → setOf n m i = true → ¬ y0 + x ≤ dueOf (B 149) i) ∨ ∃ p, p < n ∧ v = zn p ∧ setOf n m p = true ∧ y0 + x ≤ dueOf (B 149) p ∧ ∀ i, i < j → setOf n m i = true → y0 + x ≤ dueOf (B 149) i → dueOf (B 149) p ≤ dueOf (B 149) i) (fun v => (v = -1 ∧ ∀ i, i < n → setOf n m i = true → ¬ y0 + x ≤ dueOf (B 149) i) ∨ ∃ p, p < n ∧ v = zn p ∧ setOf n m p = true ∧ y0 + x ≤ dueOf (B 149) p ∧ ∀ i, i < n → setOf n m i = true → y0 + x ≤ dueOf (B 149) i → dueOf (B 149) p ≤ dueOf (B 149) i) (fun f j v hj hv => by
    left
    (try dsimp only)
    have hz : zin (zn j) 10 = true := (zn_zin (by omega)).mpr (by omega)
    have zz : zi (zn j) = j := zn_zi (by omega)
    obtain ⟨d1, d2, -⟩ := due_p h0 hj
    have hs := hst j hj
    rw [f106_l18, h11, if_pos ((zn_lt (by omega) (by omega)).mpr hj), isIn_zn (by omega) (by omega), Option.bind_some, zadd1, if_pos hz, zz, d2, ey, zn_add]
    by_cases hb : m.testBit j = true
    · rw [if_pos hb, if_neg (by decide)]
      refine ⟨v, ?_, rfl⟩
      have hno : setOf n m j = true → False := fun h => hs.mp h hb
      rcases hv with ⟨h1, h2⟩ | ⟨p, h1, h2, h3, h4, h5⟩
      · exact Or.inl ⟨h1, fun i hi hS => by
          by_cases hij : i = j
          · subst hij; exact absurd hS hno
          · exact h2 i (by omega) hS⟩
      · exact Or.inr ⟨p, h1, h2, h3, h4, fun i hi hS => by
          by_cases hij : i = j
          · subst hij; exact absurd hS hno
          · exact h5 i (by omega) hS⟩
    · rw [if_neg hb, if_pos rfl]
      have hS := hs.mpr hb
      by_cases hl : dueOf (B 149) j < y0 + x
      · rw [if_pos ((zn_lt (by omega) (by omega)).mpr hl)]
        refine ⟨v, ?_, rfl⟩
        rcases hv with ⟨h1, h2⟩ | ⟨p, h1, h2, h3, h4, h5⟩
        · exact Or.inl ⟨h1, fun i hi hS => by
            by_cases hij : i = j
            · subst hij; omega
            · exact h2 i (by omega) hS⟩
        · exact Or.inr ⟨p, h1, h2, h3, h4, fun i hi hS => by
            by_cases hij : i = j
            · subst hij; omega
            · exact h5 i (by omega) hS⟩
      · rw [if_neg (by rw [zn_lt (by omega) (by omega)]; exact hl)]
        rcases hv with ⟨rfl, h2⟩ | ⟨p, h1, rfl, h3, h4, h5⟩
        · rw [if_pos rfl]
          refine ⟨zn j, Or.inr ⟨j, hj, rfl, hS, by omega, fun i hi hS hd => ?_⟩, rfl⟩
          by_cases hij : i = j
          · rw [hij]; exact Nat.le_refl _
          · exact absurd hd (h2 i (by omega) hS)
        · have hzp : zin (zn p) 10 = true := (zn_zin (by omega)).mpr (by omega)
          obtain ⟨p1, p2, -⟩ := due_p h0 h1
          rw [if_neg (zn_ne_neg (by omega)), if_pos hz, if_pos hzp, zn_zi (show p < 2147483648 by omega), p2]
          by_cases hc : dueOf (B 149) j < dueOf (B 149) p
          · rw [if_pos ((zn_lt (by omega) (by omega)).mpr hc)]
            refine ⟨zn j, Or.inr ⟨j, hj, rfl, hS, by omega, fun i hi hS hd => ?_⟩, rfl⟩
            by_cases hij : i = j
            · rw [hij]; exact Nat.le_refl _
            · have := h5 i (by omega) hS hd
              omega
          · rw [if_neg (by rw [zn_lt (by omega) (by omega)]; exact hc)]
            refine ⟨zn p, Or.inr ⟨p, h1, rfl, h3, h4, fun i hi hS hd => ?_⟩, rfl⟩
            by_cases hij : i = j
            · subst hij; omega
            · exact h5 i (by omega) hS hd) (fun f v hv => by
    have hng : ¬ zn n < zn n := by rw [zn_lt (by omega) (by omega)]; omega
    refine ⟨v, hv, ?_⟩
    (try dsimp only)
    rw [f106_l18, h11, if_neg hng]) zfu 0 (-1) (by omega) (by rw [zfu_eq]; omega) (Or.inl ⟨rfl, fun i hi => by omega⟩)
  exact ⟨v, g1, g2⟩
theorem most_cls {A B : ZI} {n k c b y0 m y a : Nat} (h0 : Inv5 A B n k c b) (hy0 : y0 ≤ 999) (ey : A 2 5 = zn y0) (hm : m < 1024) (hya : y ≤ a) (ha : a ≤ 10) : f106_mostTurns (zn y) (zn a) (zn m) A = some (zn (tT n (dueOf (B 149)) (a - y) (y0 + y) (setOf n m))) := by
  have hn10 := h0.2.1.1.1
  obtain ⟨v, g1, m2, hm2, rfl, g2⟩ := zloop (fun f (a' : Int32) c => f106_l6 (zn a) A f a' c) a (fun i v => ∃ m', m' < 1024 ∧ v = zn m' ∧ pop m' + tT n (dueOf (B 149)) (a - i) (y0 + i) (setOf n m') = pop m + tT n (dueOf (B 149)) (a - y) (y0 + y) (setOf n m)) (fun v => ∃ m', m' < 1024 ∧ v = zn m' ∧ pop m' = pop m + tT n (dueOf (B 149)) (a - y) (y0 + y) (setOf n m)) (fun f i v hi hv => by
    obtain ⟨m', hm', rfl, hv⟩ := hv
    left
    (try dsimp only)
    obtain ⟨v, e1, e2⟩ := first_cls (x := i) h0 hy0 ey hm' (by omega)
    rw [f106_l6, if_pos ((zn_lt (by omega) (by omega)).mpr hi), e1, Option.bind_some, zadd1]
    rw [show a - i = (a - (i + 1)) + 1 by omega] at hv
    rcases e2 with ⟨rfl, e2⟩ | ⟨p, hp, rfl, q1, q2, q3⟩
    · rw [if_pos (by decide)]
      rw [tT_none e2] at hv
      exact ⟨zn m', ⟨m', hm', rfl, hv⟩, rfl⟩
    · have hpow : 2 ^ p < 1024 := Nat.lt_of_lt_of_le (Nat.pow_lt_pow_right (by decide) (show p < 10 by omega)) (Nat.le_refl _)
      have hb : m'.testBit p = false := by
        unfold setOf at q1
        simp at q1
        exact q1.2
      rw [if_neg (zn_nneg (by omega)), zlet_e, show zshl 1 (zn p) = zn (2 ^ p) by rw [zl1]; exact zn_shl (by omega), zn_or]
      rw [tT_first hp q1 q2 q3] at hv
      refine ⟨zn (m' ||| 2 ^ p), ⟨m' ||| 2 ^ p, Nat.or_lt_two_pow (n := 10) hm' hpow, rfl, ?_⟩, rfl⟩
      rw [pop_or hm' (by omega) hb, set_or]
      rw [show y0 + (i + 1) = y0 + i + 1 by omega]
      omega) (fun f v hv => by
    obtain ⟨m', hm', rfl, hv⟩ := hv
    rw [Nat.sub_self, show tT n (dueOf (B 149)) 0 (y0 + a) (setOf n m') = 0 from rfl] at hv
    refine ⟨zn m', ⟨m', hm', rfl, hv⟩, ?_⟩
    (try dsimp only)
    rw [f106_l6, if_neg (by rw [zn_lt (by omega) (by omega)]; omega)]) zfu y (zn m) hya (by rw [zfu_eq]; omega) ⟨m, hm, rfl, rfl⟩
  have g1 : f106_l6 (zn a) A zfu (zn m) (zn y) = some (zn m2) := g1
  have := pop_le m2
  unfold f106_mostTurns
  rw [g1, Option.bind_some, bitCount_zn hm2, Option.bind_some, bitCount_zn hm, Option.bind_some, zn_sub (by omega)]
  congr 2
  omega
end
section
def bitsOf (s : Nat) : Nat → Bool := fun i => s.testBit i
theorem bits_del {s p : Nat} (hs : s < 1024) : bitsOf (s &&& (2 ^ p ^^^ 4294967295)) = del (bitsOf s) p := by
  funext i
  unfold bitsOf del
  by_cases hi : i < 32
  · rw [tb_not hi, Nat.testBit_two_pow]
    by_cases hip : i = p
    · subst hip; simp
    · have : ¬ p = i := fun h => hip h.symm
      simp [hip, this]
  · have h1 : s.testBit i = false := Nat.testBit_lt_two_pow (Nat.lt_of_lt_of_le (show s < 2 ^ 32 by omega) (Nat.pow_le_pow_right (by decide) (by omega)))
    rw [Nat.testBit_and]
    simp [h1]
theorem inTime_ref {M : ZI} {w : Nat → Int32} {n y0 i x d : Nat} (hw : M 149 = w) (hn : n ≤ 10) (hi : i < n) (hy0 : y0 ≤ 999) (ey : w 0 = zn y0) (hx : x ≤ 10) (hd : d ≤ 999) (e : w (70 + i) = zn d) : f248_isInTime (zn i) (zn x) M = some (if y0 + x ≤ d then 1 else 0) := by
  unfold f248_isInTime
  rw [show zin (70 + zn i) 2064 = true from zx (d := 70) (by decide) (by omega), if_pos rfl, show zi (70 + zn i) = 70 + i from zy (d := 70) (by decide) (by omega), hw, e, ey, zn_add]
  by_cases h : y0 + x ≤ d
  · rw [if_neg (by rw [zn_lt (by omega) (by omega)]; omega), if_pos h]
  · rw [if_pos (by rw [zn_lt (by omega) (by omega)]; omega), if_neg h]
/-- one place of the table -/
theorem cell_ref {A B M : ZI} {n k c b y0 x a s t : Nat} (h0 : Inv5 A B n k c b) (hw : M 149 = B 149) (hy0 : y0 ≤ 999) (ey : B 149 0 = zn y0) (hs : s < 2 ^ n) (hx : x < a) (ha : a ≤ 10)
    (hT : ∀ s, s < 2 ^ n → M 161 (1024 * (x + 1) + s) = zn (tT n (dueOf (B 149)) t (y0 + (x + 1)) (bitsOf s))) (ht : t ≤ 10) (hTb : ∀ S, tT n (dueOf (B 149)) t (y0 + (x + 1)) S ≤ 10) :
    f247_l44 (zn a) (zn x) (zn s) M zfu (zn (tT n (dueOf (B 149)) t (y0 + (x + 1)) (bitsOf s))) 0 = some (zn (tT n (dueOf (B 149)) (t + 1) (y0 + x) (bitsOf s))) := by
  have hn10 := h0.2.1.1.1
  have h48 : M 149 48 = zn n := by rw [hw]; exact h0.2.1.1.2.1
  have hp := pow_1024 hn10
  have hbd : ∀ j, tTry (bitsOf s) (dueOf (B 149)) (y0 + x) (tT n (dueOf (B 149)) t (y0 + (x + 1))) (tT n (dueOf (B 149)) t (y0 + (x + 1)) (bitsOf s)) j ≤ 11 := fun j => tTry_le (by have := hTb (bitsOf s); omega) j (fun i _ _ _ => by have := hTb (del (bitsOf s) i); omega)
  obtain ⟨r, g1, rfl⟩ := zloop (fun f (v : Int32) c => f247_l44 (zn a) (zn x) (zn s) M f v c) n (fun j v => v = zn (tTry (bitsOf s) (dueOf (B 149)) (y0 + x) (tT n (dueOf (B 149)) t (y0 + (x + 1))) (tT n (dueOf (B 149)) t (y0 + (x + 1)) (bitsOf s)) j)) (fun v => v = zn (tT n (dueOf (B 149)) (t + 1) (y0 + x) (bitsOf s))) (fun f j v hj hv => by
    subst hv
    left
    (try dsimp only)
    obtain ⟨d1, -, d2⟩ := due_p h0 hj
    refine ⟨_, rfl, ?_⟩
    rw [f247_l44, h48, if_pos ((zn_lt (by omega) (by omega)).mpr hj), if_pos ((zn_lt (by omega) (by omega)).mpr hx), zbit (by omega) (by omega), zadd1, inTime_ref hw hn10 hj hy0 ey (by omega) d1 d2, tTry]
    have eb : bitsOf s j = s.testBit j := rfl
    by_cases hb : s.testBit j = true
    · rw [if_pos hb, if_pos rfl, Option.bind_some]
      by_cases hd : y0 + x ≤ dueOf (B 149) j
      · have l2 : s &&& (2 ^ j ^^^ 4294967295) < 2 ^ n := Nat.lt_of_le_of_lt Nat.and_le_left hs
        have ix : (1024 : Int32) * zn (x + 1) + (zn s &&& (zshl 1 (zn j) ^^^ -1)) = zn (1024 * (x + 1) + (s &&& (2 ^ j ^^^ 4294967295))) := by
          rw [show zshl 1 (zn j) = zn (2 ^ j) by rw [zl1]; exact zn_shl (by omega), not_zn, zl1024, zn_mul, zn_add]
        rw [if_pos hd, if_neg (by decide), zadd1, ix, if_pos ((zn_zin (by omega)).mpr (by omega)), zn_zi (by omega), hT _ l2, bits_del (by omega), gre_eq, Option.bind_some, if_pos ⟨hb, hd⟩, zl1, zn_add]
        have b1 := hbd j
        have b2 := hTb (del (bitsOf s) j)
        rw [zmax_zn (by omega) (by omega)]
      · rw [if_neg hd, if_pos rfl, if_neg (fun h => hd h.2)]
    · rw [if_neg hb, if_neg (by decide), if_neg (fun h => hb h.1)]) (fun f v hv => by
    have hng : ¬ zn n < zn n := by rw [zn_lt (by omega) (by omega)]; omega
    refine ⟨v, hv, ?_⟩
    (try dsimp only)
    rw [f247_l44, h48, if_neg hng]) zfu 0 _ (by omega) (by rw [zfu_eq]; omega) rfl
  exact g1
theorem tT_bd {n : Nat} {due : Nat → Nat} : ∀ d Y S, tT n due d Y S ≤ d
  | 0, _, _ => Nat.le_refl _
  | d + 1, Y, S => tT_le (by have := tT_bd (n := n) (due := due) d (Y + 1) S; omega) (fun i _ _ _ => by have := tT_bd (n := n) (due := due) d (Y + 1) (del S i); omega)
/-- one row of the table -/
theorem row_ref {A B M : ZI} {n k c b y0 x a : Nat} (h0 : Inv5 A B n k c b) (hw : M 149 = B 149) (hy0 : y0 ≤ 999) (ey : B 149 0 = zn y0) (hx : x ≤ a) (ha : a ≤ 10)
    (hT : x < a → ∀ s, s < 2 ^ n → M 161 (1024 * (x + 1) + s) = zn (tT n (dueOf (B 149)) (a - (x + 1)) (y0 + (x + 1)) (bitsOf s))) :
    ∃ M', f247_l8 (zn a) (zn x) zfu 0 M = some M' ∧ (∀ s, s < 2 ^ n → M' 161 (1024 * x + s) = zn (tT n (dueOf (B 149)) (a - x) (y0 + x) (bitsOf s))) ∧ (∀ o, o ≠ 161 → M' o = M o) ∧ ∀ j, 1024 * (x + 1) ≤ j → M' 161 j = M 161 j := by
  have hn10 := h0.2.1.1.1
  have hp := pow_1024 hn10
  obtain ⟨r, g1, g2, g3, g4⟩ := zloop (fun f (v : ZI) c => f247_l8 (zn a) (zn x) f c v) (2 ^ n) (fun j v => (∀ s, s < j → v 161 (1024 * x + s) = zn (tT n (dueOf (B 149)) (a - x) (y0 + x) (bitsOf s))) ∧ (∀ o, o ≠ 161 → v o = M o) ∧ ∀ j, 1024 * (x + 1) ≤ j → v 161 j = M 161 j) (fun v => (∀ s, s < 2 ^ n → v 161 (1024 * x + s) = zn (tT n (dueOf (B 149)) (a - x) (y0 + x) (bitsOf s))) ∧ (∀ o, o ≠ 161 → v o = M o) ∧ ∀ j, 1024 * (x + 1) ≤ j → v 161 j = M 161 j) (fun f j v hj hv => by
    obtain ⟨q1, q2, q3⟩ := hv
    left
    (try dsimp only)
    have hwv : v 149 = B 149 := (q2 149 (by decide)).trans hw
    have h48 : v 149 48 = zn n := by rw [hwv]; exact h0.2.1.1.2.1
    have val : ∃ v11, ((if zn x = zn a then some (0 : Int32) else if zin (((1024 : Int32) * (zn x + (1 : Int32))) + zn j) 11264 = true then some (v 161 (zi (((1024 : Int32) * (zn x + (1 : Int32))) + zn j))) else none) : Option (Int32)) = some v11 ∧ f247_l44 (zn a) (zn x) (zn j) v zfu v11 0 = some (zn (tT n (dueOf (B 149)) (a - x) (y0 + x) (bitsOf j))) := by
      by_cases hxa : x = a
      · subst hxa
        refine ⟨0, by rw [if_pos rfl], ?_⟩
        obtain ⟨mf, hmf⟩ : ∃ m, zfu = m + 1 := ⟨99999, rfl⟩
        have hng : ¬ zn x < zn x := by rw [zn_lt (by omega) (by omega)]; omega
        rw [hmf, f247_l44, Nat.sub_self, if_neg hng]
        by_cases hlt : (0 : Int32) < v 149 48
        · rw [if_pos hlt]; rfl
        · rw [if_neg hlt]; rfl
      · have hlt : x < a := by omega
        have hT' : ∀ s, s < 2 ^ n → v 161 (1024 * (x + 1) + s) = zn (tT n (dueOf (B 149)) (a - (x + 1)) (y0 + (x + 1)) (bitsOf s)) := fun s hs => by rw [q3 _ (by omega)]; exact hT hlt s hs
        refine ⟨zn (tT n (dueOf (B 149)) (a - (x + 1)) (y0 + (x + 1)) (bitsOf j)), ?_, ?_⟩
        · rw [if_neg (by rw [zn_eq (by omega) (by omega)]; exact hxa), zadd1, zl1024, zn_mul, zn_add, if_pos ((zn_zin (by omega)).mpr (by omega)), zn_zi (by omega), hT' j hj]
        · have := cell_ref (M := v) (t := a - (x + 1)) h0 hwv hy0 ey hj hlt ha hT' (by omega) (fun S => by have := tT_bd (n := n) (due := dueOf (B 149)) (a - (x + 1)) (y0 + (x + 1)) S; omega)
          rw [show a - (x + 1) + 1 = a - x by omega] at this
          exact this
    obtain ⟨v11, v1, v2⟩ := val
    have hng : ¬ zn (2 ^ n - 1) < zn j := by rw [zn_lt (by omega) (by omega)]; omega
    rw [f247_l8, all_ref hn10 h48, Option.bind_some, if_neg hng, v1, Option.bind_some, v2, Option.bind_some, zl1024, zn_mul, zn_add, if_pos ((zn_zin (by omega)).mpr (by omega)), zn_zi (by omega), zlet_e, zadd1]
    refine ⟨_, ⟨fun s hs => ?_, fun o ho => by rw [zs_df ho]; exact q2 o ho, fun i hi => ?_⟩, rfl⟩
    · rw [zs_sm]
      by_cases hsj : s = j
      · rw [hsj, if_pos rfl]
      · rw [if_neg (by omega)]; exact q1 s (by omega)
    · rw [zs_sm, if_neg (by omega)]; exact q3 i hi) (fun f v hv => by
    have h48 : v 149 48 = zn n := by rw [hv.2.1 149 (by decide), hw]; exact h0.2.1.1.2.1
    refine ⟨v, hv, ?_⟩
    (try dsimp only)
    rw [f247_l8, all_ref hn10 h48, Option.bind_some, if_pos (by rw [zn_lt (by omega) (by omega)]; omega)]) zfu 0 M (Nat.zero_le _) (by rw [zfu_eq]; omega) ⟨fun s hs => by omega, fun _ _ => rfl, fun _ _ => rfl⟩
  exact ⟨r, g1, g2, g3, g4⟩
end
section
theorem down_ref {A B : ZI} {n k c b y0 a : Nat} (h0 : Inv5 A B n k c b) (hy0 : y0 ≤ 999) (ey : B 149 0 = zn y0) (ha : a ≤ 10) : ∀ (x : Nat) (M : ZI) (f : Nat), x ≤ a → M 149 = B 149 →
    (∀ x', x < x' → x' ≤ a → ∀ s, s < 2 ^ n → M 161 (1024 * x' + s) = zn (tT n (dueOf (B 149)) (a - x') (y0 + x') (bitsOf s))) → ∃ M', f247_l2 (zn a) (f + x + 2) (zn x) M = some M' ∧ (∀ x', x' ≤ a → ∀ s, s < 2 ^ n → M' 161 (1024 * x' + s) = zn (tT n (dueOf (B 149)) (a - x') (y0 + x') (bitsOf s))) ∧ ∀ o, o ≠ 161 → M' o = M o
  | x, M, f, hx, hw, hT => by
    have hp := pow_1024 h0.2.1.1.1
    obtain ⟨M1, e1, e2, e3, e4⟩ := row_ref (M := M) h0 hw hy0 ey hx ha (fun hlt => hT (x + 1) (by omega) (by omega))
    have hrow : ∀ x', x ≤ x' → x' ≤ a → ∀ s, s < 2 ^ n → M1 161 (1024 * x' + s) = zn (tT n (dueOf (B 149)) (a - x') (y0 + x') (bitsOf s)) := by
      intro x' h1 h2 s hs
      by_cases hxx : x' = x
      · subst hxx; exact e2 s hs
      · rw [e4 _ (by omega)]; exact hT x' (by omega) h2 s hs
    have step : f247_l2 (zn a) (f + x + 2) (zn x) M = f247_l2 (zn a) (f + x + 1) (zn x + -1) M1 := by
      rw [f247_l2, if_neg (zn_nneg (by omega)), e1, Option.bind_some]
    cases x with
    | zero =>
      refine ⟨M1, ?_, fun x' h => hrow x' (Nat.zero_le _) h, e3⟩
      rw [step, f247_l2, if_pos (by decide)]
    | succ x =>
      obtain ⟨M2, g1, g2, g3⟩ := down_ref h0 hy0 ey ha x M1 f (by omega) ((e3 149 (by decide)).trans hw) (fun x' h1 h2 => hrow x' (by omega) h2)
      refine ⟨M2, ?_, g2, fun o ho => (g3 o ho).trans (e3 o ho)⟩
      have em : zn (x + 1) + -1 = zn x := by rw [← zadd1]; grind
      rw [step, em, show f + (x + 1) + 1 = f + x + 2 by omega]
      exact g1
theorem lays_ref {A B : ZI} {n k c b y0 a : Nat} (h0 : Inv5 A B n k c b) (hy0 : y0 ≤ 999) (ey : B 149 0 = zn y0) (ha : a ≤ 10) : ∃ M', f247_laysTurns (zn a) B = some M' ∧ (∀ x', x' ≤ a → ∀ s, s < 2 ^ n → M' 161 (1024 * x' + s) = zn (tT n (dueOf (B 149)) (a - x') (y0 + x') (bitsOf s))) ∧ ∀ o, o ≠ 161 → M' o = B o := by
  obtain ⟨mf, hmf⟩ : ∃ m, zfu = m + a + 2 := ⟨zfu - a - 2, by rw [zfu_eq]; omega⟩
  obtain ⟨M1, e1, e2, e3⟩ := down_ref h0 hy0 ey ha a B mf (Nat.le_refl _) rfl (fun x' h1 h2 => by omega)
  refine ⟨M1, ?_, e2, e3⟩
  unfold f247_laysTurns
  rw [hmf, e1]
  rfl
theorem taker_eq {A B M : ZI} {n k c b y0 a y m s : Nat} (h0 : Inv5 A B n k c b) (hy0 : y0 ≤ 999) (eyA : A 2 5 = zn y0) (ey : B 149 0 = zn y0) (ha : a ≤ 10) (hw : M 149 = B 149) (hT : ∀ x', x' ≤ a → ∀ s, s < 2 ^ n → M 161 (1024 * x' + s) = zn (tT n (dueOf (B 149)) (a - x') (y0 + x') (bitsOf s))) (hy : y < a) (hm : m < 1024) (hs : s < 2 ^ n) (hsm : bitsOf s = setOf n m) :
    ∃ v, f107_firstInTurn (zn y) (zn a) (zn m) A = some v ∧ f249_takerIn (zn y) (zn s) M = some v ∧ (v = -1 ∨ ∃ p, p < n ∧ v = zn p) := by
  have hn10 := h0.2.1.1.1
  have hp := pow_1024 hn10
  have h48 : M 149 48 = zn n := by rw [hw]; exact h0.2.1.1.2.1
  have h11 : A 1 11 = zn n := h0.1.1.1.1.trans h0.2.1.1.2.1
  have hv1 := most_cls (m := m) (y := y) h0 hy0 eyA hm (show y ≤ a by omega) ha
  obtain ⟨r, r', g1, g2, rfl, g4⟩ := zpair (fun f (_ : Unit) c => f107_l12 (zn y) (zn a) (zn m) A (zn (tT n (dueOf (B 149)) (a - y) (y0 + y) (setOf n m))) f c) (fun f (_ : Unit) c => f249_l2 (zn y) (zn s) M f c) n (fun _ _ _ => True) (fun (a d : Int32) => a = d ∧ (a = -1 ∨ ∃ p, p < n ∧ a = zn p)) (fun f i x z hi _ => by
    (try dsimp only)
    have hz : zin (zn i) 10 = true := (zn_zin (by omega)).mpr (by omega)
    have zz : zi (zn i) = i := zn_zi (by omega)
    have lt : zn i < zn n := (zn_lt (by omega) (by omega)).mpr hi
    obtain ⟨d1, d2, d3⟩ := due_p h0 hi
    have hbit : s.testBit i = !m.testBit i := by
      have := congrFun hsm i
      unfold bitsOf setOf at this
      rw [this]
      simp [hi]
    rw [f107_l12, f249_l2, h11, h48, if_pos lt, if_pos lt, isIn_zn (by omega) (by omega), zbit (by omega) (by omega), Option.bind_some, zadd1, inTime_ref hw hn10 hi hy0 ey (by omega) d1 d3, if_pos hz, zz, d2, eyA, zn_add, hbit]
    cases hb : m.testBit i with
    | true =>
      left
      exact ⟨(), (), trivial, rfl, rfl⟩
    | false =>
      simp only [Bool.not_false, ↓reduceIte, Option.bind_some]
      rw [if_neg (show ¬ false = true by decide), if_pos rfl]
      by_cases hd : y0 + y ≤ dueOf (B 149) i
      · have hpow : 2 ^ i < 1024 := Nat.lt_of_lt_of_le (Nat.pow_lt_pow_right (by decide) (show i < 10 by omega)) (Nat.le_refl _)
        have l2 : s &&& (2 ^ i ^^^ 4294967295) < 2 ^ n := Nat.lt_of_le_of_lt Nat.and_le_left hs
        have sh : zshl 1 (zn i) = zn (2 ^ i) := by rw [zl1]; exact zn_shl (by omega)
        have ix : (1024 : Int32) * zn (y + 1) + (zn s &&& (zn (2 ^ i) ^^^ -1)) = zn (1024 * (y + 1) + (s &&& (2 ^ i ^^^ 4294967295))) := by
          rw [not_zn, zl1024, zn_mul, zn_add]
        have ix2 : (1024 : Int32) * zn y + zn s = zn (1024 * y + s) := by rw [zl1024, zn_mul, zn_add]
        rw [if_neg (by rw [zn_lt (by omega) (by omega)]; omega), if_pos hd, if_neg (by decide), sh, zn_or, zadd1, most_cls h0 hy0 eyA (Nat.or_lt_two_pow (n := 10) hm hpow) (show y + 1 ≤ a by omega) ha, Option.bind_some, ix, ix2, if_pos ((zn_zin (by omega)).mpr (by omega)), if_pos ((zn_zin (by omega)).mpr (by omega)), zn_zi (by omega), zn_zi (by omega), hT (y + 1) (by omega) _ l2, hT y (by omega) s hs, bits_del (by omega), hsm, set_or]
        by_cases hc : (1 : Int32) + zn (tT n (dueOf (B 149)) (a - (y + 1)) (y0 + (y + 1)) (del (setOf n m) i)) = zn (tT n (dueOf (B 149)) (a - y) (y0 + y) (setOf n m))
        · rw [if_pos hc, if_pos hc]
          exact Or.inr ⟨zn i, zn i, ⟨rfl, Or.inr ⟨i, hi, rfl⟩⟩, rfl, rfl⟩
        · rw [if_neg hc, if_neg hc]
          exact Or.inl ⟨(), (), trivial, rfl, rfl⟩
      · rw [if_pos ((zn_lt (by omega) (by omega)).mpr (by omega)), if_neg hd, if_pos rfl]
        exact Or.inl ⟨(), (), trivial, rfl, rfl⟩) (fun f x z _ => by
    have hng : ¬ zn n < zn n := by rw [zn_lt (by omega) (by omega)]; omega
    refine ⟨-1, -1, ⟨rfl, Or.inl rfl⟩, ?_, ?_⟩
    · (try dsimp only)
      rw [f107_l12, h11, if_neg hng]
    · (try dsimp only)
      rw [f249_l2, h48, if_neg hng]) zfu 0 () () (by omega) (by rw [zfu_eq]; omega) trivial
  have g1 : f107_l12 (zn y) (zn a) (zn m) A (zn (tT n (dueOf (B 149)) (a - y) (y0 + y) (setOf n m))) zfu 0 = some r := g1
  have g2 : f249_l2 (zn y) (zn s) M zfu 0 = some r := g2
  refine ⟨r, ?_, ?_, g4⟩
  · unfold f107_firstInTurn
    rw [hv1, Option.bind_some]
    exact g1
  · unfold f249_takerIn
    exact g2
theorem sync_turnsOf (x z : Int32) : sync (fun M => (f105_turnsOf x z M).bind fun v => some (v, M)) (f246_turnsOf x z) := sync_q (by
  intro A B n k c b h0
  have hn10 := h0.2.1.1.1
  have h48 := h0.2.1.1.2.1
  have hp := pow_1024 hn10
  obtain ⟨y0, hy0, ey, -⟩ := h0.2.2.2.1.2.1
  have eyA : A 2 5 = zn y0 := h0.2.2.1.1.2.1.trans ey
  rcases within_ex (x := x) (lo := 1) (hi := 10) (by decide) (by decide) with ⟨a, ha1, ha, rfl, e1, e2⟩ | ⟨e1, e2⟩
  case inr => exact ⟨-2, A, B, by (try dsimp only); unfold f105_turnsOf; rw [show f13_within x 1 10 = some 0 from e1]; rfl, by unfold f246_turnsOf; rw [show f149_isIn x 1 10 = some 0 from e2]; rfl, scrA_refl A, scrB_refl B, fun _ _ => rfl, fun _ _ => rfl⟩
  obtain ⟨M, l1, l2, l3⟩ := lays_ref h0 hy0 ey ha
  have hw : M 149 = B 149 := l3 149 (by decide)
  have h48M : M 149 48 = zn n := by rw [hw]; exact h48
  have sM : scrB B M := scrB_of (fun o _ _ _ q4 => l3 o q4)
  have oM : ∀ o, o < 148 → M o = B o := fun o ho => l3 o (by omega)
  have hall : bitsOf (2 ^ n - 1) = setOf n 0 := by
    funext i
    unfold bitsOf setOf
    rw [Nat.testBit_two_pow_sub_one]
    simp
  by_cases hz : z = 0
  · subst hz
    have hm := most_cls (m := 0) (y := 0) h0 hy0 eyA (by decide) (Nat.zero_le a) ha
    have ht := l2 0 (Nat.zero_le _) (2 ^ n - 1) (by omega)
    rw [hall] at ht
    refine ⟨zn (tT n (dueOf (B 149)) (a - 0) (y0 + 0) (setOf n 0)), A, M, ?_, ?_, scrA_refl A, sM, fun _ _ => rfl, oM⟩
    · (try dsimp only)
      unfold f105_turnsOf
      rw [show f13_within (zn a) 1 10 = some 1 from e1, Option.bind_some, if_neg (by decide), if_pos rfl, show f106_mostTurns 0 (zn a) 0 A = _ from hm]
      rfl
    · unfold f246_turnsOf
      rw [show f149_isIn (zn a) 1 10 = some 1 from e2, Option.bind_some, if_neg (by decide), zlet_e, if_pos rfl, l1, Option.bind_some, if_pos rfl, all_ref hn10 h48M, Option.bind_some, if_pos ((zn_zin (by omega)).mpr (by omega)), zn_zi (by omega)]
      rw [show 1024 * 0 + (2 ^ n - 1) = 2 ^ n - 1 by omega] at ht
      rw [ht]
  have hi1 : (10 : Int32) + zn a - 1 = zn (9 + a) := by rw [zl10, zn_add, zl1, zn_sub (by omega)]; congr 1; omega
  have hi2 : (9 : Int32) + zn a = zn (9 + a) := by rw [zl9, zn_add]
  rcases within_ex (x := z) (lo := 10) (hi := 9 + a) (by decide) (by omega) with ⟨u, hu1, hu, rfl, e3, e4⟩ | ⟨e3, e4⟩
  case inr => exact ⟨-2, A, B, by (try dsimp only); unfold f105_turnsOf; rw [show f13_within (zn a) 1 10 = some 1 from e1, Option.bind_some, if_neg (by decide), if_neg hz, hi1, show f13_within z 10 (zn (9 + a)) = some 0 from e3]; rfl, by unfold f246_turnsOf; rw [show f149_isIn (zn a) 1 10 = some 1 from e2, Option.bind_some, if_neg (by decide), zlet_e, if_neg hz, hi2, show f149_isIn z 10 (zn (9 + a)) = some 0 from e4]; rfl, scrA_refl A, scrB_refl B, fun _ _ => rfl, fun _ _ => rfl⟩
  obtain ⟨e, rfl⟩ : ∃ e, u = e + 10 := ⟨u - 10, by omega⟩
  have su : zn (e + 10) - 10 = zn e := by rw [zl10, zn_sub (by omega)]; congr 1
  obtain ⟨r, r', g1, g2, rfl⟩ := zpair (fun f (q : Int32 × Int32) c => f105_l51 (zn a) (zn (e + 10)) A f q.1 q.2 c) (fun f (q : Int32 × Int32) c => f246_l60 (zn (e + 10)) M f q.1 q.2 c) (e + 1) (fun _ q q' => q.1 = q'.2 ∧ ∃ m s, q.2 = zn m ∧ q'.1 = zn s ∧ m < 1024 ∧ s < 2 ^ n ∧ bitsOf s = setOf n m) (fun q q' => q = q') (fun f i q q' hi hq => by
    obtain ⟨x3, x4⟩ := q
    obtain ⟨x5, x6⟩ := q'
    obtain ⟨rfl, m, s, rfl, rfl, hm, hs, hsm⟩ := hq
    left
    (try dsimp only)
    have hng : ¬ zn e < zn i := by rw [zn_lt (by omega) (by omega)]; omega
    obtain ⟨v, v1, v2, v3⟩ := taker_eq h0 hy0 eyA ey ha hw l2 (show i < a by omega) hm hs hsm
    rw [f105_l51, f246_l60, su, if_neg hng, if_neg hng, v1, v2, Option.bind_some, Option.bind_some, zadd1]
    simp only [zlet_e]
    rcases v3 with rfl | ⟨p, hp, rfl⟩
    · rw [if_pos (show (-1 : Int32) < 0 by decide), if_pos rfl, zn_and, Nat.and_self]
      exact ⟨(-1, zn m), (zn s, -1), ⟨rfl, m, s, rfl, rfl, hm, hs, hsm⟩, rfl, rfl⟩
    · have hpow : 2 ^ p < 1024 := Nat.lt_of_lt_of_le (Nat.pow_lt_pow_right (by decide) (show p < 10 by omega)) (Nat.le_refl _)
      rw [if_neg (zn_nneg (by omega)), if_neg (zn_ne_neg (by omega)), show zshl 1 (zn p) = zn (2 ^ p) by rw [zl1]; exact zn_shl (by omega), zn_or, not_zn]
      refine ⟨(zn p, zn (m ||| 2 ^ p)), (zn (s &&& (2 ^ p ^^^ 4294967295)), zn p), ⟨rfl, _, _, rfl, rfl, Nat.or_lt_two_pow (n := 10) hm hpow, Nat.lt_of_le_of_lt Nat.and_le_left hs, ?_⟩, rfl, rfl⟩
      rw [bits_del (by omega), hsm, set_or]) (fun f q q' hq => by
    have hlt : zn e < zn (e + 1) := by rw [zn_lt (by omega) (by omega)]; omega
    refine ⟨q.1, q'.2, hq.1, ?_, ?_⟩
    · (try dsimp only)
      rw [f105_l51, su, if_pos hlt]
    · (try dsimp only)
      rw [f246_l60, su, if_pos hlt]) zfu 0 (-1, 0) (zn (2 ^ n - 1), -1) (by omega) (by rw [zfu_eq]; omega) ⟨rfl, 0, 2 ^ n - 1, rfl, rfl, by decide, by omega, hall⟩
  have g1 : f105_l51 (zn a) (zn (e + 10)) A zfu (-1) 0 0 = some r := g1
  have g2 : f246_l60 (zn (e + 10)) M zfu (zn (2 ^ n - 1)) (-1) 0 = some r := g2
  refine ⟨r, A, M, ?_, ?_, scrA_refl A, sM, fun _ _ => rfl, oM⟩
  · (try dsimp only)
    unfold f105_turnsOf
    rw [show f13_within (zn a) 1 10 = some 1 from e1, Option.bind_some, if_neg (by decide), if_neg hz, hi1, show f13_within (zn (e + 10)) 10 (zn (9 + a)) = some 1 from e3, Option.bind_some, if_neg (by decide), g1]
    rfl
  · unfold f246_turnsOf
    rw [show f149_isIn (zn a) 1 10 = some 1 from e2, Option.bind_some, if_neg (by decide), zlet_e, if_neg hz, hi2, show f149_isIn (zn (e + 10)) 10 (zn (9 + a)) = some 1 from e4, Option.bind_some, if_neg (by decide), l1, Option.bind_some, if_neg hz, all_ref hn10 h48M, Option.bind_some, g2]
    rfl)
end
section
-- ===== text: letters and digits, on both sides =====
def isLet (x : Nat) : Bool := (decide (97 ≤ x) && decide (x ≤ 122)) || (decide (65 ≤ x) && decide (x ≤ 90))
def isDig (x : Nat) : Bool := decide (48 ≤ x) && decide (x ≤ 57)
theorem letter_eq {x : Nat} (h : x < 256) : f55_isLetter (zn x) = some (if isLet x = true then 1 else 0) ∧ f159_isLetter (zn x) = some (if isLet x = true then 1 else 0) := by
  have : ∀ x : Fin 256, f55_isLetter (zn x.val) = some (if isLet x.val = true then 1 else 0) ∧ f159_isLetter (zn x.val) = some (if isLet x.val = true then 1 else 0) := by decide +kernel
  exact this ⟨x, h⟩
theorem digit_eq {x : Nat} (h : x < 256) : f65_isDigit (zn x) = some (if isDig x = true then 1 else 0) ∧ f166_isDigit (zn x) = some (if isDig x = true then 1 else 0) := by
  have : ∀ x : Fin 256, f65_isDigit (zn x.val) = some (if isDig x.val = true then 1 else 0) ∧ f166_isDigit (zn x.val) = some (if isDig x.val = true then 1 else 0) := by decide +kernel
  exact this ⟨x, h⟩
theorem end_eq : f159_isLetter (-1) = some 0 ∧ f166_isDigit (-1) = some 0 := by decide +kernel
/-- the t bytes of the tape, in both memories -/
def tapB (b : Nat → Nat) (t : Nat) : Prop := t ≤ 400 ∧ ∀ i, i < t → b i < 256
def onA (A : ZI) (b : Nat → Nat) (t : Nat) : Prop := A 119 1 = zn t ∧ ∀ i, i < t → A 120 i = zn (b i)
def onB (B : ZI) (b : Nat → Nat) (t : Nat) : Prop := B 148 19 = zn t ∧ ∀ i, i < t → B 158 i = zn (b i)
theorem tape_b {A B : ZI} (h : tapeIs A B) : ∃ b t, tapB b t ∧ onA A b t ∧ onB B b t := by
  obtain ⟨t, h1, h2, h3, h4, -⟩ := h
  refine ⟨fun i => zi (A 120 i), t, ⟨h1, fun i hi => ?_⟩, ⟨h2, fun i hi => ?_⟩, ⟨h3, fun i hi => ?_⟩⟩
  · obtain ⟨-, x, hx, e⟩ := h4 i hi
    show zi (A 120 i) < 256
    rw [e, zn_zi (by omega)]
    exact hx
  · obtain ⟨-, x, hx, e⟩ := h4 i hi
    show A 120 i = zn (zi (A 120 i))
    rw [e, zn_zi (by omega)]
  · obtain ⟨e0, x, hx, e⟩ := h4 i hi
    show B 158 i = zn (zi (A 120 i))
    rw [← e0, e, zn_zi (by omega)]
theorem see_in {B : ZI} {b : Nat → Nat} {t i : Nat} (hb : tapB b t) (h : onB B b t) (hi : i < t) : f158_see (zn i) B = some (zn (b i)) := by
  have := hb.1
  unfold f158_see
  rw [h.1, if_pos ((zn_lt (by omega) (by omega)).mpr hi), if_pos ((zn_zin (by omega)).mpr (by omega)), zn_zi (by omega), h.2 i hi]
theorem see_out {B : ZI} {b : Nat → Nat} {t i : Nat} (hb : tapB b t) (h : onB B b t) (hi : t ≤ i) (hi2 : i < 100000) : f158_see (zn i) B = some (-1) := by
  have := hb.1
  unfold f158_see
  rw [h.1, if_neg (by rw [zn_lt (by omega) (by omega)]; omega)]
/-- where the run of letters (digits) from i on ends -/
def runEnd (P : Nat → Bool) (b : Nat → Nat) (t : Nat) : Nat → Nat → Nat
  | 0, i => i
  | d + 1, i => if i < t ∧ P (b i) = true then runEnd P b t d (i + 1) else i
theorem runEnd_bd {P : Nat → Bool} {b : Nat → Nat} {t : Nat} : ∀ d i, i ≤ t → i ≤ runEnd P b t d i ∧ runEnd P b t d i ≤ t
  | 0, i, h => ⟨Nat.le_refl _, h⟩
  | d + 1, i, h => by
    unfold runEnd
    by_cases hc : i < t ∧ P (b i) = true
    · rw [if_pos hc]
      have := runEnd_bd (P := P) (b := b) (t := t) d (i + 1) (by omega)
      omega
    · rw [if_neg hc]
      exact ⟨Nat.le_refl _, h⟩
theorem letters_cls {M : ZI} {b : Nat → Nat} {t : Nat} (hb : tapB b t) (h : onA M b t) : ∀ d i f, i + d = t → d < f → f54_l33 119 M f (zn i) = some (zn (runEnd isLet b t d i))
  | 0, i, f, h1, h2 => by
    obtain ⟨f, rfl⟩ : ∃ g, f = g + 1 := ⟨f - 1, by omega⟩
    have := hb.1
    rw [f54_l33, h.1, if_neg (by rw [zn_lt (by omega) (by omega)]; omega)]
    rfl
  | d + 1, i, f, h1, h2 => by
    obtain ⟨f, rfl⟩ : ∃ g, f = g + 1 := ⟨f - 1, by omega⟩
    have := hb.1
    have hi : i < t := by omega
    rw [f54_l33, h.1, if_pos ((zn_lt (by omega) (by omega)).mpr hi), if_pos ((zn_zin (by omega)).mpr (by omega)), zn_zi (by omega), show M (119 + 1) i = zn (b i) from h.2 i hi, (letter_eq (hb.2 i hi)).1, Option.bind_some, zadd1, runEnd]
    by_cases hl : isLet (b i) = true
    · rw [if_pos hl, if_neg (by decide), if_pos ⟨hi, hl⟩]
      exact letters_cls hb h d (i + 1) f (by omega) (by omega)
    · rw [if_neg hl, if_pos rfl, if_neg (fun hc => hl hc.2)]
theorem digits_cls {M : ZI} {b : Nat → Nat} {t : Nat} (hb : tapB b t) (h : onA M b t) : ∀ d i f, i + d = t → d < f → f54_l81 119 M f (zn i) = some (zn (runEnd isDig b t d i))
  | 0, i, f, h1, h2 => by
    obtain ⟨f, rfl⟩ : ∃ g, f = g + 1 := ⟨f - 1, by omega⟩
    have := hb.1
    rw [f54_l81, h.1, if_neg (by rw [zn_lt (by omega) (by omega)]; omega)]
    rfl
  | d + 1, i, f, h1, h2 => by
    obtain ⟨f, rfl⟩ : ∃ g, f = g + 1 := ⟨f - 1, by omega⟩
    have := hb.1
    have hi : i < t := by omega
    rw [f54_l81, h.1, if_pos ((zn_lt (by omega) (by omega)).mpr hi), if_pos ((zn_zin (by omega)).mpr (by omega)), zn_zi (by omega), show M (119 + 1) i = zn (b i) from h.2 i hi, (digit_eq (hb.2 i hi)).1, Option.bind_some, zadd1, runEnd]
    by_cases hl : isDig (b i) = true
    · rw [if_pos hl, if_neg (by decide), if_pos ⟨hi, hl⟩]
      exact digits_cls hb h d (i + 1) f (by omega) (by omega)
    · rw [if_neg hl, if_pos rfl, if_neg (fun hc => hl hc.2)]
end
section
def isBlk (x : Nat) : Bool := decide (x = 32) || decide (x = 10)
/-- a memory of the reference that stands at place i -/
def atB (B B' : ZI) (i : Nat) : Prop := B' 148 20 = zn i ∧ (∀ o, o ≠ 148 → B' o = B o) ∧ ∀ j, j ≠ 20 → B' 148 j = B 148 j
theorem onB_at {B B' : ZI} {b : Nat → Nat} {t i : Nat} (h : onB B b t) (g : atB B B' i) : onB B' b t := ⟨by rw [g.2.2 19 (by decide)]; exact h.1, fun j hj => by rw [g.2.1 158 (by decide)]; exact h.2 j hj⟩
theorem at_step {B B' : ZI} {i : Nat} (g : atB B B' i) : atB B (zs B' 148 20 (zn (i + 1))) (i + 1) := ⟨by rw [zs_sm, if_pos rfl], fun o ho => by rw [zs_df ho]; exact g.2.1 o ho, fun j hj => by rw [zs_sm, if_neg hj]; exact g.2.2 j hj⟩
theorem letters_ref {B : ZI} {b : Nat → Nat} {t : Nat} (hb : tapB b t) (h : onB B b t) : ∀ d i f B', i + d = t → d < f → atB B B' i → ∃ B2, f157_l76 f B' = some B2 ∧ atB B B2 (runEnd isLet b t d i)
  | 0, i, f, B', h1, h2, g => by
    obtain ⟨f, rfl⟩ : ∃ g, f = g + 1 := ⟨f - 1, by omega⟩
    have := hb.1
    refine ⟨B', ?_, g⟩
    rw [f157_l76, g.1, see_out hb (onB_at h g) (by omega) (by omega), Option.bind_some, end_eq.1, Option.bind_some, if_pos rfl]
  | d + 1, i, f, B', h1, h2, g => by
    obtain ⟨f, rfl⟩ : ∃ g, f = g + 1 := ⟨f - 1, by omega⟩
    have hi : i < t := by omega
    rw [f157_l76, g.1, see_in hb (onB_at h g) hi, Option.bind_some, (letter_eq (hb.2 i hi)).2, Option.bind_some, runEnd]
    by_cases hl : isLet (b i) = true
    · rw [if_pos hl, if_neg (by decide), zlet_e, zadd1, if_pos ⟨hi, hl⟩]
      exact letters_ref hb h d (i + 1) f _ (by omega) (by omega) (at_step g)
    · rw [if_neg hl, if_pos rfl, if_neg (fun hc => hl hc.2)]
      exact ⟨B', rfl, g⟩
theorem blanks_ref {B : ZI} {b : Nat → Nat} {t : Nat} (hb : tapB b t) (h : onB B b t) : ∀ d i f B', i + d = t → d < f → atB B B' i → ∃ B2, f157_l0 f B' = some B2 ∧ atB B B2 (runEnd isBlk b t d i)
  | 0, i, f, B', h1, h2, g => by
    obtain ⟨f, rfl⟩ : ∃ g, f = g + 1 := ⟨f - 1, by omega⟩
    have := hb.1
    refine ⟨B', ?_, g⟩
    rw [f157_l0, g.1, see_out hb (onB_at h g) (by omega) (by omega), Option.bind_some, zlet_e, if_neg (by decide), Option.bind_some, if_neg (by decide)]
  | d + 1, i, f, B', h1, h2, g => by
    obtain ⟨f, rfl⟩ : ∃ g, f = g + 1 := ⟨f - 1, by omega⟩
    have hi : i < t := by omega
    have hx := hb.2 i hi
    rw [f157_l0, g.1, see_in hb (onB_at h g) hi, Option.bind_some, zlet_e, Option.bind_some, runEnd, zadd1, zlet_e]
    have ih := blanks_ref hb h d (i + 1) f _ (by omega) (by omega) (at_step g)
    by_cases h32 : b i = 32
    · rw [if_pos (show zn (b i) = 32 by rw [h32]; rfl), if_pos ⟨hi, by rw [h32]; rfl⟩]
      exact ih
    · rw [if_neg (show ¬ zn (b i) = 32 by rw [zl32, zn_eq (by omega) (by decide)]; exact h32)]
      by_cases h10 : b i = 10
      · rw [if_pos (show zn (b i) = 10 by rw [h10]; rfl), if_pos ⟨hi, by rw [h10]; rfl⟩]
        exact ih
      · rw [if_neg (show ¬ zn (b i) = 10 by rw [zl10, zn_eq (by omega) (by decide)]; exact h10), if_neg (fun hc => by
          have := hc.2
          unfold isBlk at this
          simp [h32, h10] at this)]
        exact ⟨B', rfl, g⟩
end
section
def valN (b : Nat → Nat) (s : Nat) : Nat → Nat
  | 0 => 0
  | k + 1 => 10 * valN b s k + (b (s + k) - 48)
theorem valN_le {b : Nat → Nat} {s : Nat} : ∀ k, (∀ j, j < k → isDig (b (s + j)) = true) → valN b s k < 10 ^ k
  | 0, _ => by unfold valN; decide
  | k + 1, h => by
    have h1 := valN_le (b := b) (s := s) k (fun j hj => h j (by omega))
    have h2 := h k (by omega)
    unfold isDig at h2
    simp only [Bool.and_eq_true, decide_eq_true_eq] at h2
    unfold valN
    rw [Nat.pow_succ]
    omega
def atV (B B' : ZI) (i v : Nat) : Prop := B' 148 20 = zn i ∧ B' 148 23 = zn v ∧ (∀ o, o ≠ 148 → B' o = B o) ∧ ∀ j, j ≠ 20 → j ≠ 23 → B' 148 j = B 148 j
theorem onB_atV {B B' : ZI} {b : Nat → Nat} {t i v : Nat} (h : onB B b t) (g : atV B B' i v) : onB B' b t := ⟨by rw [g.2.2.2 19 (by decide) (by decide)]; exact h.1, fun j hj => by rw [g.2.2.1 158 (by decide)]; exact h.2 j hj⟩
theorem pow4 {k : Nat} (h : k ≤ 4) : 10 ^ k ≤ 10000 := by
  have hk : k = 0 ∨ k = 1 ∨ k = 2 ∨ k = 3 ∨ k = 4 := by omega
  rcases hk with rfl | rfl | rfl | rfl | rfl <;> decide
theorem digits_ref {B : ZI} {b : Nat → Nat} {t s : Nat} (hb : tapB b t) (h : onB B b t) (h22 : B 148 22 = zn s) : ∀ d i f B', i + d = t → d < f → s ≤ i → (∀ j, s ≤ j → j < i → isDig (b j) = true) → atV B B' i (valN b s (min (i - s) 4)) → ∃ B2, f157_l126 f B' = some B2 ∧ atV B B2 (runEnd isDig b t d i) (valN b s (min (runEnd isDig b t d i - s) 4))
  | 0, i, f, B', h1, h2, h3, h4, g => by
    obtain ⟨f, rfl⟩ : ∃ g, f = g + 1 := ⟨f - 1, by omega⟩
    have := hb.1
    refine ⟨B', ?_, g⟩
    rw [f157_l126, g.1, see_out hb (onB_atV h g) (by omega) (by omega), Option.bind_some, end_eq.2, Option.bind_some, if_pos rfl]
  | d + 1, i, f, B', h1, h2, h3, h4, g => by
    obtain ⟨f, rfl⟩ : ∃ g, f = g + 1 := ⟨f - 1, by omega⟩
    have hi : i < t := by omega
    have ht := hb.1
    have hx := hb.2 i hi
    have g22 : B' 148 22 = zn s := by rw [g.2.2.2 22 (by decide) (by decide)]; exact h22
    rw [f157_l126, g.1, see_in hb (onB_atV h g) hi, Option.bind_some, (digit_eq hx).2, Option.bind_some, runEnd]
    by_cases hl : isDig (b i) = true
    · rw [if_pos hl, if_neg (show ¬ (1 : Int32) = 0 by decide), if_pos (show i < t ∧ isDig (b i) = true from ⟨hi, hl⟩)]
      have hl' := hl
      unfold isDig at hl'
      simp only [Bool.and_eq_true, decide_eq_true_eq] at hl'
      have hv := valN_le (b := b) (s := s) (min (i - s) 4) (fun j hj => h4 (s + j) (by omega) (by omega))
      have hp := pow4 (k := min (i - s) 4) (by omega)
      have step : ∃ B2, ((if zn i < B' 148 22 + 4 then (some (zn (b i))).bind fun v19 => zlet (zs B' 148 23 ((((10 : Int32) * (B' 148 23)) + v19) - (48 : Int32))) fun (M20 : ZI) => some M20 else some B') : Option ZI) = some B2 ∧ atV B B2 i (valN b s (min (i + 1 - s) 4)) := by
        rw [g22, zl4, zn_add]
        by_cases hc : i < s + 4
        · rw [if_pos ((zn_lt (by omega) (by omega)).mpr hc), Option.bind_some, g.2.1, zlet_e]
          have e : (10 : Int32) * zn (valN b s (min (i - s) 4)) + zn (b i) - 48 = zn (valN b s (min (i + 1 - s) 4)) := by
            rw [zl10, zn_mul, zn_add, zl48, zn_sub (by omega), show min (i + 1 - s) 4 = (min (i - s) 4) + 1 by omega, valN, show s + min (i - s) 4 = i by omega]
            congr 1
            omega
          rw [e]
          exact ⟨_, rfl, by rw [zs_sm, if_neg (by decide)]; exact g.1, by rw [zs_sm, if_pos rfl], fun o ho => by rw [zs_df ho]; exact g.2.2.1 o ho, fun j q1 q2 => by rw [zs_sm, if_neg q2]; exact g.2.2.2 j q1 q2⟩
        · rw [if_neg (by rw [zn_lt (by omega) (by omega)]; exact hc)]
          refine ⟨B', rfl, ?_⟩
          rw [show min (i + 1 - s) 4 = min (i - s) 4 by omega]
          exact g
      obtain ⟨B2, e1, e2⟩ := step
      rw [e1, Option.bind_some, zlet_e, e2.1, zadd1]
      refine digits_ref hb h h22 d (i + 1) f _ (by omega) (by omega) (by omega) (fun j q1 q2 => ?_) ⟨by rw [zs_sm, if_pos rfl], by rw [zs_sm, if_neg (by decide)]; exact e2.2.1, fun o ho => by rw [zs_df ho]; exact e2.2.2.1 o ho, fun j q1 q2 => by rw [zs_sm, if_neg q1]; exact e2.2.2.2 j q1 q2⟩
      by_cases hji : j = i
      · rw [hji]; exact hl
      · exact h4 j q1 (by omega)
    · rw [if_neg hl, if_pos rfl, if_neg (fun hc => hl hc.2)]
      exact ⟨B', rfl, g⟩
/-- the class's number, where it has four digits at most -/
theorem num_cls {M : ZI} {b : Nat → Nat} {t s e : Nat} (hb : tapB b t) (h : onA M b t) (hse : s ≤ e) (he : e ≤ t) (h4 : e ≤ s + 4) (hd : ∀ j, s ≤ j → j < e → isDig (b j) = true) : f66_numberAt 119 (zn s) (zn e) M = some (zn (valN b s (e - s))) := by
  have ht := hb.1
  obtain ⟨r, g1, rfl⟩ := zloop (fun f (a : Int32) c => f66_l5 119 (zn e) M f a c) e (fun i a => s ≤ i ∧ a = zn (valN b s (i - s))) (fun a => a = zn (valN b s (e - s))) (fun f i a hi ha => by
    obtain ⟨hsi, rfl⟩ := ha
    left
    (try dsimp only)
    have hl := hd i hsi hi
    unfold isDig at hl
    simp only [Bool.and_eq_true, decide_eq_true_eq] at hl
    have hx := hb.2 i (by omega)
    have hv := valN_le (b := b) (s := s) (i - s) (fun j hj => hd (s + j) (by omega) (by omega))
    have hp := pow4 (k := i - s) (by omega)
    rw [f66_l5, if_pos ((zn_lt (by omega) (by omega)).mpr hi), if_pos (show zn i < 400 by rw [zl400, zn_lt (by omega) (by decide)]; omega), if_pos ((zn_zin (by omega)).mpr (by omega)), zn_zi (by omega), zlet_e, show M (119 + 1) i = zn (b i) from h.2 i (by omega), zadd1, zl10, zn_mul, zn_add, zl48, zn_sub (by omega)]
    refine ⟨_, ⟨by omega, ?_⟩, rfl⟩
    rw [show i + 1 - s = (i - s) + 1 by omega, valN, show s + (i - s) = i by omega]
    congr 1
    omega) (fun f a ha => by
    refine ⟨a, ha.2, ?_⟩
    (try dsimp only)
    rw [f66_l5, if_neg (by rw [zn_lt (by omega) (by omega)]; omega)]) zfu s 0 hse (by rw [zfu_eq]; omega) ⟨Nat.le_refl _, by rw [Nat.sub_self]; rfl⟩
  have g1 : f66_l5 119 (zn e) M zfu 0 (zn s) = some _ := g1
  unfold f66_numberAt
  rw [g1]
  rfl
end
section
def wl (k : Nat) : Nat := zsn k
def wc (k i : Nat) : Nat := zi (zch k (zn i))
theorem word_fact : ∀ k : Fin 25, 0 < k.val → zsln k.val = zn (wl k.val) ∧ wl k.val ≤ 20 := by decide +kernel
theorem word_char : ∀ k : Fin 25, 0 < k.val → (List.range (wl k.val)).all (fun i => decide (zch k.val (zn i) = zn (wc k.val i)) && decide (wc k.val i < 256)) = true := by decide +kernel
theorem word_ch {k i : Nat} (h0 : 0 < k) (hk : k ≤ 24) (hi : i < wl k) : zch k (zn i) = zn (wc k i) ∧ wc k i < 256 := by
  have := List.all_eq_true.mp (word_char ⟨k, by omega⟩ h0) i (List.mem_range.mpr hi)
  simpa using this
/-- the bytes from s to e are the k-th word -/
def wMatch (b : Nat → Nat) (s e k : Nat) : Bool := decide (e - s = wl k) && (List.range (wl k)).all fun i => decide (b (s + i) = wc k i)
theorem is_ref {M : ZI} {b : Nat → Nat} {t s e k : Nat} (hb : tapB b t) (h : onB M b t) (h20 : M 148 20 = zn e) (h22 : M 148 22 = zn s) (hse : s ≤ e) (he : e ≤ t) (h0 : 0 < k) (hk : k ≤ 24) : f162_is k M = some (if wMatch b s e k = true then 1 else 0) := by
  have ht := hb.1
  obtain ⟨w1, w2⟩ := word_fact ⟨k, by omega⟩ h0
  simp only at w1 w2
  have run : ∀ v1, (v1 = 1 ∧ e - s = wl k) ∨ (v1 = 0 ∧ ¬ e - s = wl k) → f162_l24 k M zfu v1 0 = some (if wMatch b s e k = true then 1 else 0) := by
    intro v1 hv1
    obtain ⟨r, g1, g2⟩ := zloop (fun f (a : Int32) c => f162_l24 k M f a c) (wl k) (fun i a => (a = 1 ∧ e - s = wl k ∧ ∀ j, j < i → b (s + j) = wc k j) ∨ (a = 0 ∧ wMatch b s e k = false)) (fun a => a = if wMatch b s e k = true then 1 else 0) (fun f i a hi ha => by
      (try dsimp only)
      have lt : zn i < zn (wl k) := (zn_lt (by omega) (by omega)).mpr hi
      rcases ha with ⟨rfl, q1, q2⟩ | ⟨rfl, q1⟩
      · left
        obtain ⟨c1, c2⟩ := word_ch h0 hk hi
        have hx := hb.2 (s + i) (by omega)
        rw [f162_l24, w1, if_pos lt, if_neg (show ¬ (1 : Int32) = 0 by decide), h22, zn_add, if_pos ((zn_zin (by omega)).mpr (by omega)), if_pos (show zin (zn i) (zsn k) = true from (zn_zin (show i < 2147483648 by omega)).mpr hi), zn_zi (by omega), h.2 _ (by omega), c1, zadd1]
        by_cases hc : b (s + i) = wc k i
        · rw [if_pos (by rw [hc])]
          refine ⟨1, Or.inl ⟨rfl, q1, fun j hj => ?_⟩, rfl⟩
          by_cases hji : j = i
          · rw [hji]; exact hc
          · exact q2 j (by omega)
        · rw [if_neg (by rw [zn_eq (by omega) (by omega)]; exact hc)]
          refine ⟨0, Or.inr ⟨rfl, ?_⟩, rfl⟩
          apply Bool.eq_false_iff.mpr
          intro hm
          unfold wMatch at hm
          simp only [Bool.and_eq_true, decide_eq_true_eq, List.all_eq_true, List.mem_range] at hm
          exact hc (hm.2 i hi)
      · right
        refine ⟨0, by rw [q1]; rfl, ?_⟩
        rw [f162_l24, w1, if_pos lt, if_pos rfl]) (fun f a ha => by
      (try dsimp only)
      have hng : ¬ zn (wl k) < zn (wl k) := by rw [zn_lt (by omega) (by omega)]; omega
      refine ⟨a, ?_, by rw [f162_l24, w1, if_neg hng]⟩
      rcases ha with ⟨rfl, q1, q2⟩ | ⟨rfl, q1⟩
      · rw [if_pos]
        unfold wMatch
        simp only [Bool.and_eq_true, decide_eq_true_eq, List.all_eq_true, List.mem_range]
        exact ⟨q1, q2⟩
      · rw [q1]; rfl) zfu 0 v1 (Nat.zero_le _) (by rw [zfu_eq]; omega) (by
      rcases hv1 with ⟨rfl, q⟩ | ⟨rfl, q⟩
      · exact Or.inl ⟨rfl, q, fun j hj => by omega⟩
      · refine Or.inr ⟨rfl, ?_⟩
        unfold wMatch
        rw [decide_eq_false q]
        rfl)
    subst g2
    exact g1
  unfold f162_is
  rw [h20, h22, w1, zn_sub hse]
  by_cases hc : e - s = wl k
  · rw [if_pos (show zn (e - s) = zn (wl k) by rw [hc]), Option.bind_some, run 1 (Or.inl ⟨rfl, hc⟩), Option.bind_some]
    cases wMatch b s e k <;> rfl
  · rw [if_neg (show ¬ zn (e - s) = zn (wl k) by rw [zn_eq (by omega) (by omega)]; exact hc), Option.bind_some, run 0 (Or.inr ⟨rfl, hc⟩), Option.bind_some]
    cases wMatch b s e k <;> rfl
end
section
def sk (k : Nat) : Nat := [5, 6, 7, 1, 2, 3, 4, 8, 9, 10, 11, 12, 13, 14, 15, 16, 17, 18, 19, 20, 21, 22, 23, 24].getD k 0
def off : Nat → Nat
  | 0 => 0
  | k + 1 => off k + wl (sk k) + 1
theorem off_fact : ∀ k : Fin 24, 0 < sk k.val ∧ sk k.val ≤ 24 ∧ off k.val + wl (sk k.val) < 122 ∧ zch 0 (zn (off k.val + wl (sk k.val))) = 32 := by decide +kernel
theorem off_char : ∀ k : Fin 24, (List.range (wl (sk k.val))).all (fun i => decide (zch 0 (zn (off k.val + i)) = zn (wc (sk k.val) i)) && decide (zn (wc (sk k.val) i) ≠ 32)) = true := by decide +kernel
theorem off_end : off 24 = 122 ∧ zsln 0 = zn 122 ∧ zsn 0 = 122 := by decide +kernel
/-- the class walks one known word -/
theorem kind_word {M : ZI} {b : Nat → Nat} {t s e k : Nat} (hb : tapB b t) (h : onA M b t) (hse : s ≤ e) (he : e ≤ t) (hk : k < 24) : ∀ d j f fl, j + d = wl (sk k) → (fl = 1 ∧ s + j ≤ e ∧ (∀ i, i < j → b (s + i) = wc (sk k) i) ∨ fl = 0 ∧ wMatch b s e (sk k) = false) →
    f56_l13 119 (zn s) (zn e) M (f + d + 1) (zn (256 + k)) (zn (s + j)) fl (zn (off k + j)) = if wMatch b s e (sk k) = true then some (zn (256 + k)) else f56_l13 119 (zn s) (zn e) M f (zn (256 + (k + 1))) (zn s) 1 (zn (off (k + 1)))
  | 0, j, f, fl, hj, hf => by
    have ht := hb.1
    obtain ⟨o1, o2, o3, o4⟩ := off_fact ⟨k, hk⟩
    simp only at o1 o2 o3 o4
    obtain rfl : j = wl (sk k) := by omega
    rw [f56_l13, off_end.2.1, if_pos ((zn_lt (by omega) (by decide)).mpr o3), if_pos (show zin (zn (off k + wl (sk k))) (zsn 0) = true by rw [off_end.2.2]; exact (zn_zin (by omega)).mpr o3), zlet_e, o4, if_pos rfl, zlet_e, zadd1, zadd1]
    rcases hf with ⟨rfl, h1, h2⟩ | ⟨rfl, h1⟩
    · rw [if_neg (show ¬ (1 : Int32) = 0 by decide)]
      by_cases hc : s + wl (sk k) = e
      · rw [if_pos (show zn (s + wl (sk k)) = zn e by rw [hc]), if_pos]
        unfold wMatch
        simp only [Bool.and_eq_true, decide_eq_true_eq, List.all_eq_true, List.mem_range]
        exact ⟨by omega, h2⟩
      · rw [if_neg (show ¬ zn (s + wl (sk k)) = zn e by rw [zn_eq (by omega) (by omega)]; exact hc), if_neg (show ¬ wMatch b s e (sk k) = true by
          unfold wMatch
          rw [decide_eq_false (show ¬ e - s = wl (sk k) by omega), Bool.false_and]
          exact Bool.false_ne_true)]
        rfl
    · rw [if_pos rfl, if_neg (by rw [h1]; decide)]
      rfl
  | d + 1, j, f, fl, hj, hf => by
    have ht := hb.1
    obtain ⟨o1, o2, o3, o4⟩ := off_fact ⟨k, hk⟩
    simp only at o1 o2 o3 o4
    have hjl : j < wl (sk k) := by omega
    have oc := List.all_eq_true.mp (off_char ⟨k, hk⟩) j (List.mem_range.mpr hjl)
    simp only [Bool.and_eq_true, decide_eq_true_eq] at oc
    obtain ⟨c1, c2⟩ := oc
    obtain ⟨-, c3⟩ := word_ch o1 o2 hjl
    have ih := fun fl => kind_word hb h hse he hk d (j + 1) f fl (by omega)
    rw [show f + (d + 1) + 1 = (f + d + 1) + 1 by omega, f56_l13, off_end.2.1, if_pos ((zn_lt (by omega) (by decide)).mpr (by omega)), if_pos (show zin (zn (off k + j)) (zsn 0) = true by rw [off_end.2.2]; exact (zn_zin (by omega)).mpr (by omega)), zlet_e, c1, if_neg c2, zadd1, zadd1]
    rcases hf with ⟨rfl, h1, h2⟩ | ⟨rfl, h1⟩
    · rw [if_neg (show ¬ (1 : Int32) = 0 by decide)]
      by_cases hlt : s + j < e
      · have hx := hb.2 (s + j) (by omega)
        rw [if_pos ((zn_lt (by omega) (by omega)).mpr hlt), if_pos ((zn_zin (by omega)).mpr (by omega)), zn_zi (by omega), show M (119 + 1) (s + j) = zn (b (s + j)) from h.2 _ (by omega)]
        by_cases hc : b (s + j) = wc (sk k) j
        · rw [if_pos (show zn (b (s + j)) = zn (wc (sk k) j) by rw [hc])]
          exact ih 1 (Or.inl ⟨rfl, by omega, fun i hi => by
            by_cases hij : i = j
            · rw [hij]; exact hc
            · exact h2 i (by omega)⟩)
        · rw [if_neg (show ¬ zn (b (s + j)) = zn (wc (sk k) j) by rw [zn_eq (by omega) (by omega)]; exact hc)]
          refine ih 0 (Or.inr ⟨rfl, ?_⟩)
          apply Bool.eq_false_iff.mpr
          intro hm
          unfold wMatch at hm
          simp only [Bool.and_eq_true, decide_eq_true_eq, List.all_eq_true, List.mem_range] at hm
          exact hc (hm.2 j hjl)
      · rw [if_neg (show ¬ zn (s + j) < zn e by rw [zn_lt (by omega) (by omega)]; exact hlt)]
        refine ih 0 (Or.inr ⟨rfl, ?_⟩)
        unfold wMatch
        rw [decide_eq_false (show ¬ e - s = wl (sk k) by omega)]
        rfl
    · rw [if_pos rfl]
      exact ih 0 (Or.inr ⟨rfl, h1⟩)
/-- the first of the known words from the k-th on that the bytes are -/
def kindOf (b : Nat → Nat) (s e : Nat) : Nat → Nat → Int32
  | 0, _ => -3
  | d + 1, k => if wMatch b s e (sk k) = true then zn (256 + k) else kindOf b s e d (k + 1)
theorem kind_cls {M : ZI} {b : Nat → Nat} {t s e : Nat} (hb : tapB b t) (h : onA M b t) (hse : s ≤ e) (he : e ≤ t) : ∀ d k f, k + d = 24 → 122 < f + off k → f56_l13 119 (zn s) (zn e) M f (zn (256 + k)) (zn s) 1 (zn (off k)) = some (kindOf b s e d k)
  | 0, k, f, hk, hf => by
    obtain rfl : k = 24 := by omega
    rw [off_end.1] at hf ⊢
    obtain ⟨f, rfl⟩ : ∃ g, f = g + 1 := ⟨f - 1, by omega⟩
    rw [f56_l13, off_end.2.1, if_neg (by decide)]
    rfl
  | d + 1, k, f, hk, hf => by
    obtain ⟨o1, o2, o3, o4⟩ := off_fact ⟨k, by omega⟩
    simp only at o1 o2 o3 o4
    obtain ⟨g, rfl⟩ : ∃ g, f = g + wl (sk k) + 1 := ⟨f - wl (sk k) - 1, by omega⟩
    have := kind_word hb h hse he (show k < 24 by omega) (wl (sk k)) 0 g 1 (by omega) (Or.inl ⟨rfl, by omega, fun i hi => by omega⟩)
    rw [show s + 0 = s from rfl, show off k + 0 = off k from rfl] at this
    rw [this, kindOf]
    by_cases hc : wMatch b s e (sk k) = true
    · rw [if_pos hc, if_pos hc]
    · rw [if_neg hc, if_neg hc]
      exact kind_cls hb h hse he d (k + 1) g (by omega) (by
        have : off (k + 1) = off k + wl (sk k) + 1 := rfl
        omega)
theorem word_cls {M : ZI} {b : Nat → Nat} {t s e : Nat} (hb : tapB b t) (h : onA M b t) (hse : s ≤ e) (he : e ≤ t) : f56_wordKind 119 (zn s) (zn e) M = some (kindOf b s e 24 0) := by
  have := kind_cls hb h hse he 24 0 zfu rfl (by rw [zfu_eq]; omega)
  unfold f56_wordKind
  exact this
end
section
def askTok (w : Nat → Bool) : Int32 := if w 8 = true then 41 else if w 9 = true then 42 else if w 10 = true then 43 else if w 11 = true then 44 else if w 12 = true then 45 else if w 13 = true then 46 else if w 14 = true then 47 else if w 15 = true then 48 else if w 16 = true then 49 else 1
theorem askTok_eq {M : ZI} {w : Nat → Bool} (his : ∀ k, 0 < k → k ≤ 24 → f162_is k M = some (if w k = true then 1 else 0)) : f163_asked M = some (askTok w) := by
  unfold f163_asked askTok
  rw [his 8 (by decide) (by decide), Option.bind_some]
  cases h8 : w 8 with
  | true => simp only [↓reduceIte]; rfl
  | false =>
  simp only [Bool.false_eq_true, ↓reduceIte]
  rw [his 9 (by decide) (by decide), Option.bind_some]
  cases h9 : w 9 with
  | true => simp only [↓reduceIte]; rfl
  | false =>
  simp only [Bool.false_eq_true, ↓reduceIte]
  rw [his 10 (by decide) (by decide), Option.bind_some]
  cases h10 : w 10 with
  | true => simp only [↓reduceIte]; rfl
  | false =>
  simp only [Bool.false_eq_true, ↓reduceIte]
  rw [his 11 (by decide) (by decide), Option.bind_some]
  cases h11 : w 11 with
  | true => simp only [↓reduceIte]; rfl
  | false =>
  simp only [Bool.false_eq_true, ↓reduceIte]
  rw [his 12 (by decide) (by decide), Option.bind_some]
  cases h12 : w 12 with
  | true => simp only [↓reduceIte]; rfl
  | false =>
  simp only [Bool.false_eq_true, ↓reduceIte]
  rw [his 13 (by decide) (by decide), Option.bind_some]
  cases h13 : w 13 with
  | true => simp only [↓reduceIte]; rfl
  | false =>
  simp only [Bool.false_eq_true, ↓reduceIte]
  rw [his 14 (by decide) (by decide), Option.bind_some]
  cases h14 : w 14 with
  | true => simp only [↓reduceIte]; rfl
  | false =>
  simp only [Bool.false_eq_true, ↓reduceIte]
  rw [his 15 (by decide) (by decide), Option.bind_some]
  cases h15 : w 15 with
  | true => simp only [↓reduceIte]; rfl
  | false =>
  simp only [Bool.false_eq_true, ↓reduceIte]
  rw [his 16 (by decide) (by decide), Option.bind_some]
  cases h16 : w 16 with
  | true => simp only [↓reduceIte]; rfl
  | false =>
  simp only [Bool.false_eq_true, ↓reduceIte]
def lawTok (w : Nat → Bool) : Int32 := if w 1 = true then 3 else if w 2 = true then 4 else if w 3 = true then 5 else if w 4 = true then 6 else if w 5 = true then 20 else if w 6 = true then 21 else if w 7 = true then 22 else askTok w
theorem lawTok_eq {M : ZI} {w : Nat → Bool} (his : ∀ k, 0 < k → k ≤ 24 → f162_is k M = some (if w k = true then 1 else 0)) : f161_lawWord M = some (lawTok w) := by
  unfold f161_lawWord lawTok
  rw [his 1 (by decide) (by decide), Option.bind_some]
  cases h1 : w 1 with
  | true => simp only [↓reduceIte]; rfl
  | false =>
  simp only [Bool.false_eq_true, ↓reduceIte]
  rw [his 2 (by decide) (by decide), Option.bind_some]
  cases h2 : w 2 with
  | true => simp only [↓reduceIte]; rfl
  | false =>
  simp only [Bool.false_eq_true, ↓reduceIte]
  rw [his 3 (by decide) (by decide), Option.bind_some]
  cases h3 : w 3 with
  | true => simp only [↓reduceIte]; rfl
  | false =>
  simp only [Bool.false_eq_true, ↓reduceIte]
  rw [his 4 (by decide) (by decide), Option.bind_some]
  cases h4 : w 4 with
  | true => simp only [↓reduceIte]; rfl
  | false =>
  simp only [Bool.false_eq_true, ↓reduceIte]
  rw [his 5 (by decide) (by decide), Option.bind_some]
  cases h5 : w 5 with
  | true => simp only [↓reduceIte]; rfl
  | false =>
  simp only [Bool.false_eq_true, ↓reduceIte]
  rw [his 6 (by decide) (by decide), Option.bind_some]
  cases h6 : w 6 with
  | true => simp only [↓reduceIte]; rfl
  | false =>
  simp only [Bool.false_eq_true, ↓reduceIte]
  rw [his 7 (by decide) (by decide), Option.bind_some]
  cases h7 : w 7 with
  | true => simp only [↓reduceIte]; rfl
  | false =>
  simp only [Bool.false_eq_true, ↓reduceIte]
  rw [askTok_eq his]
  rfl
def workTok (w : Nat → Bool) : Int32 := if w 18 = true then 8 else if w 19 = true then 9 else if w 20 = true then 10 else if w 21 = true then 11 else if w 22 = true then 12 else if w 23 = true then 13 else 1
theorem workTok_eq {M : ZI} {w : Nat → Bool} (his : ∀ k, 0 < k → k ≤ 24 → f162_is k M = some (if w k = true then 1 else 0)) : f164_workWord M = some (workTok w) := by
  unfold f164_workWord workTok
  rw [his 18 (by decide) (by decide), Option.bind_some]
  cases h18 : w 18 with
  | true => simp only [↓reduceIte]; rfl
  | false =>
  simp only [Bool.false_eq_true, ↓reduceIte]
  rw [his 19 (by decide) (by decide), Option.bind_some]
  cases h19 : w 19 with
  | true => simp only [↓reduceIte]; rfl
  | false =>
  simp only [Bool.false_eq_true, ↓reduceIte]
  rw [his 20 (by decide) (by decide), Option.bind_some]
  cases h20 : w 20 with
  | true => simp only [↓reduceIte]; rfl
  | false =>
  simp only [Bool.false_eq_true, ↓reduceIte]
  rw [his 21 (by decide) (by decide), Option.bind_some]
  cases h21 : w 21 with
  | true => simp only [↓reduceIte]; rfl
  | false =>
  simp only [Bool.false_eq_true, ↓reduceIte]
  rw [his 22 (by decide) (by decide), Option.bind_some]
  cases h22 : w 22 with
  | true => simp only [↓reduceIte]; rfl
  | false =>
  simp only [Bool.false_eq_true, ↓reduceIte]
  rw [his 23 (by decide) (by decide), Option.bind_some]
  cases h23 : w 23 with
  | true => simp only [↓reduceIte]; rfl
  | false =>
  simp only [Bool.false_eq_true, ↓reduceIte]
def councilTok (w : Nat → Bool) : Int32 := if w 2 = true then 4 else if w 3 = true then 5 else if w 24 = true then 14 else 1
theorem councilTok_eq {M : ZI} {w : Nat → Bool} (his : ∀ k, 0 < k → k ≤ 24 → f162_is k M = some (if w k = true then 1 else 0)) : f165_councilWord M = some (councilTok w) := by
  unfold f165_councilWord councilTok
  rw [his 2 (by decide) (by decide), Option.bind_some]
  cases h2 : w 2 with
  | true => simp only [↓reduceIte]; rfl
  | false =>
  simp only [Bool.false_eq_true, ↓reduceIte]
  rw [his 3 (by decide) (by decide), Option.bind_some]
  cases h3 : w 3 with
  | true => simp only [↓reduceIte]; rfl
  | false =>
  simp only [Bool.false_eq_true, ↓reduceIte]
  rw [his 24 (by decide) (by decide), Option.bind_some]
  cases h24 : w 24 with
  | true => simp only [↓reduceIte]; rfl
  | false =>
  simp only [Bool.false_eq_true, ↓reduceIte]
def wordTok (a : Nat) (w : Nat → Bool) : Int32 := if a = 0 then lawTok w else if a = 1 then (if w 17 = true then 7 else 1) else if a = 2 then workTok w else councilTok w
theorem wordTok_eq {M : ZI} {w : Nat → Bool} {a : Nat} (his : ∀ k, 0 < k → k ≤ 24 → f162_is k M = some (if w k = true then 1 else 0)) (h14 : M 148 14 = zn a) (ha : a ≤ 3) : f160_word M = some (wordTok a w) := by
  have h4 : a = 0 ∨ a = 1 ∨ a = 2 ∨ a = 3 := by omega
  unfold f160_word
  rw [h14]
  rcases h4 with rfl | rfl | rfl | rfl
  · rw [if_pos (show zn 0 = 0 from rfl), lawTok_eq his]
    rfl
  · rw [if_neg (show ¬ zn 1 = 0 by decide), if_pos (show zn 1 = 1 from rfl), his 17 (by decide) (by decide), Option.bind_some]
    unfold wordTok
    cases w 17 <;> rfl
  · rw [if_neg (show ¬ zn 2 = 0 by decide), if_neg (show ¬ zn 2 = 1 by decide), if_pos (show zn 2 = 2 from rfl), workTok_eq his]
    rfl
  · rw [if_neg (show ¬ zn 3 = 0 by decide), if_neg (show ¬ zn 3 = 1 by decide), if_neg (show ¬ zn 3 = 2 by decide), councilTok_eq his]
    rfl
end
section
theorem word_diff : ∀ k : Fin 25, ∀ q : Fin 25, 0 < k.val → 0 < q.val → k.val = q.val ∨ wl k.val ≠ wl q.val ∨ (List.range (wl k.val)).any (fun i => decide (wc k.val i ≠ wc q.val i)) = true := by decide +kernel
/-- the bytes are one known word at most -/
theorem one_word {b : Nat → Nat} {s e k q : Nat} (hk0 : 0 < k) (hk : k ≤ 24) (hq0 : 0 < q) (hq : q ≤ 24) (h1 : wMatch b s e k = true) (h2 : wMatch b s e q = true) : k = q := by
  unfold wMatch at h1 h2
  simp only [Bool.and_eq_true, decide_eq_true_eq, List.all_eq_true, List.mem_range] at h1 h2
  rcases word_diff ⟨k, by omega⟩ ⟨q, by omega⟩ hk0 hq0 with h | h | h
  · exact h
  · exact absurd (h1.1.symm.trans h2.1) h
  · obtain ⟨i, hi, hd⟩ := List.any_eq_true.mp h
    have hi : i < wl k := List.mem_range.mp hi
    simp only [decide_eq_true_eq] at hd
    have e : wl k = wl q := h1.1.symm.trans h2.1
    exact absurd ((h1.2 i hi).symm.trans (h2.2 i (by omega))) hd
theorem kind_at {b : Nat → Nat} {s e : Nat} : ∀ d k, k + d = 24 → ∀ q, k ≤ q → q < 24 → wMatch b s e (sk q) = true → kindOf b s e d k = zn (256 + q)
  | 0, k, h, q, h1, h2, _ => by omega
  | d + 1, k, h, q, h1, h2, hm => by
    unfold kindOf
    by_cases hc : wMatch b s e (sk k) = true
    · obtain ⟨o1, o2, -⟩ := off_fact ⟨k, by omega⟩
      obtain ⟨p1, p2, -⟩ := off_fact ⟨q, h2⟩
      have hkq := one_word o1 o2 p1 p2 hc hm
      have inj : ∀ k : Fin 24, ∀ q : Fin 24, sk k.val = sk q.val → k = q := by decide +kernel
      have := congrArg Fin.val (inj ⟨k, by omega⟩ ⟨q, h2⟩ hkq)
      simp only at this
      rw [if_pos hc, this]
    · rw [if_neg hc]
      have hne : k ≠ q := fun hkq => hc (by rw [hkq]; exact hm)
      exact kind_at d (k + 1) (by omega) q (by omega) h2 hm
theorem kind_none {b : Nat → Nat} {s e : Nat} : ∀ d k, k + d = 24 → (∀ q, k ≤ q → q < 24 → wMatch b s e (sk q) = false) → kindOf b s e d k = -3
  | 0, _, _, _ => rfl
  | d + 1, k, h, hn => by
    unfold kindOf
    rw [if_neg (by rw [hn k (Nat.le_refl _) (by omega)]; exact Bool.false_ne_true)]
    exact kind_none d (k + 1) (by omega) (fun q h1 h2 => hn q (by omega) h2)
end
section
def signB (x : Nat) : Bool := decide (x = 59) || decide (x = 43) || decide (x = 45) || decide (x = 42) || decide (x = 47) || decide (x = 40) || decide (x = 41) || decide (x = 60) || decide (x = 61) || decide (x = 62)
/-- one token of the reference from s on: where it ends, what it is -/
def lexEnd (b : Nat → Nat) (t s : Nat) : Nat := if s < t then (if isLet (b s) = true then runEnd isLet b t (t - s) s else if isDig (b s) = true then runEnd isDig b t (t - s) s else s + 1) else s
def lexTok (a : Nat) (b : Nat → Nat) (t s : Nat) : Int32 := if s < t then (if isLet (b s) = true then wordTok a (fun k => wMatch b s (runEnd isLet b t (t - s) s) k) else if isDig (b s) = true then (if runEnd isDig b t (t - s) s - s < 5 then 2 else 1) else if signB (b s) = true then 100 + zn (b s) else 1) else 0
def lexSt (B B' : ZI) (s : Nat) : Prop := B' 148 20 = zn s ∧ B' 148 22 = zn s ∧ (∀ o, o ≠ 148 → B' o = B o) ∧ ∀ j, j ≠ 20 → j ≠ 22 → B' 148 j = B 148 j
theorem lex_start {B : ZI} {b : Nat → Nat} {t i : Nat} (hb : tapB b t) (h : onB B b t) (h20 : B 148 20 = zn i) (hi : i ≤ t) : ∃ M6, f157_l0 zfu B = some M6 ∧ lexSt B (zs M6 148 22 (M6 148 20)) (runEnd isBlk b t (t - i) i) := by
  have ht := hb.1
  obtain ⟨M6, e1, e2, e3, e4⟩ := blanks_ref hb h (t - i) i zfu B (by omega) (by rw [zfu_eq]; omega) ⟨h20, fun _ _ => rfl, fun _ _ => rfl⟩
  refine ⟨M6, e1, ?_, ?_, fun o ho => by rw [zs_df ho]; exact e3 o ho, fun j q1 q2 => by rw [zs_sm, if_neg q2]; exact e4 j q1⟩
  · rw [zs_sm, if_neg (by decide)]; exact e2
  · rw [zs_sm, if_pos rfl]; exact e2
theorem sign_eq {x : Nat} (h : x < 256) : ((if zn x = (59 : Int32) then some (1 : Int32) else (if zn x = (43 : Int32) then some (1 : Int32) else (if zn x = (45 : Int32) then some (1 : Int32) else (if zn x = (42 : Int32) then some (1 : Int32) else (if zn x = (47 : Int32) then some (1 : Int32) else (if zn x = (40 : Int32) then some (1 : Int32) else (if zn x = (41 : Int32) then some (1 : Int32) else (if zn x = (60 : Int32) then some (1 : Int32) else (if zn x = (61 : Int32) then some (1 : Int32) else (if zn x = (62 : Int32) then some (1 : Int32) else some (0 : Int32))))))))))) : Option Int32) = some (if signB x = true then 1 else 0) := by
  have : ∀ x : Fin 256, ((if zn x.val = (59 : Int32) then some (1 : Int32) else (if zn x.val = (43 : Int32) then some (1 : Int32) else (if zn x.val = (45 : Int32) then some (1 : Int32) else (if zn x.val = (42 : Int32) then some (1 : Int32) else (if zn x.val = (47 : Int32) then some (1 : Int32) else (if zn x.val = (40 : Int32) then some (1 : Int32) else (if zn x.val = (41 : Int32) then some (1 : Int32) else (if zn x.val = (60 : Int32) then some (1 : Int32) else (if zn x.val = (61 : Int32) then some (1 : Int32) else (if zn x.val = (62 : Int32) then some (1 : Int32) else some (0 : Int32))))))))))) : Option Int32) = some (if signB x.val = true then 1 else 0) := by decide +kernel
  exact this ⟨x, h⟩
end
section
theorem next_ref {B : ZI} {b : Nat → Nat} {t i a : Nat} (hb : tapB b t) (h : onB B b t) (h14 : B 148 14 = zn a) (ha : a ≤ 3) (h20 : B 148 20 = zn i) (hi : i ≤ t) : ∃ B', f157_next0 B = some B' ∧ B' 148 22 = zn (runEnd isBlk b t (t - i) i) ∧ B' 148 20 = zn (lexEnd b t (runEnd isBlk b t (t - i) i)) ∧ B' 148 21 = lexTok a b t (runEnd isBlk b t (t - i) i) ∧ (lexTok a b t (runEnd isBlk b t (t - i) i) = 2 → runEnd isBlk b t (t - i) i < t → isDig (b (runEnd isBlk b t (t - i) i)) = true → B' 148 23 = zn (valN b (runEnd isBlk b t (t - i) i) (lexEnd b t (runEnd isBlk b t (t - i) i) - runEnd isBlk b t (t - i) i))) ∧ (∀ o, o ≠ 148 → B' o = B o) ∧ ∀ j, j ≠ 20 → j ≠ 21 → j ≠ 22 → j ≠ 23 → B' 148 j = B 148 j := by
  have ht := hb.1
  obtain ⟨M6, e1, g1, g2, g3, g4⟩ := lex_start hb h h20 hi
  obtain ⟨r1, r2⟩ := runEnd_bd (P := isBlk) (b := b) (t := t) (t - i) i hi
  generalize runEnd isBlk b t (t - i) i = s at *
  unfold f157_next0
  rw [e1, Option.bind_some, zlet_e]
  generalize zs M6 148 22 (M6 148 20) = M7 at *
  have hB7 : onB M7 b t := ⟨by rw [g4 19 (by decide) (by decide)]; exact h.1, fun j hj => by rw [g3 158 (by decide)]; exact h.2 j hj⟩
  rw [g1]
  by_cases hst : s < t
  case neg =>
    rw [see_out hb hB7 (by omega) (by omega), Option.bind_some, if_pos rfl, zlet_e]
    have e0 : lexEnd b t s = s := by unfold lexEnd; rw [if_neg hst]
    have e2 : lexTok a b t s = 0 := by unfold lexTok; rw [if_neg hst]
    rw [e0, e2]
    exact ⟨_, rfl, by rw [zs_sm, if_neg (by decide)]; exact g2, by rw [zs_sm, if_neg (by decide)]; exact g1, by rw [zs_sm, if_pos rfl], fun _ hc => absurd hc hst, fun o ho => by rw [zs_df ho]; exact g3 o ho, fun j q1 q2 q3 _ => by rw [zs_sm, if_neg q2]; exact g4 j q1 q3⟩
  have hx := hb.2 s hst
  rw [see_in hb hB7 hst, Option.bind_some, if_neg (zn_ne_neg (by omega)), (letter_eq hx).2, Option.bind_some]
  by_cases hl : isLet (b s) = true
  · rw [if_pos hl, if_neg (by decide)]
    have hnd : ¬ isDig (b s) = true := by
      unfold isLet at hl
      unfold isDig
      simp only [Bool.and_eq_true, Bool.or_eq_true, decide_eq_true_eq] at hl ⊢
      omega
    obtain ⟨M30, k1, k2, k3, k4⟩ := letters_ref (B := M7) hb hB7 (t - s) s zfu M7 (by omega) (by rw [zfu_eq]; omega) ⟨g1, fun _ _ => rfl, fun _ _ => rfl⟩
    obtain ⟨p1, p2⟩ := runEnd_bd (P := isLet) (b := b) (t := t) (t - s) s (by omega)
    have e0 : lexEnd b t s = runEnd isLet b t (t - s) s := by unfold lexEnd; rw [if_pos hst, if_pos hl]
    have e2 : lexTok a b t s = wordTok a (fun k => wMatch b s (runEnd isLet b t (t - s) s) k) := by unfold lexTok; rw [if_pos hst, if_pos hl]
    have hB30 : onB M30 b t := onB_at hB7 ⟨k2, k3, k4⟩
    rw [k1, Option.bind_some, wordTok_eq (w := fun k => wMatch b s (runEnd isLet b t (t - s) s) k) (fun k q1 q2 => is_ref hb hB30 k2 ((k4 22 (by decide)).trans g2) p1 p2 q1 q2) ((k4 14 (by decide)).trans ((g4 14 (by decide) (by decide)).trans h14)) ha, Option.bind_some, zlet_e, e0, e2]
    exact ⟨_, rfl, by rw [zs_sm, if_neg (by decide), k4 22 (by decide)]; exact g2, by rw [zs_sm, if_neg (by decide)]; exact k2, by rw [zs_sm, if_pos rfl], fun _ _ hc => absurd hc hnd, fun o ho => by rw [zs_df ho, k3 o ho]; exact g3 o ho, fun j q1 q2 q3 _ => by rw [zs_sm, if_neg q2, k4 j q1]; exact g4 j q1 q3⟩
  rw [if_neg hl, if_pos rfl, (digit_eq hx).2, Option.bind_some]
  by_cases hd : isDig (b s) = true
  · rw [if_pos hd, if_neg (by decide), zlet_e]
    have h22 : (zs M7 148 23 0) 148 22 = zn s := by rw [zs_sm, if_neg (by decide)]; exact g2
    have hB8 : onB (zs M7 148 23 0) b t := ⟨by rw [zs_sm, if_neg (by decide)]; exact hB7.1, fun j hj => by rw [zs_df (by decide)]; exact hB7.2 j hj⟩
    obtain ⟨M23, k1, k2, k3, k4, k5⟩ := digits_ref (B := zs M7 148 23 0) hb hB8 h22 (t - s) s zfu (zs M7 148 23 0) (by omega) (by rw [zfu_eq]; omega) (Nat.le_refl _) (fun j q1 q2 => by omega) ⟨by rw [zs_sm, if_neg (by decide)]; exact g1, by rw [zs_sm, if_pos rfl, Nat.sub_self]; rfl, fun _ _ => rfl, fun _ _ _ => rfl⟩
    obtain ⟨p1, p2⟩ := runEnd_bd (P := isDig) (b := b) (t := t) (t - s) s (by omega)
    have e0 : lexEnd b t s = runEnd isDig b t (t - s) s := by unfold lexEnd; rw [if_pos hst, if_neg hl, if_pos hd]
    have e2 : lexTok a b t s = (if runEnd isDig b t (t - s) s - s < 5 then 2 else 1) := by unfold lexTok; rw [if_pos hst, if_neg hl, if_pos hd]
    have k22 : M23 148 22 = zn s := (k5 22 (by decide) (by decide)).trans h22
    have fr : ∀ o, o ≠ 148 → M23 o = B o := fun o ho => (k4 o ho).trans (by rw [zs_df ho]; exact g3 o ho)
    have fj : ∀ j, j ≠ 20 → j ≠ 22 → j ≠ 23 → M23 148 j = B 148 j := fun j q1 q2 q3 => (k5 j q1 q3).trans (by rw [zs_sm, if_neg q3]; exact g4 j q1 q2)
    rw [k1, Option.bind_some, k2, k22, zn_sub p1, e0, e2]
    by_cases h5 : runEnd isDig b t (t - s) s - s < 5
    · rw [if_pos (show zn (runEnd isDig b t (t - s) s - s) < 5 by rw [zl5, zn_lt (by omega) (by decide)]; exact h5), if_pos h5, zlet_e]
      refine ⟨_, rfl, by rw [zs_sm, if_neg (by decide)]; exact k22, by rw [zs_sm, if_neg (by decide)]; exact k2, by rw [zs_sm, if_pos rfl], fun _ _ _ => ?_, fun o ho => by rw [zs_df ho]; exact fr o ho, fun j q1 q2 q3 q4 => by rw [zs_sm, if_neg q2]; exact fj j q1 q3 q4⟩
      rw [zs_sm, if_neg (by decide), k3, show min (runEnd isDig b t (t - s) s - s) 4 = runEnd isDig b t (t - s) s - s by omega]
    · rw [if_neg (show ¬ zn (runEnd isDig b t (t - s) s - s) < 5 by rw [zl5, zn_lt (by omega) (by decide)]; exact h5), if_neg h5, zlet_e]
      exact ⟨_, rfl, by rw [zs_sm, if_neg (by decide)]; exact k22, by rw [zs_sm, if_neg (by decide)]; exact k2, by rw [zs_sm, if_pos rfl], fun hc => absurd hc (by decide), fun o ho => by rw [zs_df ho]; exact fr o ho, fun j q1 q2 q3 q4 => by rw [zs_sm, if_neg q2]; exact fj j q1 q3 q4⟩
  · rw [if_neg hd, if_pos rfl, zlet_e, zadd1, sign_eq hx, Option.bind_some]
    have e0 : lexEnd b t s = s + 1 := by unfold lexEnd; rw [if_pos hst, if_neg hl, if_neg hd]
    have e2 : lexTok a b t s = (if signB (b s) = true then 100 + zn (b s) else 1) := by unfold lexTok; rw [if_pos hst, if_neg hl, if_neg hd]
    rw [e0, e2]
    by_cases hs : signB (b s) = true
    · rw [if_pos hs, if_neg (by decide), if_pos hs, zlet_e]
      exact ⟨_, rfl, by rw [zs_sm, if_neg (by decide), zs_sm, if_neg (by decide)]; exact g2, by rw [zs_sm, if_neg (by decide), zs_sm, if_pos rfl], by rw [zs_sm, if_pos rfl], fun _ _ hc => absurd hc hd, fun o ho => by rw [zs_df ho, zs_df ho]; exact g3 o ho, fun j q1 q2 q3 _ => by rw [zs_sm, if_neg q2, zs_sm, if_neg q1]; exact g4 j q1 q3⟩
    · rw [if_neg hs, if_pos rfl, if_neg hs, zlet_e]
      exact ⟨_, rfl, by rw [zs_sm, if_neg (by decide), zs_sm, if_neg (by decide)]; exact g2, by rw [zs_sm, if_neg (by decide), zs_sm, if_pos rfl], by rw [zs_sm, if_pos rfl], fun _ _ hc => absurd hc hd, fun o ho => by rw [zs_df ho, zs_df ho]; exact g3 o ho, fun j q1 q2 q3 _ => by rw [zs_sm, if_neg q2, zs_sm, if_neg q1]; exact g4 j q1 q3⟩
end
section
/-- what the class makes of a byte that is no letter, digit or blank -/
theorem sign_kind {x : Nat} (h : x < 256) : f67_signKind (zn x) = some (if signB x = true then zn x else -3) := by
  have : ∀ x : Fin 256, f67_signKind (zn x.val) = some (if signB x.val = true then zn x.val else -3) := by decide +kernel
  exact this ⟨x, h⟩
/-- one token of the class from s on -/
def lexKind (b : Nat → Nat) (t s : Nat) : Int32 := if s < t then (if isLet (b s) = true then kindOf b s (runEnd isLet b t (t - s) s) 24 0 else if isDig (b s) = true then (if 4 < runEnd isDig b t (t - s) s - s then -3 else -2) else if signB (b s) = true then zn (b s) else -3) else -1
theorem add_tok {M : ZI} {m : Nat} {a v s : Int32} (h5 : M 119 5 = zn m) (hm : m ≤ 400) : f64_addToken 119 a v s M = some (zs (zs (zs (zs M 121 m a) 122 m v) 123 m s) 119 5 (zn (m + 1))) := by
  have hz : zin (zn m) 401 = true := (zn_zin (by omega)).mpr (by omega)
  unfold f64_addToken
  rw [h5, if_neg (show ¬ (400 : Int32) < zn m by rw [zl400, zn_lt (by decide) (by omega)]; omega), if_pos hz, zn_zi (by omega), zlet_e, zs_df (show (119 : Nat) ≠ 119 + 2 by decide), h5, if_pos hz, zn_zi (by omega), zlet_e, zs_df (show (119 : Nat) ≠ 119 + 3 by decide), zs_df (show (119 : Nat) ≠ 119 + 2 by decide), h5, if_pos hz, zn_zi (by omega), zlet_e, zs_df (show (119 : Nat) ≠ 119 + 4 by decide), zs_df (show (119 : Nat) ≠ 119 + 3 by decide), zs_df (show (119 : Nat) ≠ 119 + 2 by decide), h5, zadd1]
  rfl
end
section
-- ===== text: the tokens, one after another =====
theorem zn_ne_neg2 {k : Nat} (h : k < 2147483648) : zn k ≠ -2 := by
  intro h1
  have := congrArg Int32.toInt h1
  rw [zn_toInt h] at this
  rw [show (-2 : Int32).toInt = -2 by decide] at this
  omega
theorem zn_ne_neg3 {k : Nat} (h : k < 2147483648) : zn k ≠ -3 := by
  intro h1
  have := congrArg Int32.toInt h1
  rw [zn_toInt h] at this
  rw [show (-3 : Int32).toInt = -3 by decide] at this
  omega
def skB (b : Nat → Nat) (t i : Nat) : Nat := runEnd isBlk b t (t - i) i
/-- where the m-th token begins -/
def tkS (b : Nat → Nat) (t : Nat) : Nat → Nat
  | 0 => skB b t 0
  | m + 1 => skB b t (lexEnd b t (tkS b t m))
theorem runEnd_step {P : Nat → Bool} {b : Nat → Nat} {t i : Nat} (hi : i < t) (hp : P (b i) = true) : runEnd P b t (t - i) i = runEnd P b t (t - (i + 1)) (i + 1) := by
  rw [show t - i = (t - (i + 1)) + 1 by omega, runEnd, if_pos ⟨hi, hp⟩]
theorem runEnd_stop {P : Nat → Bool} {b : Nat → Nat} {t i : Nat} (hp : ¬ (i < t ∧ P (b i) = true)) : ∀ d, runEnd P b t d i = i
  | 0 => rfl
  | d + 1 => by rw [runEnd, if_neg hp]
theorem runEnd_all {P : Nat → Bool} {b : Nat → Nat} {t : Nat} : ∀ d i j, i ≤ j → j < runEnd P b t d i → P (b j) = true
  | 0, i, j, h1, h2 => by unfold runEnd at h2; omega
  | d + 1, i, j, h1, h2 => by
    unfold runEnd at h2
    by_cases hc : i < t ∧ P (b i) = true
    · rw [if_pos hc] at h2
      by_cases hij : j = i
      · rw [hij]; exact hc.2
      · exact runEnd_all d (i + 1) j (by omega) h2
    · rw [if_neg hc] at h2; omega
theorem skB_bd {b : Nat → Nat} {t i : Nat} (h : i ≤ t) : i ≤ skB b t i ∧ skB b t i ≤ t := runEnd_bd _ _ h
theorem lexEnd_bd {b : Nat → Nat} {t s : Nat} (h : s ≤ t) : s ≤ lexEnd b t s ∧ lexEnd b t s ≤ t ∧ (s < t → s < lexEnd b t s) := by
  unfold lexEnd
  by_cases hs : s < t
  · rw [if_pos hs]
    by_cases hl : isLet (b s) = true
    · rw [if_pos hl, runEnd_step hs hl]
      have := runEnd_bd (P := isLet) (b := b) (t := t) (t - (s + 1)) (s + 1) (by omega)
      omega
    · rw [if_neg hl]
      by_cases hd : isDig (b s) = true
      · rw [if_pos hd, runEnd_step hs hd]
        have := runEnd_bd (P := isDig) (b := b) (t := t) (t - (s + 1)) (s + 1) (by omega)
        omega
      · rw [if_neg hd]; omega
  · rw [if_neg hs]; omega
theorem tkS_le {b : Nat → Nat} {t : Nat} : ∀ m, tkS b t m ≤ t
  | 0 => (skB_bd (Nat.zero_le t)).2
  | m + 1 => (skB_bd (lexEnd_bd (tkS_le m)).2.1).2
def lexVal (b : Nat → Nat) (t s : Nat) : Nat := valN b s (lexEnd b t s - s)
def tkK (b : Nat → Nat) (t m : Nat) : Int32 := lexKind b t (tkS b t m)
def tkT (a : Nat) (b : Nat → Nat) (t m : Nat) : Int32 := lexTok a b t (tkS b t m)
def tkV (b : Nat → Nat) (t m : Nat) : Nat := lexVal b t (tkS b t m)
/-- the class has laid its m-th token -/
def laid (b : Nat → Nat) (t : Nat) (A : ZI) (m : Nat) : Prop := A 121 m = tkK b t m ∧ (tkK b t m = -2 → A 122 m = zn (tkV b t m)) ∧ A 123 m = zn (tkS b t m)
theorem laid_of {b : Nat → Nat} {t m : Nat} {A A' : ZI} (h : laid b t A m) (g : A' 121 m = A 121 m ∧ A' 122 m = A 122 m ∧ A' 123 m = A 123 m) : laid b t A' m := by
  unfold laid
  rw [g.1, g.2.1, g.2.2]
  exact h
/-- one more token is laid -/
theorem lay_tok {b : Nat → Nat} {t m : Nat} {A : ZI} {a v s : Int32} (h5 : A 119 5 = zn m) (hm : m ≤ 400) (ha : a = tkK b t m) (hv : tkK b t m = -2 → v = zn (tkV b t m)) (hs : s = zn (tkS b t m)) (hq : ∀ q, q < m → laid b t A q) :
    ∃ A', f64_addToken 119 a v s A = some A' ∧ A' 119 5 = zn (m + 1) ∧ (∀ q, q < m + 1 → laid b t A' q) ∧ (∀ o, o ≠ 119 → o ≠ 121 → o ≠ 122 → o ≠ 123 → A' o = A o) ∧ ∀ j, j ≠ 5 → A' 119 j = A 119 j := by
  refine ⟨_, add_tok h5 hm, by rw [zs_sm, if_pos rfl], fun q hqm => ?_, fun o h1 h2 h3 h4 => by rw [zs_df h1, zs_df h4, zs_df h3, zs_df h2], fun j hj => by rw [zs_sm, if_neg hj, zs_df (by decide), zs_df (by decide), zs_df (by decide)]⟩
  have e1 : (zs (zs (zs (zs A 121 m a) 122 m v) 123 m s) 119 5 (zn (m + 1))) 121 q = if q = m then a else A 121 q := by rw [zs_df (by decide), zs_df (by decide), zs_df (by decide), zs_sm]
  have e2 : (zs (zs (zs (zs A 121 m a) 122 m v) 123 m s) 119 5 (zn (m + 1))) 122 q = if q = m then v else A 122 q := by rw [zs_df (by decide), zs_df (by decide), zs_sm, zs_df (by decide)]
  have e3 : (zs (zs (zs (zs A 121 m a) 122 m v) 123 m s) 119 5 (zn (m + 1))) 123 q = if q = m then s else A 123 q := by rw [zs_df (by decide), zs_sm, zs_df (by decide), zs_df (by decide)]
  by_cases hqq : q = m
  · subst hqq
    unfold laid
    rw [e1, e2, e3, if_pos rfl, if_pos rfl, if_pos rfl]
    exact ⟨ha, hv, hs⟩
  · exact laid_of (hq q (by omega)) ⟨by rw [e1, if_neg hqq], by rw [e2, if_neg hqq], by rw [e3, if_neg hqq]⟩
theorem num_any {M : ZI} {s e : Nat} (hse : s ≤ e) (he : e ≤ 400) : ∃ v, f66_numberAt 119 (zn s) (zn e) M = some v := by
  obtain ⟨r, g1, -⟩ := zloop (fun f (a : Int32) c => f66_l5 119 (zn e) M f a c) e (fun _ _ => True) (fun _ => True) (fun f i a hi _ => by
    left
    (try dsimp only)
    rw [f66_l5, if_pos ((zn_lt (by omega) (by omega)).mpr hi), if_pos (show zn i < 400 by rw [zl400, zn_lt (by omega) (by decide)]; omega), if_pos ((zn_zin (by omega)).mpr (by omega)), zlet_e, zadd1]
    exact ⟨_, trivial, rfl⟩) (fun f a _ => by
    refine ⟨a, trivial, ?_⟩
    (try dsimp only)
    rw [f66_l5, if_neg (by rw [zn_lt (by omega) (by omega)]; omega)]) zfu s 0 hse (by rw [zfu_eq]; omega) trivial
  have g1 : f66_l5 119 (zn e) M zfu 0 (zn s) = some r := g1
  refine ⟨r, ?_⟩
  unfold f66_numberAt
  rw [g1]
  rfl
theorem toks_cls {b : Nat → Nat} {t : Nat} (hb : tapB b t) : ∀ f i cnt A, i ≤ t → t - i < f → onA A b t → A 119 5 = zn cnt → cnt ≤ i → skB b t i = tkS b t cnt → (∀ q, q < cnt → laid b t A q ∧ tkS b t q < t) →
    ∃ A' N, f54_l7 119 f (zn i) A = some A' ∧ N ≤ t ∧ tkS b t N = t ∧ (∀ q, q < N → laid b t A' q ∧ tkS b t q < t) ∧ A' 119 5 = zn N ∧ (∀ o, o ≠ 119 → o ≠ 121 → o ≠ 122 → o ≠ 123 → A' o = A o) ∧ ∀ j, j ≠ 5 → A' 119 j = A 119 j
  | 0, i, cnt, A, _, h, _, _, _, _, _ => by omega
  | f + 1, i, cnt, A, hi, hf, hA, h5, hci, hsk, hq => by
    have ht := hb.1
    by_cases hit : i < t
    case neg =>
      obtain rfl : i = t := by omega
      have e : skB b i i = i := by unfold skB; exact runEnd_stop (by omega) _
      rw [f54_l7, hA.1, if_neg (by rw [zn_lt (by omega) (by omega)]; omega)]
      exact ⟨A, cnt, rfl, hci, by rw [← hsk]; exact e, hq, h5, fun _ _ _ _ _ => rfl, fun _ _ => rfl⟩
    have hx := hb.2 i hit
    rw [f54_l7, hA.1, if_pos ((zn_lt (by omega) (by omega)).mpr hit), if_pos ((zn_zin (by omega)).mpr (by omega)), zlet_e, zlet_e, zn_zi (by omega), show A (119 + 1) i = zn (b i) from hA.2 i hit, zadd1, (letter_eq hx).1, Option.bind_some]
    have blank : isBlk (b i) = true → ∃ A' N, f54_l7 119 f (zn (i + 1)) A = some A' ∧ N ≤ t ∧ tkS b t N = t ∧ (∀ q, q < N → laid b t A' q ∧ tkS b t q < t) ∧ A' 119 5 = zn N ∧ (∀ o, o ≠ 119 → o ≠ 121 → o ≠ 122 → o ≠ 123 → A' o = A o) ∧ ∀ j, j ≠ 5 → A' 119 j = A 119 j := fun hbl => toks_cls hb f (i + 1) cnt A (by omega) (by omega) hA h5 (by omega) (by rw [← hsk]; unfold skB; exact (runEnd_step hit hbl).symm) hq
    have go : ∀ kd v, isBlk (b i) = false → kd = lexKind b t i → (lexKind b t i = -2 → v = zn (lexVal b t i)) → ∃ A' N, ((f64_addToken 119 kd v (zn i) A).bind fun M11 => f54_l7 119 f (zn (lexEnd b t i)) M11) = some A' ∧ N ≤ t ∧ tkS b t N = t ∧ (∀ q, q < N → laid b t A' q ∧ tkS b t q < t) ∧ A' 119 5 = zn N ∧ (∀ o, o ≠ 119 → o ≠ 121 → o ≠ 122 → o ≠ 123 → A' o = A o) ∧ ∀ j, j ≠ 5 → A' 119 j = A 119 j := by
      intro kd v hbl hk hv
      have e : tkS b t cnt = i := by
        rw [← hsk]
        unfold skB
        exact runEnd_stop (fun hc => by rw [hbl] at hc; exact Bool.false_ne_true hc.2) _
      obtain ⟨l1, l2, l3⟩ := lexEnd_bd (b := b) hi
      have l3 := l3 hit
      obtain ⟨A1, g1, g2, g3, g4, g5⟩ := lay_tok (b := b) (t := t) (a := kd) (v := v) (s := zn i) h5 (by omega) (by unfold tkK; rw [e]; exact hk) (by unfold tkK tkV; rw [e]; exact hv) (by rw [e]) (fun q hqc => (hq q hqc).1)
      obtain ⟨A', N, k1, k2, k3, k4, k5, k6, k7⟩ := toks_cls hb f (lexEnd b t i) (cnt + 1) A1 l2 (by omega) ⟨by rw [g5 1 (by decide)]; exact hA.1, fun j hj => by rw [g4 120 (by decide) (by decide) (by decide) (by decide)]; exact hA.2 j hj⟩ g2 (by omega) (by rw [tkS, e]) (fun q hqc => ⟨g3 q hqc, by
        by_cases hqq : q = cnt
        · rw [hqq, e]; exact hit
        · exact (hq q (by omega)).2⟩)
      refine ⟨A', N, by rw [g1]; exact k1, k2, k3, k4, k5, fun o o1 o2 o3 o4 => (k6 o o1 o2 o3 o4).trans (g4 o o1 o2 o3 o4), fun j hj => (k7 j hj).trans (g5 j hj)⟩
    by_cases hl : isLet (b i) = true
    · rw [if_pos hl, if_neg (show ¬ (1 : Int32) = 0 by decide), letters_cls hb hA (t - (i + 1)) (i + 1) zfu (by omega) (by rw [zfu_eq]; omega), Option.bind_some, ← runEnd_step hit hl]
      obtain ⟨p1, p2⟩ := runEnd_bd (P := isLet) (b := b) (t := t) (t - i) i hi
      rw [word_cls hb hA p1 p2, Option.bind_some]
      have e0 : lexEnd b t i = runEnd isLet b t (t - i) i := by unfold lexEnd; rw [if_pos hit, if_pos hl]
      have e1 : lexKind b t i = kindOf b i (runEnd isLet b t (t - i) i) 24 0 := by unfold lexKind; rw [if_pos hit, if_pos hl]
      rw [← e0]
      refine go _ _ ?_ (by rw [e1, e0]) ?_
      · unfold isLet at hl
        unfold isBlk
        simp only [Bool.and_eq_true, Bool.or_eq_true, decide_eq_true_eq] at hl
        simp only [Bool.or_eq_false_iff, decide_eq_false_iff_not]
        omega
      · rw [e1]
        intro hc
        have : ∀ d k, k + d ≤ 24 → kindOf b i (runEnd isLet b t (t - i) i) d k ≠ -2 := by
          intro d
          induction d with
          | zero => intro k _; unfold kindOf; decide
          | succ d ih =>
            intro k hk
            unfold kindOf
            split
            · exact zn_ne_neg2 (by omega)
            · exact ih (k + 1) (by omega)
        exact absurd hc (this 24 0 (by omega))
    · rw [if_neg hl, if_pos rfl, (digit_eq hx).1, Option.bind_some]
      by_cases hd : isDig (b i) = true
      · rw [if_pos hd, if_neg (show ¬ (1 : Int32) = 0 by decide), digits_cls hb hA (t - (i + 1)) (i + 1) zfu (by omega) (by rw [zfu_eq]; omega), Option.bind_some, ← runEnd_step hit hd]
        obtain ⟨p1, p2⟩ := runEnd_bd (P := isDig) (b := b) (t := t) (t - i) i hi
        have e0 : lexEnd b t i = runEnd isDig b t (t - i) i := by unfold lexEnd; rw [if_pos hit, if_neg hl, if_pos hd]
        have e1 : lexKind b t i = (if 4 < runEnd isDig b t (t - i) i - i then -3 else -2) := by unfold lexKind; rw [if_pos hit, if_neg hl, if_pos hd]
        have nbl : isBlk (b i) = false := by
          unfold isDig at hd
          unfold isBlk
          simp only [Bool.and_eq_true, decide_eq_true_eq] at hd
          simp only [Bool.or_eq_false_iff, decide_eq_false_iff_not]
          omega
        rw [← e0] at p1 p2 e1 ⊢
        rw [zn_sub p1]
        by_cases h4 : 4 < lexEnd b t i - i
        · rw [if_pos h4] at e1
          obtain ⟨v, hv⟩ := num_any (M := A) p1 (show lexEnd b t i ≤ 400 by omega)
          rw [if_pos (show (4 : Int32) < zn (lexEnd b t i - i) by rw [zl4, zn_lt (by decide) (by omega)]; exact h4), Option.bind_some, hv, Option.bind_some]
          exact go _ _ nbl e1.symm (fun hc => by rw [e1] at hc; exact absurd hc (by decide))
        · rw [if_neg h4] at e1
          rw [if_neg (show ¬ (4 : Int32) < zn (lexEnd b t i - i) by rw [zl4, zn_lt (by decide) (by omega)]; exact h4), Option.bind_some, num_cls hb hA p1 p2 (by omega) (fun j j1 j2 => runEnd_all (P := isDig) (t - i) i j j1 (by rw [e0] at j2; exact j2)), Option.bind_some]
          exact go _ _ nbl e1.symm (fun _ => rfl)
      · rw [if_neg hd, if_pos rfl]
        have e0 : lexEnd b t i = i + 1 := by unfold lexEnd; rw [if_pos hit, if_neg hl, if_neg hd]
        have e1 : lexKind b t i = (if signB (b i) = true then zn (b i) else -3) := by unfold lexKind; rw [if_pos hit, if_neg hl, if_neg hd]
        by_cases h32 : b i = 32
        · rw [if_pos (show zn (b i) = 32 by rw [h32]; rfl)]
          exact blank (by rw [h32]; rfl)
        · rw [if_neg (show ¬ zn (b i) = 32 by rw [zl32, zn_eq (by omega) (by decide)]; exact h32)]
          by_cases h10 : b i = 10
          · rw [if_pos (show zn (b i) = 10 by rw [h10]; rfl)]
            exact blank (by rw [h10]; rfl)
          · rw [if_neg (show ¬ zn (b i) = 10 by rw [zl10, zn_eq (by omega) (by decide)]; exact h10), sign_kind hx, Option.bind_some, ← e0]
            refine go _ _ ?_ e1.symm (fun hc => ?_)
            · unfold isBlk
              rw [decide_eq_false h32, decide_eq_false h10]
              rfl
            · rw [e1] at hc
              split at hc
              · exact absurd hc (zn_ne_neg2 (by omega))
              · exact absurd hc (by decide)
end
section
-- ===== text: the class's reader begins =====
/-- the tokens on both sides: what text is read (a), the tape, how many people (n), the end's place (N) -/
def CX (a : Nat) (b : Nat → Nat) (t n N : Nat) (A0 B0 : ZI) : Prop := (tapB b t ∧ a ≤ 3 ∧ n ≤ 10) ∧ (N ≤ 400 ∧ tkS b t N = t ∧ ∀ q, q < N → tkS b t q < t) ∧ ((∀ q, q ≤ N → laid b t A0 q) ∧ A0 119 5 = zn (N + 1) ∧ A0 119 9 = zn n) ∧ (onB B0 b t ∧ B0 148 14 = zn a ∧ B0 149 48 = zn n)
def frA (A0 A : ZI) : Prop := (∀ o, o ≠ 119 → ¬ (124 ≤ o ∧ o ≤ 146) → A o = A0 o) ∧ ∀ j, j ≠ 6 → j ≠ 7 → j ≠ 8 → j ≠ 10 → j ≠ 11 → A 119 j = A0 119 j
def pcell (j : Nat) : Bool := decide (j ∈ [15, 16, 17, 18, 20, 21, 22, 23, 24, 25, 27, 29])
def frB (B0 B : ZI) : Prop := (∀ o, o ≠ 148 → ¬ (153 ≤ o ∧ o ≤ 157) → B o = B0 o) ∧ ∀ j, pcell j = false → B 148 j = B0 148 j
/-- both readers stand at the m-th token -/
def PS (a : Nat) (b : Nat → Nat) (t N : Nat) (A0 B0 A B : ZI) (m : Nat) : Prop := (frA A0 A ∧ frB B0 B ∧ m ≤ N) ∧ (A 119 6 = zn m ∧ A 119 7 = tkK b t m ∧ (tkK b t m = -2 → A 119 8 = zn (tkV b t m)) ∧ A 119 10 = 0 ∧ A 119 11 = -1) ∧ (B 148 22 = zn (tkS b t m) ∧ B 148 20 = zn (lexEnd b t (tkS b t m)) ∧ B 148 21 = tkT a b t m ∧ (tkK b t m = -2 → B 148 23 = zn (tkV b t m)))
/-- both have refused -/
def Bad (A0 B0 A B : ZI) : Prop := frA A0 A ∧ frB B0 B ∧ A 119 10 = B 148 24 ∧ A 119 11 = B 148 25
theorem fwd_cls {A : ZI} {m N : Nat} (h6 : A 119 6 + 1 = zn m) (h5 : A 119 5 = zn (N + 1)) (hm : m ≤ N) (hN : N ≤ 400) : f68_forward 119 A = some (zs (zs (zs A 119 6 (zn m)) 119 7 (A 121 m)) 119 8 (A 122 m)) := by
  unfold f68_forward
  have e1 : (zs A 119 6 (zn m)) 119 6 = zn m := by rw [zs_sm, if_pos rfl]
  have hz : zin (zn m) 401 = true := (zn_zin (by omega)).mpr (by omega)
  rw [h6, h5, if_pos ((zn_lt (by omega) (by omega)).mpr (by omega)), zlet_e, e1, if_pos hz, zn_zi (by omega), zlet_e, show (zs A 119 6 (zn m)) (119 + 2) m = A 121 m from by rw [zs_df (by decide)]]
  have e2 : (zs (zs A 119 6 (zn m)) 119 7 (A 121 m)) 119 6 = zn m := by rw [zs_sm, if_neg (by decide)]; exact e1
  rw [e2, if_pos hz, zn_zi (by omega), zlet_e, show (zs (zs A 119 6 (zn m)) 119 7 (A 121 m)) (119 + 3) m = A 122 m from by rw [zs_df (by decide), zs_df (by decide)]]
theorem lex_fact {b : Nat → Nat} {t s : Nat} (hb : tapB b t) : (lexKind b t s = -2 → s < t ∧ isDig (b s) = true ∧ ∀ a, lexTok a b t s = 2) := by
  intro h
  unfold lexKind at h
  by_cases hs : s < t
  · rw [if_pos hs] at h
    by_cases hl : isLet (b s) = true
    · rw [if_pos hl] at h
      have : ∀ d k, k + d ≤ 24 → kindOf b s (runEnd isLet b t (t - s) s) d k ≠ -2 := by
        intro d
        induction d with
        | zero => intro k _; unfold kindOf; decide
        | succ d ih =>
          intro k hk
          unfold kindOf
          split
          · exact zn_ne_neg2 (by omega)
          · exact ih (k + 1) (by omega)
      exact absurd h (this 24 0 (by omega))
    · rw [if_neg hl] at h
      by_cases hd : isDig (b s) = true
      · rw [if_pos hd] at h
        refine ⟨hs, hd, fun a => ?_⟩
        unfold lexTok
        rw [if_pos hs, if_neg hl, if_pos hd]
        by_cases h4 : 4 < runEnd isDig b t (t - s) s - s
        · rw [if_pos h4] at h
          exact absurd h (by decide)
        · rw [if_pos (by omega)]
      · rw [if_neg hd] at h
        have := hb.2 s hs
        split at h
        · exact absurd h (zn_ne_neg2 (by omega))
        · exact absurd h (by decide)
  · rw [if_neg hs] at h
    exact absurd h (by decide)
theorem frB_on {B0 B : ZI} {b : Nat → Nat} {t : Nat} (h : frB B0 B) (g : onB B0 b t) : onB B b t := ⟨by rw [h.2 19 rfl]; exact g.1, fun j hj => by rw [h.1 158 (by decide) (by omega)]; exact g.2 j hj⟩
theorem next_at {a : Nat} {b : Nat → Nat} {t i q : Nat} {B : ZI} (hb : tapB b t) (hB : onB B b t) (h14 : B 148 14 = zn a) (ha : a ≤ 3) (h20 : B 148 20 = zn i) (hi : i ≤ t) (hq : skB b t i = tkS b t q) : ∃ B', f157_next0 B = some B' ∧ (B' 148 22 = zn (tkS b t q) ∧ B' 148 20 = zn (lexEnd b t (tkS b t q)) ∧ B' 148 21 = tkT a b t q ∧ (tkK b t q = -2 → B' 148 23 = zn (tkV b t q))) ∧ (∀ o, o ≠ 148 → B' o = B o) ∧ ∀ j, j ≠ 20 → j ≠ 21 → j ≠ 22 → j ≠ 23 → B' 148 j = B 148 j := by
  obtain ⟨B', e1, e2, e3, e4, e5, e6, e7⟩ := next_ref hb hB h14 ha h20 hi
  rw [show runEnd isBlk b t (t - i) i = tkS b t q from hq] at e2 e3 e4 e5
  refine ⟨B', e1, ⟨e2, e3, e4, fun hk => ?_⟩, e6, e7⟩
  obtain ⟨k1, k2, k3⟩ := lex_fact (s := tkS b t q) hb hk
  exact e5 (k3 a) k1 k2
/-- both go on to the next token -/
theorem fwd {a : Nat} {b : Nat → Nat} {t n N m : Nat} {A0 B0 A B : ZI} (hC : CX a b t n N A0 B0) (h : PS a b t N A0 B0 A B m) (hm : m < N) :
    ∃ A' B', f68_forward 119 A = some A' ∧ f157_next0 B = some B' ∧ PS a b t N A0 B0 A' B' (m + 1) ∧ (∀ o, o ≠ 119 → A' o = A o) ∧ (∀ o, o ≠ 148 → B' o = B o) ∧ ∀ j, j ≠ 20 → j ≠ 21 → j ≠ 22 → j ≠ 23 → B' 148 j = B 148 j := by
  obtain ⟨⟨c1, c2, c3⟩, ⟨c4, c5, c6⟩, ⟨c7, c8, c9⟩, c10, c11, c12⟩ := hC
  obtain ⟨⟨p1, p2, p3⟩, ⟨p4, p5, p6, p6a, p6b⟩, p7, p8, p9, p10⟩ := h
  obtain ⟨B', e1, e2, e3, e4⟩ := next_at (q := m + 1) c1 (frB_on p2 c10) ((p2.2 14 rfl).trans c11) c2 p8 (lexEnd_bd (tkS_le m)).2.1 rfl
  have l := c7 (m + 1) (by omega)
  unfold laid at l
  rw [← p1.1 121 (by decide) (by omega), ← p1.1 122 (by decide) (by omega)] at l
  refine ⟨_, B', fwd_cls (m := m + 1) (by rw [p4, zadd1]) ((p1.2 5 (by decide) (by decide) (by decide) (by decide) (by decide)).trans c8) (by omega) c4, e1, ⟨⟨?_, ?_, by omega⟩, ⟨?_, ?_, ?_, ?_, ?_⟩, e2⟩, fun o ho => by rw [zs_df ho, zs_df ho, zs_df ho], e3, e4⟩
  · exact ⟨fun o o1 o2 => by rw [zs_df o1, zs_df o1, zs_df o1]; exact p1.1 o o1 o2, fun j j1 j2 j3 j4 j5 => by rw [zs_sm, if_neg j3, zs_sm, if_neg j2, zs_sm, if_neg j1]; exact p1.2 j j1 j2 j3 j4 j5⟩
  · exact ⟨fun o o1 o2 => (e3 o o1).trans (p2.1 o o1 o2), fun j hj => (e4 j (by rintro rfl; exact absurd hj (by decide)) (by rintro rfl; exact absurd hj (by decide)) (by rintro rfl; exact absurd hj (by decide)) (by rintro rfl; exact absurd hj (by decide))).trans (p2.2 j hj)⟩
  · rw [zs_sm, if_neg (by decide), zs_sm, if_neg (by decide), zs_sm, if_pos rfl]
  · rw [zs_sm, if_neg (by decide), zs_sm, if_pos rfl]
    exact l.1
  · rw [zs_sm, if_pos rfl]
    exact l.2.1
  · rw [zs_sm, if_neg (by decide), zs_sm, if_neg (by decide), zs_sm, if_neg (by decide)]; exact p6a
  · rw [zs_sm, if_neg (by decide), zs_sm, if_neg (by decide), zs_sm, if_neg (by decide)]; exact p6b
/-- both refuse at the token where they stand -/
theorem rfz {a : Nat} {b : Nat → Nat} {t n N m : Nat} {A0 B0 A B : ZI} (hC : CX a b t n N A0 B0) (h : PS a b t N A0 B0 A B m) (x : Int32) :
    ∃ A' B', f70_refuse 119 x A = some (0, A') ∧ f170_bad x B = some (0, B') ∧ Bad A0 B0 A' B' := by
  obtain ⟨⟨c1, c2, c3⟩, ⟨c4, c5, c6⟩, ⟨c7, c8, c9⟩, c10, c11, c12⟩ := hC
  obtain ⟨⟨p1, p2, p3⟩, ⟨p4, p5, p6, p6a, p6b⟩, p7, p8, p9, p10⟩ := h
  have l := (c7 m (by omega)).2.2
  rw [← p1.1 123 (by decide) (by omega)] at l
  refine ⟨zs (zs A 119 10 x) 119 11 (zn (tkS b t m)), zs (zs B 148 24 x) 148 25 (zn (tkS b t m)), ?_, ?_, ⟨?_, ?_, ?_, ?_⟩⟩
  · unfold f70_refuse
    have e1 : (zs A 119 10 x) 119 6 = zn m := by rw [zs_sm, if_neg (by decide)]; exact p4
    rw [zlet_e, e1, if_pos ((zn_zin (by omega)).mpr (by omega)), zn_zi (by omega), show (zs A 119 10 x) (119 + 4) m = zn (tkS b t m) from by rw [zs_df (by decide)]; exact l]
    rfl
  · unfold f170_bad
    have e1 : (zs B 148 24 x) 148 22 = zn (tkS b t m) := by rw [zs_sm, if_neg (by decide)]; exact p7
    rw [zlet_e, e1]
    rfl
  · exact ⟨fun o o1 o2 => by rw [zs_df o1, zs_df o1]; exact p1.1 o o1 o2, fun j j1 j2 j3 j4 j5 => by rw [zs_sm, if_neg j5, zs_sm, if_neg j4]; exact p1.2 j j1 j2 j3 j4 j5⟩
  · exact ⟨fun o o1 o2 => by rw [zs_df o1, zs_df o1]; exact p2.1 o o1 o2, fun j hj => by rw [zs_sm, if_neg (by rintro rfl; exact absurd hj (by decide)), zs_sm, if_neg (by rintro rfl; exact absurd hj (by decide))]; exact p2.2 j hj⟩
  · rw [zs_sm, if_neg (by decide), zs_sm, if_pos rfl, zs_sm, if_neg (by decide), zs_sm, if_pos rfl]
  · rw [zs_sm, if_pos rfl, zs_sm, if_pos rfl]
end
section
theorem begin_cls {b : Nat → Nat} {t : Nat} {A : ZI} (hb : tapB b t) (hA : onA A b t) (v : Int32) :
    ∃ A1 N, f53_begin 119 v A = some A1 ∧ (N ≤ 400 ∧ tkS b t N = t ∧ ∀ q, q < N → tkS b t q < t) ∧ ((∀ q, q ≤ N → laid b t A1 q) ∧ A1 119 5 = zn (N + 1) ∧ A1 119 9 = v) ∧ (A1 119 6 = zn 0 ∧ A1 119 7 = tkK b t 0 ∧ (tkK b t 0 = -2 → A1 119 8 = zn (tkV b t 0)) ∧ A1 119 10 = 0 ∧ A1 119 11 = -1) ∧ A1 119 1 = 0 ∧ ∀ o, o ≠ 119 → o ≠ 121 → o ≠ 122 → o ≠ 123 → A1 o = A o := by
  have ht := hb.1
  have k1 : ∀ M : ZI, M = zs (zs (zs (zs A 119 9 v) 119 10 0) 119 11 (-1)) 119 5 0 → ∃ A1 N, ((f54_l7 119 zfu (0 : Int32) M).bind fun M23 => (f64_addToken 119 (-1 : Int32) (0 : Int32) (M23 119 1) M23).bind fun M27 => some M27) = some A1 ∧ (N ≤ 400 ∧ tkS b t N = t ∧ ∀ q, q < N → tkS b t q < t) ∧ (∀ q, q ≤ N → laid b t A1 q) ∧ A1 119 5 = zn (N + 1) ∧ (∀ o, o ≠ 119 → o ≠ 121 → o ≠ 122 → o ≠ 123 → A1 o = M o) ∧ ∀ j, j ≠ 5 → A1 119 j = M 119 j := by
    intro M hM
    have m5 : M 119 5 = zn 0 := by rw [hM, zs_sm, if_pos rfl]; rfl
    have mA : onA M b t := ⟨by rw [hM, zs_sm, if_neg (by decide), zs_sm, if_neg (by decide), zs_sm, if_neg (by decide), zs_sm, if_neg (by decide)]; exact hA.1, fun j hj => by rw [hM, zs_df (by decide), zs_df (by decide), zs_df (by decide), zs_df (by decide)]; exact hA.2 j hj⟩
    obtain ⟨M23, N, g1, g2, g3, g4, g5, g6, g7⟩ := toks_cls hb zfu 0 0 M (Nat.zero_le _) (by rw [zfu_eq]; omega) mA m5 (Nat.le_refl _) rfl (fun q hq => by omega)
    have g1 : f54_l7 119 zfu (0 : Int32) M = some M23 := g1
    obtain ⟨A1, e1, e2, e3, e4, e5⟩ := lay_tok (b := b) (t := t) (a := -1) (v := 0) (s := M23 119 1) g5 (by omega) (by
      unfold tkK
      rw [g3]
      unfold lexKind
      rw [if_neg (Nat.lt_irrefl t)]) (by
      unfold tkK
      rw [g3]
      unfold lexKind
      rw [if_neg (Nat.lt_irrefl t)]
      intro hc
      exact absurd hc (by decide)) (by rw [g3, g7 1 (by decide)]; exact mA.1) (fun q hq => (g4 q hq).1)
    refine ⟨A1, N, ?_, ⟨by omega, g3, fun q hq => (g4 q hq).2⟩, fun q hq => e3 q (by omega), e2, fun o o1 o2 o3 o4 => (e4 o o1 o2 o3 o4).trans (g6 o o1 o2 o3 o4), fun j hj => (e5 j hj).trans (g7 j hj)⟩
    rw [g1, Option.bind_some, e1, Option.bind_some]
  obtain ⟨M4, N, e1, e2, e3, e4, e5, e6⟩ := k1 _ rfl
  have q9 : M4 119 9 = v := by rw [e6 9 (by decide), zs_sm, if_neg (by decide), zs_sm, if_neg (by decide), zs_sm, if_neg (by decide), zs_sm, if_pos rfl]
  have q10 : M4 119 10 = 0 := by rw [e6 10 (by decide), zs_sm, if_neg (by decide), zs_sm, if_neg (by decide), zs_sm, if_pos rfl]
  have q11 : M4 119 11 = -1 := by rw [e6 11 (by decide), zs_sm, if_neg (by decide), zs_sm, if_pos rfl]
  have e7 : f54_findTokens 119 (zs (zs (zs A 119 9 v) 119 10 0) 119 11 (-1)) = some M4 := by
    unfold f54_findTokens
    rw [zlet_e]
    exact e1
  have hf := fwd_cls (A := zs (zs M4 119 1 0) 119 6 (-1)) (m := 0) (N := N) (by rw [zs_sm, if_pos rfl]; rfl) (by rw [zs_sm, if_neg (by decide), zs_sm, if_neg (by decide)]; exact e4) (by omega) e2.1
  have l0 := e3 0 (by omega)
  have hbe : f53_begin 119 v A = some (zs (zs (zs (zs (zs M4 119 1 0) 119 6 (-1)) 119 6 (zn 0)) 119 7 ((zs (zs M4 119 1 0) 119 6 (-1)) 121 0)) 119 8 ((zs (zs M4 119 1 0) 119 6 (-1)) 122 0)) := by
    unfold f53_begin
    rw [zlet_e, zlet_e, zlet_e, e7, Option.bind_some, zlet_e, zlet_e, hf, Option.bind_some]
  refine ⟨_, N, hbe, e2, ⟨fun q hq => laid_of (e3 q hq) ⟨?_, ?_, ?_⟩, ?_, ?_⟩, ⟨?_, ?_, ?_, ?_, ?_⟩, ?_, fun o o1 o2 o3 o4 => ?_⟩
  rotate_left 11
  · rw [zs_df o1, zs_df o1, zs_df o1, zs_df o1, zs_df o1, e5 o o1 o2 o3 o4, zs_df o1, zs_df o1, zs_df o1, zs_df o1]
  · rw [zs_df (by decide), zs_df (by decide), zs_df (by decide), zs_df (by decide), zs_df (by decide)]
  · rw [zs_df (by decide), zs_df (by decide), zs_df (by decide), zs_df (by decide), zs_df (by decide)]
  · rw [zs_df (by decide), zs_df (by decide), zs_df (by decide), zs_df (by decide), zs_df (by decide)]
  · rw [zs_sm, if_neg (by decide), zs_sm, if_neg (by decide), zs_sm, if_neg (by decide), zs_sm, if_neg (by decide), zs_sm, if_neg (by decide)]; exact e4
  · rw [zs_sm, if_neg (by decide), zs_sm, if_neg (by decide), zs_sm, if_neg (by decide), zs_sm, if_neg (by decide), zs_sm, if_neg (by decide)]; exact q9
  · rw [zs_sm, if_neg (by decide), zs_sm, if_neg (by decide), zs_sm, if_pos rfl]
  · rw [zs_sm, if_neg (by decide), zs_sm, if_pos rfl, zs_df (by decide), zs_df (by decide)]; exact l0.1
  · rw [zs_sm, if_pos rfl, zs_df (by decide), zs_df (by decide)]; exact l0.2.1
  · rw [zs_sm, if_neg (by decide), zs_sm, if_neg (by decide), zs_sm, if_neg (by decide), zs_sm, if_neg (by decide), zs_sm, if_neg (by decide)]; exact q10
  · rw [zs_sm, if_neg (by decide), zs_sm, if_neg (by decide), zs_sm, if_neg (by decide), zs_sm, if_neg (by decide), zs_sm, if_neg (by decide)]; exact q11
  · rw [zs_sm, if_neg (by decide), zs_sm, if_neg (by decide), zs_sm, if_neg (by decide), zs_sm, if_neg (by decide), zs_sm, if_pos rfl]
-- the class's kind against the reference's token
def wordOf (a q : Nat) : Int32 := wordTok a (fun k => k == sk q)
def pairs (a : Nat) : List (Int32 × Int32) := [(-1, 0), (-2, 2), (-3, 1)] ++ ([40, 41, 42, 43, 45, 47, 59, 60, 61, 62].map fun c => (zn c, 100 + zn c)) ++ (List.range 24).map fun q => (zn (256 + q), wordOf a q)
theorem wordTok_congr {a : Nat} {w w' : Nat → Bool} (h : ∀ k, 0 < k → k ≤ 24 → w k = w' k) : wordTok a w = wordTok a w' := by
  simp only [wordTok, lawTok, askTok, workTok, councilTok, h 1 (by decide) (by decide), h 2 (by decide) (by decide), h 3 (by decide) (by decide), h 4 (by decide) (by decide), h 5 (by decide) (by decide), h 6 (by decide) (by decide), h 7 (by decide) (by decide), h 8 (by decide) (by decide), h 9 (by decide) (by decide), h 10 (by decide) (by decide), h 11 (by decide) (by decide), h 12 (by decide) (by decide), h 13 (by decide) (by decide), h 14 (by decide) (by decide), h 15 (by decide) (by decide), h 16 (by decide) (by decide), h 17 (by decide) (by decide), h 18 (by decide) (by decide), h 19 (by decide) (by decide), h 20 (by decide) (by decide), h 21 (by decide) (by decide), h 22 (by decide) (by decide), h 23 (by decide) (by decide), h 24 (by decide) (by decide)]
theorem sk_all : ∀ k : Fin 25, 0 < k.val → (List.range 24).any (fun q => sk q == k.val) = true := by decide +kernel
theorem word_pair {a : Nat} {b : Nat → Nat} {s e : Nat} : (kindOf b s e 24 0, wordTok a (fun k => wMatch b s e k)) ∈ pairs a := by
  unfold pairs
  by_cases hc : ∃ q, q < 24 ∧ wMatch b s e (sk q) = true
  · obtain ⟨q, hq, hm⟩ := hc
    obtain ⟨o1, o2, -⟩ := off_fact ⟨q, hq⟩
    rw [kind_at 24 0 rfl q (Nat.zero_le _) hq hm, wordTok_congr (w' := fun k => k == sk q) (fun k k1 k2 => by
      show wMatch b s e k = (k == sk q)
      by_cases hkq : k = sk q
      · rw [hkq, hm]
        exact (beq_self_eq_true _).symm
      · rw [Bool.eq_iff_iff]
        constructor
        · intro h
          exact absurd (one_word k1 k2 o1 o2 h hm) hkq
        · intro h
          exact absurd (eq_of_beq h) hkq)]
    exact List.mem_append_right _ (List.mem_map.mpr ⟨q, List.mem_range.mpr hq, rfl⟩)
  · have hn : ∀ q, q < 24 → wMatch b s e (sk q) = false := fun q hq => by
      cases hw : wMatch b s e (sk q) with
      | false => rfl
      | true => exact absurd ⟨q, hq, hw⟩ hc
    rw [kind_none 24 0 rfl (fun q _ hq => hn q hq), wordTok_congr (w' := fun _ => false) (fun k k1 k2 => by
      show wMatch b s e k = false
      obtain ⟨q, hq, e⟩ := List.any_eq_true.mp (sk_all ⟨k, by omega⟩ k1)
      have := hn q (List.mem_range.mp hq)
      rw [eq_of_beq e] at this
      exact this)]
    refine List.mem_append_left _ (List.mem_append_left _ ?_)
    have : wordTok a (fun _ => false) = 1 := by
      have h4 : a = 0 ∨ a = 1 ∨ a = 2 ∨ (a ≠ 0 ∧ a ≠ 1 ∧ a ≠ 2) := by omega
      rcases h4 with rfl | rfl | rfl | ⟨h1, h2, h3⟩
      · rfl
      · rfl
      · rfl
      · unfold wordTok
        rw [if_neg h1, if_neg h2, if_neg h3]
        rfl
    rw [this]
    exact List.mem_cons_of_mem _ (List.mem_cons_of_mem _ (List.mem_cons_self ..))
theorem sign_pair {x : Nat} (h : signB x = true) : x ∈ [40, 41, 42, 43, 45, 47, 59, 60, 61, 62] := by
  unfold signB at h
  simp only [Bool.or_eq_true, decide_eq_true_eq] at h
  rcases h with ((((((((h | h) | h) | h) | h) | h) | h) | h) | h) | h <;> rw [h] <;> decide
theorem tk_pair {a : Nat} {b : Nat → Nat} {t : Nat} (m : Nat) : (tkK b t m, tkT a b t m) ∈ pairs a := by
  unfold tkK tkT
  generalize tkS b t m = s
  have three : ∀ {x : Int32 × Int32}, x ∈ [((-1 : Int32), (0 : Int32)), (-2, 2), (-3, 1)] → x ∈ pairs a := fun h => by
    unfold pairs
    exact List.mem_append_left _ (List.mem_append_left _ h)
  by_cases hs : s < t
  · by_cases hl : isLet (b s) = true
    · rw [show lexKind b t s = kindOf b s (runEnd isLet b t (t - s) s) 24 0 by unfold lexKind; rw [if_pos hs, if_pos hl], show lexTok a b t s = wordTok a (fun k => wMatch b s (runEnd isLet b t (t - s) s) k) by unfold lexTok; rw [if_pos hs, if_pos hl]]
      exact word_pair
    · by_cases hd : isDig (b s) = true
      · rw [show lexKind b t s = (if 4 < runEnd isDig b t (t - s) s - s then -3 else -2) by unfold lexKind; rw [if_pos hs, if_neg hl, if_pos hd], show lexTok a b t s = (if runEnd isDig b t (t - s) s - s < 5 then 2 else 1) by unfold lexTok; rw [if_pos hs, if_neg hl, if_pos hd]]
        by_cases h4 : 4 < runEnd isDig b t (t - s) s - s
        · rw [if_pos h4, if_neg (by omega)]
          exact three (by decide)
        · rw [if_neg h4, if_pos (by omega)]
          exact three (by decide)
      · rw [show lexKind b t s = (if signB (b s) = true then zn (b s) else -3) by unfold lexKind; rw [if_pos hs, if_neg hl, if_neg hd], show lexTok a b t s = (if signB (b s) = true then 100 + zn (b s) else 1) by unfold lexTok; rw [if_pos hs, if_neg hl, if_neg hd]]
        by_cases hg : signB (b s) = true
        · rw [if_pos hg, if_pos hg]
          unfold pairs
          exact List.mem_append_left _ (List.mem_append_right _ (List.mem_map.mpr ⟨b s, sign_pair hg, rfl⟩))
        · rw [if_neg hg, if_neg hg]
          exact three (by decide)
  · rw [show lexKind b t s = -1 by unfold lexKind; rw [if_neg hs], show lexTok a b t s = 0 by unfold lexTok; rw [if_neg hs]]
    exact three (by decide)
/-- what holds of every pair holds of the token -/
theorem tk_on {a : Nat} {p : Int32 × Int32 → Bool} (hp : (pairs a).all p = true) (b : Nat → Nat) (t m : Nat) : p (tkK b t m, tkT a b t m) = true := List.all_eq_true.mp hp _ (tk_pair m)
theorem tk_end {a : Nat} {b : Nat → Nat} {t n N m : Nat} {A0 B0 A B : ZI} (hC : CX a b t n N A0 B0) (h : PS a b t N A0 B0 A B m) : (m = N → tkK b t m = -1) ∧ (tkK b t m ≠ -1 → m < N) := by
  have e : m = N → tkK b t m = -1 := by
    rintro rfl
    unfold tkK
    rw [hC.2.1.2.1]
    unfold lexKind
    rw [if_neg (Nat.lt_irrefl t)]
  refine ⟨e, fun h1 => ?_⟩
  have := h.1.2.2
  by_cases hm : m = N
  · exact absurd (e hm) h1
  · omega
end
section
-- ===== text: two parsers in step =====
def Both (A0 B0 : ZI) (x y : Option (Int32 × ZI)) (Q : ZI → ZI → Prop) : Prop := (∃ A' B', x = some (0, A') ∧ y = some (0, B') ∧ Bad A0 B0 A' B') ∨ ∃ A' B', x = some (1, A') ∧ y = some (1, B') ∧ Q A' B'
theorem both_bind {A0 B0 : ZI} {x y : Option (Int32 × ZI)} {k l : Int32 × ZI → Option (Int32 × ZI)} {Q R : ZI → ZI → Prop} (h : Both A0 B0 x y Q) (k0 : ∀ A', k (0, A') = some (0, A')) (l0 : ∀ B', l (0, B') = some (0, B')) (h1 : ∀ A' B', Q A' B' → Both A0 B0 (k (1, A')) (l (1, B')) R) : Both A0 B0 (x.bind k) (y.bind l) R := by
  rcases h with ⟨A', B', rfl, rfl, hb⟩ | ⟨A', B', rfl, rfl, hq⟩
  · exact Or.inl ⟨A', B', k0 A', l0 B', hb⟩
  · exact h1 A' B' hq
theorem both_mono {A0 B0 : ZI} {x y : Option (Int32 × ZI)} {Q R : ZI → ZI → Prop} (h : Both A0 B0 x y Q) (g : ∀ A' B', Q A' B' → R A' B') : Both A0 B0 x y R := by
  rcases h with h | ⟨A', B', e1, e2, hq⟩
  · exact Or.inl h
  · exact Or.inr ⟨A', B', e1, e2, g _ _ hq⟩
theorem both_rfz {a : Nat} {b : Nat → Nat} {t n N m : Nat} {A0 B0 A B : ZI} {Q : ZI → ZI → Prop} {k l : Int32 × ZI → Option (Int32 × ZI)} (hC : CX a b t n N A0 B0) (h : PS a b t N A0 B0 A B m) (x : Int32) (k0 : ∀ A', k (0, A') = some (0, A')) (l0 : ∀ B', l (0, B') = some (0, B')) : Both A0 B0 ((f70_refuse 119 x A).bind k) ((f170_bad x B).bind l) Q := by
  obtain ⟨A', B', e1, e2, e3⟩ := rfz hC h x
  exact Or.inl ⟨A', B', by rw [e1]; exact k0 A', by rw [e2]; exact l0 B', e3⟩
def qcell (j : Nat) : Bool := decide (j ∈ [15, 16, 17, 18, 24, 25, 27, 29])
theorem PS_of {a : Nat} {b : Nat → Nat} {t N m : Nat} {A0 B0 A B A' B' : ZI} (h : PS a b t N A0 B0 A B m) (g1 : ∀ o, ¬ (124 ≤ o ∧ o ≤ 146) → A' o = A o) (g2 : ∀ o, o ≠ 148 → ¬ (153 ≤ o ∧ o ≤ 157) → B' o = B o) (g3 : ∀ j, qcell j = false → B' 148 j = B 148 j) : PS a b t N A0 B0 A' B' m := by
  obtain ⟨⟨p1, p2, p3⟩, ⟨p4, p5, p6, p6a, p6b⟩, p7, p8, p9, p10⟩ := h
  have e : A' 119 = A 119 := g1 119 (by omega)
  unfold PS
  rw [e, g3 22 rfl, g3 20 rfl, g3 21 rfl, g3 23 rfl]
  refine ⟨⟨⟨fun o o1 o2 => (g1 o o2).trans (p1.1 o o1 o2), fun j j1 j2 j3 j4 j5 => by rw [e]; exact p1.2 j j1 j2 j3 j4 j5⟩, ⟨fun o o1 o2 => (g2 o o1 o2).trans (p2.1 o o1 o2), fun j hj => (g3 j ?_).trans (p2.2 j hj)⟩, p3⟩, ⟨p4, p5, p6, p6a, p6b⟩, p7, p8, p9, p10⟩
  unfold pcell at hj
  unfold qcell
  simp only [List.mem_cons, List.not_mem_nil, or_false, decide_eq_false_iff_not, not_or] at hj ⊢
  omega
-- runs of steps
theorem sRun_add {F w : Nat → Int32} : ∀ k1 k2 i st, sRun F w (k1 + k2) i st = (sRun F w k1 i st).bind (sRun F w k2 (i + k1))
  | 0, k2, i, st => by rw [Nat.zero_add]; rfl
  | k1 + 1, k2, i, st => by
    rw [show k1 + 1 + k2 = (k1 + k2) + 1 by omega, sRun, sRun]
    cases sStep F (w (1244 + 2 * i)) (w (1245 + 2 * i)) st with
    | none => rfl
    | some s => rw [Option.bind_some, Option.bind_some, sRun_add k1 k2 (i + 1) s, show i + 1 + k1 = i + (k1 + 1) by omega]
theorem sRun_cong {F w w' : Nat → Int32} (k : Nat) : ∀ i st, (∀ j, i ≤ j → j < i + k → w (1244 + 2 * j) = w' (1244 + 2 * j) ∧ w (1245 + 2 * j) = w' (1245 + 2 * j)) → sRun F w k i st = sRun F w' k i st := by
  induction k with
  | zero => intro i st h; rfl
  | succ k ih =>
    intro i st h
    have h12 := h i (Nat.le_refl _) (Nat.lt_add_of_pos_right (Nat.succ_pos k))
    have hr : ∀ s, sRun F w k (i + 1) s = sRun F w' k (i + 1) s := fun s => ih (i + 1) s (fun j j1 j2 => h j (Nat.le_of_succ_le j1) (by rw [show i + (k + 1) = i + 1 + k by omega]; exact j2))
    unfold sRun
    rw [h12.1, h12.2]
    congr 1
    funext s
    exact hr s
/-- the reference's draft of steps, as a row -/
def dft (B : ZI) : Nat → Int32 := fun i => B 154 (i - 1244)
theorem dft_0 (B : ZI) (j : Nat) : dft B (1244 + 2 * j) = B 154 (2 * j) := by
  unfold dft
  rw [show 1244 + 2 * j - 1244 = 2 * j by omega]
theorem dft_1 (B : ZI) (j : Nat) : dft B (1245 + 2 * j) = B 154 (2 * j + 1) := by
  unfold dft
  rw [show 1245 + 2 * j - 1244 = 2 * j + 1 by omega]
/-- the steps from c to c' put one value upon the stack, with room for h -/
def pushes (B : ZI) (c c' h : Nat) (P : Int32 → Prop) : Prop := c ≤ c' ∧ ∀ F st, st.length + h ≤ 64 → ∃ x, P x ∧ sRun F (dft B) (c' - c) c st = some (x :: st)
def anyV : Int32 → Prop := fun _ => True
def bitV : Int32 → Prop := fun x => x = 0 ∨ x = 1
theorem pushes_keep {B B' : ZI} {c c' h : Nat} {P : Int32 → Prop} (hp : pushes B c c' h P) (g : ∀ j, j < 2 * c' → B' 154 j = B 154 j) : pushes B' c c' h P := by
  obtain ⟨h1, h2⟩ := hp
  refine ⟨h1, fun F st hl => ?_⟩
  obtain ⟨x, hx, e⟩ := h2 F st hl
  refine ⟨x, hx, ?_⟩
  rw [← e]
  exact sRun_cong _ _ _ (fun j j1 j2 => by rw [dft_0, dft_0, dft_1, dft_1]; exact ⟨g _ (by omega), g _ (by omega)⟩)
theorem pushes_mono {B : ZI} {c c' h h' : Nat} {P : Int32 → Prop} (hp : pushes B c c' h P) (g : h ≤ h') : pushes B c c' h' P := ⟨hp.1, fun F st hl => hp.2 F st (by omega)⟩
theorem pushes_any {B : ZI} {c c' h : Nat} {P : Int32 → Prop} (hp : pushes B c c' h P) : pushes B c c' h anyV := ⟨hp.1, fun F st hl => by
  obtain ⟨x, -, e⟩ := hp.2 F st hl
  exact ⟨x, trivial, e⟩⟩
theorem pushes_unit {B : ZI} {c : Nat} (h : B 154 (2 * c) = 0 ∨ ∃ j, j < 9 ∧ B 154 (2 * c) = zn (j + 1)) : pushes B c (c + 1) 1 anyV := by
  refine ⟨by omega, fun F st hl => ?_⟩
  rw [show c + 1 - c = 0 + 1 by omega, sRun, dft_0, dft_1]
  unfold sStep
  rcases h with h | ⟨j, hj, h⟩
  · rw [h, if_pos (show (0 : Int32) < 23 by decide), if_pos (by omega), if_pos rfl]
    exact ⟨_, trivial, rfl⟩
  · rw [h, if_pos (show zn (j + 1) < 23 by rw [zl23, zn_lt (by omega) (by decide)]; omega), if_pos (by omega), if_neg (show ¬ zn (j + 1) = 0 by rw [zl0, zn_eq (by omega) (by decide)]; omega), if_pos ((zn_zin (by omega)).mpr (by omega))]
    exact ⟨_, trivial, rfl⟩
theorem pushes_snoc {B : ZI} {c c1 h : Nat} {P R : Int32 → Prop} (hp : pushes B c c1 h P) (g : ∀ F x st, P x → ∃ z, R z ∧ sStep F (B 154 (2 * c1)) (B 154 (2 * c1 + 1)) (x :: st) = some (z :: st)) : pushes B c (c1 + 1) h R := by
  obtain ⟨h1, h2⟩ := hp
  refine ⟨by omega, fun F st hl => ?_⟩
  obtain ⟨x, hx, e⟩ := h2 F st hl
  obtain ⟨z, hz, e2⟩ := g F x st hx
  refine ⟨z, hz, ?_⟩
  rw [show c1 + 1 - c = (c1 - c) + (0 + 1) by omega, sRun_add, e, Option.bind_some, show c + (c1 - c) = c1 by omega, sRun, dft_0, dft_1, e2]
  rfl
theorem pushes_div {B : ZI} {c c1 h : Nat} (hp : pushes B c c1 h anyV) (h1 : B 154 (2 * c1) = 26) (h2 : B 154 (2 * c1 + 1) ≠ 0) : pushes B c (c1 + 1) h anyV := pushes_snoc hp (fun F x st _ => by
  unfold sStep
  rw [h1, if_neg (show ¬ (26 : Int32) < 23 by decide)]
  dsimp only
  rw [if_pos rfl, if_neg h2]
  exact ⟨_, trivial, rfl⟩)
theorem pushes_not {B : ZI} {c c1 h : Nat} (hp : pushes B c c1 h bitV) (h1 : B 154 (2 * c1) = 30) : pushes B c (c1 + 1) h bitV := pushes_snoc hp (fun F x st hx => by
  unfold sStep
  rw [h1, if_neg (show ¬ (30 : Int32) < 23 by decide)]
  dsimp only
  rw [if_neg (show ¬ (30 : Int32) = 26 by decide), if_pos rfl]
  refine ⟨_, ?_, rfl⟩
  rcases hx with rfl | rfl
  · exact Or.inr (by decide)
  · exact Or.inl (by decide))
theorem pushes_two {B : ZI} {c c1 c2 h1 h2 h : Nat} {P Q R : Int32 → Prop} (hp : pushes B c c1 h1 P) (hq : pushes B c1 c2 h2 Q) (g1 : h1 ≤ h) (g2 : h2 + 1 ≤ h) (s : Int32) (hs : B 154 (2 * c2) = s) (hs1 : ¬ s < 23 ∧ s ≠ 26 ∧ s ≠ 30) (hb : ∀ x y, P x → Q y → ∃ z, R z ∧ f212_both s x y = some z) : pushes B c (c2 + 1) h R := by
  obtain ⟨p1, p2⟩ := hp
  obtain ⟨q1, q2⟩ := hq
  refine ⟨by omega, fun F st hl => ?_⟩
  obtain ⟨x, hx, e1⟩ := p2 F st (by omega)
  obtain ⟨y, hy, e2⟩ := q2 F (x :: st) (by simp only [List.length_cons]; omega)
  obtain ⟨z, hz, e3⟩ := hb x y hx hy
  refine ⟨z, hz, ?_⟩
  rw [show c2 + 1 - c = (c1 - c) + ((c2 - c1) + (0 + 1)) by omega, sRun_add, e1, Option.bind_some, show c + (c1 - c) = c1 by omega, sRun_add, e2, Option.bind_some, show c1 + (c2 - c1) = c2 by omega, sRun, dft_0, hs]
  unfold sStep
  rw [if_neg hs1.1]
  dsimp only
  rw [if_neg hs1.2.1, if_neg hs1.2.2, e3]
  rfl
theorem both_any (s : Int32) : ∀ x y, anyV x → anyV y → ∃ z, anyV z ∧ f212_both s x y = some z := by
  intro x y _ _
  unfold f212_both
  repeat' split
  all_goals exact ⟨_, trivial, rfl⟩
theorem both_cmp {s : Int32} (h : s = 27 ∨ s = 28 ∨ s = 29) : ∀ x y, anyV x → anyV y → ∃ z, bitV z ∧ f212_both s x y = some z := by
  intro x y _ _
  unfold f212_both
  rcases h with rfl | rfl | rfl
  · rw [if_neg (by decide), if_neg (by decide), if_neg (by decide), if_neg (by decide), if_pos rfl]
    split
    · exact ⟨_, Or.inr rfl, rfl⟩
    · exact ⟨_, Or.inl rfl, rfl⟩
  · rw [if_neg (by decide), if_neg (by decide), if_neg (by decide), if_neg (by decide), if_neg (by decide), if_pos rfl]
    split
    · exact ⟨_, Or.inr rfl, rfl⟩
    · exact ⟨_, Or.inl rfl, rfl⟩
  · rw [if_neg (by decide), if_neg (by decide), if_neg (by decide), if_neg (by decide), if_neg (by decide), if_neg (by decide), if_pos rfl]
    split
    · exact ⟨_, Or.inr rfl, rfl⟩
    · exact ⟨_, Or.inl rfl, rfl⟩
theorem both_and : ∀ x y, bitV x → bitV y → ∃ z, bitV z ∧ f212_both 31 x y = some z := by
  intro x y hx hy
  rcases hx with rfl | rfl <;> rcases hy with rfl | rfl
  · exact ⟨0, Or.inl rfl, by decide⟩
  · exact ⟨0, Or.inl rfl, by decide⟩
  · exact ⟨0, Or.inl rfl, by decide⟩
  · exact ⟨1, Or.inr rfl, by decide⟩
theorem both_or : ∀ x y, bitV x → bitV y → ∃ z, bitV z ∧ f212_both 32 x y = some z := by
  intro x y hx hy
  rcases hx with rfl | rfl <;> rcases hy with rfl | rfl
  · exact ⟨0, Or.inl rfl, by decide⟩
  · exact ⟨1, Or.inr rfl, by decide⟩
  · exact ⟨1, Or.inr rfl, by decide⟩
  · exact ⟨1, Or.inr rfl, by decide⟩
end
section
-- ===== text of THE LAW: both drafts =====
/-- the steps laid so far, on both sides -/
def LC (A B : ZI) (c : Nat) : Prop := A 125 3 = zn c ∧ B 148 16 = zn c ∧ ∀ j, j < c → opRel (A 126 j) (A 127 j) (B 154 (2 * j)) (B 154 (2 * j + 1))
def lcell (j : Nat) : Bool := decide (j ∈ [16, 20, 21, 22, 23])
/-- what the reading of steps leaves as it was -/
def keepL (A B A' B' : ZI) (c : Nat) : Prop := (∀ o, o ≠ 119 → o ≠ 125 → o ≠ 126 → o ≠ 127 → A' o = A o) ∧ (∀ o, o ≠ 148 → o ≠ 154 → B' o = B o) ∧ (∀ j, lcell j = false → B' 148 j = B 148 j) ∧ ∀ j, j < 2 * c → B' 154 j = B 154 j
theorem keepL_refl (A B : ZI) (c : Nat) : keepL A B A B c := ⟨fun _ _ _ _ _ => rfl, fun _ _ _ => rfl, fun _ _ => rfl, fun _ _ => rfl⟩
theorem keepL_trans {A B A1 B1 A2 B2 : ZI} {c c1 : Nat} (h : keepL A B A1 B1 c) (g : keepL A1 B1 A2 B2 c1) (hc : c ≤ c1) : keepL A B A2 B2 c := ⟨fun o o1 o2 o3 o4 => (g.1 o o1 o2 o3 o4).trans (h.1 o o1 o2 o3 o4), fun o o1 o2 => (g.2.1 o o1 o2).trans (h.2.1 o o1 o2), fun j hj => (g.2.2.1 j hj).trans (h.2.2.1 j hj), fun j hj => (g.2.2.2 j (by omega)).trans (h.2.2.2 j hj)⟩
theorem LC_of {A B A' B' : ZI} {c : Nat} (h : LC A B c) (g1 : ∀ o, 125 ≤ o → o ≤ 127 → A' o = A o) (g2 : B' 148 16 = B 148 16) (g3 : B' 154 = B 154) : LC A' B' c := by
  unfold LC
  rw [g1 125 (by decide) (by decide), g1 126 (by decide) (by decide), g1 127 (by decide) (by decide), g2, g3]
  exact h
/-- both go on -/
theorem fwdL {b : Nat → Nat} {t n N m c : Nat} {A0 B0 A B : ZI} (hC : CX 0 b t n N A0 B0) (h : PS 0 b t N A0 B0 A B m) (hc : LC A B c) (hm : m < N) :
    ∃ A' B', f68_forward 119 A = some A' ∧ f157_next0 B = some B' ∧ PS 0 b t N A0 B0 A' B' (m + 1) ∧ LC A' B' c ∧ keepL A B A' B' c ∧ B' 154 = B 154 := by
  obtain ⟨A', B', e1, e2, e3, e4, e5, e6⟩ := fwd hC h hm
  refine ⟨A', B', e1, e2, e3, LC_of hc (fun o o1 o2 => e4 o (by omega)) (e6 16 (by decide) (by decide) (by decide) (by decide)) (e5 154 (by decide)), ⟨fun o o1 _ _ _ => e4 o o1, fun o o1 _ => e5 o o1, fun j hj => ?_, fun j _ => by rw [e5 154 (by decide)]⟩, e5 154 (by decide)⟩
  exact e6 j (by rintro rfl; exact absurd hj (by decide)) (by rintro rfl; exact absurd hj (by decide)) (by rintro rfl; exact absurd hj (by decide)) (by rintro rfl; exact absurd hj (by decide))
/-- both lay a step -/
theorem layL {b : Nat → Nat} {t N m c : Nat} {A0 B0 A B : ZI} {op arg s v : Int32} (h : PS 0 b t N A0 B0 A B m) (hc : LC A B c) (hc4 : c < 400) (hr : opRel op arg s v) :
    ∃ A' B', f74_add 125 op arg A = some A' ∧ f174_lay s v B = some B' ∧ PS 0 b t N A0 B0 A' B' m ∧ LC A' B' (c + 1) ∧ keepL A B A' B' c ∧ B' 154 = upd (upd (B 154) (2 * c) s) (2 * c + 1) v ∧ B' 154 (2 * c) = s ∧ B' 154 (2 * c + 1) = v := by
  obtain ⟨c1, c2, c3⟩ := hc
  have hz : zin (zn c) 400 = true := (zn_zin (by omega)).mpr hc4
  have e1 : f74_add 125 op arg A = some (zs (zs (zs A 126 c op) 127 c arg) 125 3 (zn (c + 1))) := by
    have k1 : (zs A 126 c op) 125 3 = zn c := by rw [zs_df (by decide)]; exact c1
    have k2 : (zs (zs A 126 c op) 127 c arg) 125 3 = zn c := by rw [zs_df (by decide)]; exact k1
    unfold f74_add
    rw [c1, if_pos (show zn c < 400 by rw [zl400, zn_lt (by omega) (by decide)]; exact hc4), if_pos hz, zn_zi (by omega), show 125 + 1 = 126 from rfl, show 125 + 2 = 127 from rfl, zlet_e, k1, if_pos hz, zn_zi (by omega), zlet_e, k2, zadd1]
    rfl
  have e2 : f174_lay s v B = some (zs (zs (zs B 154 (2 * c) s) 154 (2 * c + 1) v) 148 16 (zn (c + 1))) := by
    have k1 : (zs B 154 (2 * c) s) 148 16 = zn c := by rw [zs_df (by decide)]; exact c2
    have k2 : (zs (zs B 154 (2 * c) s) 154 (2 * c + 1) v) 148 16 = zn c := by rw [zs_df (by decide)]; exact k1
    unfold f174_lay
    rw [c2, zl2, zn_mul, if_pos ((zn_zin (by omega)).mpr (by omega)), zn_zi (by omega), zlet_e, k1, zn_mul, zadd1, if_pos ((zn_zin (by omega)).mpr (by omega)), zn_zi (by omega), zlet_e, k2, zadd1]
    rfl
  have r1 : (zs (zs (zs B 154 (2 * c) s) 154 (2 * c + 1) v) 148 16 (zn (c + 1))) 154 = upd (upd (B 154) (2 * c) s) (2 * c + 1) v := by
    rw [zs_df (by decide), zs_ap, if_pos rfl, zs_ap, if_pos rfl]
  refine ⟨_, _, e1, e2, PS_of h (fun o ho => by rw [zs_df (by omega), zs_df (by omega), zs_df (by omega)]) (fun o o1 o2 => by rw [zs_df o1, zs_df (by omega), zs_df (by omega)]) (fun j hj => by rw [zs_sm, if_neg (by rintro rfl; exact absurd hj (by decide)), zs_df (by decide), zs_df (by decide)]), ⟨by rw [zs_sm, if_pos rfl], by rw [zs_sm, if_pos rfl], fun j hj => ?_⟩, ⟨fun o o1 o2 o3 o4 => by rw [zs_df o2, zs_df o4, zs_df o3], fun o o1 o2 => by rw [zs_df o1, zs_df o2, zs_df o2], fun j hj => by rw [zs_sm, if_neg (by rintro rfl; exact absurd hj (by decide)), zs_df (by decide), zs_df (by decide)], fun j hj => by rw [r1, upd_ap, if_neg (by omega), upd_ap, if_neg (by omega)]⟩, r1, ?_, ?_⟩
  · rw [r1, zs_df (by decide), zs_df (by decide), zs_sm, zs_df (by decide), zs_sm, zs_df (by decide), upd_ap, upd_ap, upd_ap, upd_ap]
    by_cases hjc : j = c
    · rw [hjc, if_pos rfl, if_pos rfl, if_neg (by omega), if_pos rfl, if_pos rfl]
      exact hr
    · rw [if_neg hjc, if_neg hjc, if_neg (by omega), if_neg (by omega), if_neg (by omega), if_neg (by omega)]
      exact c3 j (by omega)
  · rw [r1, upd_ap, if_neg (by omega), upd_ap, if_pos rfl]
  · rw [r1, upd_ap, if_pos rfl]
/-- a reading of steps went well -/
def LQ (b : Nat → Nat) (t N : Nat) (A0 B0 A B : ZI) (m c e : Nat) (R : ZI → Nat → Prop) (A' B' : ZI) : Prop := ∃ m' c', PS 0 b t N A0 B0 A' B' m' ∧ LC A' B' c' ∧ keepL A B A' B' c ∧ m + e ≤ m' ∧ c ≤ c' ∧ c' + m ≤ c + m' ∧ R B' c'
theorem LQ_step {b : Nat → Nat} {t N m c e m1 c1 e1 : Nat} {A0 B0 A B A1 B1 A' B' : ZI} {R : ZI → Nat → Prop} (k : keepL A B A1 B1 c) (g1 : m ≤ m1) (g2 : c ≤ c1) (g3 : c1 + m ≤ c + m1) (g4 : m + e ≤ m1 + e1) (h : LQ b t N A0 B0 A1 B1 m1 c1 e1 R A' B') : LQ b t N A0 B0 A B m c e R A' B' := by
  obtain ⟨m', c', q1, q2, q3, q4, q5, q6, q7⟩ := h
  exact ⟨m', c', q1, q2, keepL_trans k q3 g2, by omega, by omega, by omega, q7⟩
theorem LQ_mono {b : Nat → Nat} {t N m c e : Nat} {A0 B0 A B A' B' : ZI} {R S : ZI → Nat → Prop} (h : LQ b t N A0 B0 A B m c e R A' B') (g : ∀ B' c', R B' c' → S B' c') : LQ b t N A0 B0 A B m c e S A' B' := by
  obtain ⟨m', c', q1, q2, q3, q4, q5, q6, q7⟩ := h
  exact ⟨m', c', q1, q2, q3, q4, q5, q6, g _ _ q7⟩
theorem pos_N {a : Nat} {b : Nat → Nat} {t n N m : Nat} {A0 B0 A B : ZI} {k : Int32} (hC : CX a b t n N A0 B0) (h : PS a b t N A0 B0 A B m) (hk : tkK b t m = k) (hk1 : k ≠ -1) : m < N := (tk_end hC h).2 (by rw [hk]; exact hk1)
theorem unit_pair : (pairs 0).all (fun q => (q.1 == -2 && q.2 == 2) || ((List.range 9).any fun j => q.1 == zn (263 + j) && q.2 == zn (41 + j)) || ((decide (q.1 < 263) || decide (271 < q.1)) && (!(q.1 == -2)) && (!(q.2 == 2)) && (decide (q.2 < 41) || decide (49 < q.2)))) = true := by decide +kernel
theorem unit_step {b : Nat → Nat} {t n N m c : Nat} {A0 B0 A B : ZI} (hC : CX 0 b t n N A0 B0) (h : PS 0 b t N A0 B0 A B m) (hc : LC A B c) (hcm : c ≤ m) :
    Both A0 B0 (f73_readUnit 119 125 A) (f173_unit B) (LQ b t N A0 B0 A B m c 1 (fun B' c' => pushes B' c c' 1 anyV)) := by
  have hN := hC.2.1.1
  have hk := tk_on unit_pair b t m
  dsimp only at hk
  simp only [Bool.or_eq_true, Bool.and_eq_true, beq_iff_eq, List.any_eq_true, List.mem_range, decide_eq_true_eq, Bool.not_eq_true', beq_eq_false_iff_ne] at hk
  have hA7 : A 119 7 = tkK b t m := h.2.1.2.1
  have hB21 : B 148 21 = tkT 0 b t m := h.2.2.2.2.1
  -- once the step is known
  have fin : ∀ (op arg s v : Int32), m < N → opRel op arg s v → (s = 0 ∨ ∃ j, j < 9 ∧ s = zn (j + 1)) → Both A0 B0 ((f74_add 125 op arg A).bind fun M9 => (f68_forward 119 M9).bind fun M2 => some ((1 : Int32), M2)) ((f174_lay s v B).bind fun M4 => (f157_next0 M4).bind fun M5 => some ((1 : Int32), M5)) (LQ b t N A0 B0 A B m c 1 (fun B' c' => pushes B' c c' 1 anyV)) := by
    intro op arg s v hm hr hs
    obtain ⟨A1, B1, e1, e2, e3, e4, e5, -, e6, e7⟩ := layL h hc (by omega) hr
    obtain ⟨A2, B2, g1, g2, g3, g4, g5, g6⟩ := fwdL hC e3 e4 hm
    refine Or.inr ⟨A2, B2, by rw [e1, Option.bind_some, g1]; rfl, by rw [e2, Option.bind_some, g2]; rfl, m + 1, c + 1, g3, g4, keepL_trans e5 g5 (by omega), by omega, by omega, by omega, ?_⟩
    refine pushes_unit ?_
    rw [g6, e6]
    exact hs
  unfold f73_readUnit f173_unit f149_isIn
  rw [zlet_e, zlet_e, hA7, hB21]
  rcases hk with (⟨k1, k2⟩ | ⟨j, hj, k1, k2⟩) | ⟨⟨⟨k1, k2⟩, k3⟩, k4⟩
  · have hm : m < N := pos_N hC h k1 (by decide)
    have hv1 := h.2.1.2.2.1 k1
    have hv2 := h.2.2.2.2.2 k1
    rw [k1, k2, if_pos (show (-2 : Int32) < 263 by decide), if_pos (show (2 : Int32) < 41 by decide), Option.bind_some, zlet_e, if_pos rfl]
    dsimp only
    rw [hA7, k1, if_pos rfl, if_pos rfl, Option.bind_some, hv1, hv2]
    exact fin _ _ _ _ hm (Or.inl ⟨rfl, rfl, rfl⟩) (Or.inl rfl)
  · have hm : m < N := pos_N hC h k1 (zn_ne_neg (by omega))
    rw [k1, k2, if_neg (show ¬ zn (263 + j) < 263 by rw [zl263, zn_lt (by omega) (by decide)]; omega), if_neg (show ¬ (271 : Int32) < zn (263 + j) by rw [zl271, zn_lt (by decide) (by omega)]; omega), if_neg (show ¬ zn (41 + j) < 41 by rw [zl41, zn_lt (by omega) (by decide)]; omega), if_neg (show ¬ (49 : Int32) < zn (41 + j) by rw [zl49, zn_lt (by decide) (by omega)]; omega), Option.bind_some, zlet_e, if_neg (show ¬ zn (41 + j) = 2 by rw [zl2, zn_eq (by omega) (by decide)]; omega), if_neg (show ¬ (1 : Int32) = 0 by decide)]
    dsimp only
    rw [if_neg (show ¬ (1 : Int32) = 0 by decide), Option.bind_some, hB21, k2, zl40, zn_sub (by omega), zl263, zn_sub (by omega), show 263 + j - 263 = j by omega, show 41 + j - 40 = j + 1 by omega]
    exact fin _ _ _ _ hm (Or.inr (Or.inl ⟨rfl, j, hj, rfl, rfl⟩)) (Or.inr ⟨j, hj, rfl⟩)
  · have e1 : (if tkK b t m < 263 then (fun (M4 : ZI) => ((if (M4 119 7) = (-2 : Int32) then (f74_add 125 (-2 : Int32) (M4 119 8) M4).bind fun M7 => (fun (M1 : ZI) => ((f68_forward 119 M1).bind fun M2 => some ((1 : Int32), M2) : Option (Int32 × ZI))) M7 else (f70_refuse 119 (1 : Int32) M4).bind fun (v5, M6) => if zbl v5 = true then some (v5, M6) else none) : Option (Int32 × ZI))) A else (if (271 : Int32) < tkK b t m then (fun (M4 : ZI) => ((if (M4 119 7) = (-2 : Int32) then (f74_add 125 (-2 : Int32) (M4 119 8) M4).bind fun M7 => (fun (M1 : ZI) => ((f68_forward 119 M1).bind fun M2 => some ((1 : Int32), M2) : Option (Int32 × ZI))) M7 else (f70_refuse 119 (1 : Int32) M4).bind fun (v5, M6) => if zbl v5 = true then some (v5, M6) else none) : Option (Int32 × ZI))) A else ((f74_add 125 (300 : Int32) (tkK b t m - (263 : Int32)) A).bind fun M9 => (fun (M1 : ZI) => ((f68_forward 119 M1).bind fun M2 => some ((1 : Int32), M2) : Option (Int32 × ZI))) M9))) = (f70_refuse 119 (1 : Int32) A).bind fun (v5, M6) => if zbl v5 = true then some (v5, M6) else none := by
      rcases k1 with k1 | k1
      · rw [if_pos k1]
        dsimp only
        rw [hA7, if_neg k2]
      · by_cases k0 : tkK b t m < 263
        · rw [if_pos k0]
          dsimp only
          rw [hA7, if_neg k2]
        · rw [if_neg k0, if_pos k1]
          dsimp only
          rw [hA7, if_neg k2]
    have e2 : ((if tkT 0 b t m < 41 then some (0 : Int32) else (if (49 : Int32) < tkT 0 b t m then some (0 : Int32) else some (1 : Int32))) : Option Int32) = some 0 := by
      rcases k4 with k4 | k4
      · rw [if_pos k4]
      · rw [if_pos k4]
        split <;> rfl
    rw [e2, Option.bind_some, zlet_e, if_neg k3, if_pos rfl]
    refine (congrArg (fun x => Both A0 B0 x _ _) e1).mpr ?_
    exact both_rfz hC h 1 (fun _ => rfl) (fun _ => rfl)
end
section
-- ===== text of THE LAW: products and sums =====
theorem tk_iff {a : Nat} {k x : Int32} (h : (pairs a).all (fun q => (q.1 == k) == (q.2 == x)) = true) (b : Nat → Nat) (t m : Nat) : tkK b t m = k ↔ tkT a b t m = x := by
  have := tk_on h b t m
  dsimp only at this
  have e := eq_of_beq this
  constructor
  · intro h1
    rw [h1, beq_self_eq_true] at e
    exact eq_of_beq e.symm
  · intro h1
    rw [h1, beq_self_eq_true] at e
    exact eq_of_beq e
theorem op43 : opRel 43 0 23 0 := Or.inr (Or.inr (Or.inr (Or.inr (Or.inl ⟨rfl, rfl⟩))))
theorem op45 : opRel 45 0 24 0 := Or.inr (Or.inr (Or.inr (Or.inr (Or.inr (Or.inl ⟨rfl, rfl⟩)))))
theorem op42 : opRel 42 0 25 0 := Or.inr (Or.inr (Or.inr (Or.inr (Or.inr (Or.inr (Or.inl ⟨rfl, rfl⟩))))))
theorem op60 : opRel 60 0 27 0 := Or.inr (Or.inr (Or.inr (Or.inr (Or.inr (Or.inr (Or.inr (Or.inl ⟨rfl, rfl⟩)))))))
theorem op61 : opRel 61 0 28 0 := Or.inr (Or.inr (Or.inr (Or.inr (Or.inr (Or.inr (Or.inr (Or.inr (Or.inl ⟨rfl, rfl⟩))))))))
theorem op62 : opRel 62 0 29 0 := Or.inr (Or.inr (Or.inr (Or.inr (Or.inr (Or.inr (Or.inr (Or.inr (Or.inr (Or.inl ⟨rfl, rfl⟩)))))))))
theorem op261 : opRel 261 0 31 0 := Or.inr (Or.inr (Or.inr (Or.inr (Or.inr (Or.inr (Or.inr (Or.inr (Or.inr (Or.inr (Or.inl ⟨rfl, rfl⟩))))))))))
theorem op260 : opRel 260 0 32 0 := Or.inr (Or.inr (Or.inr (Or.inr (Or.inr (Or.inr (Or.inr (Or.inr (Or.inr (Or.inr (Or.inr ⟨rfl, rfl⟩))))))))))
theorem op262 : opRel 262 0 30 0 := Or.inr (Or.inr (Or.inr (Or.inl ⟨rfl, rfl⟩)))
theorem tkV_lt {b : Nat → Nat} {t m : Nat} (hb : tapB b t) (h : tkK b t m = -2) : tkV b t m < 10000 := by
  unfold tkK at h
  obtain ⟨h1, h2, h3⟩ := lex_fact hb h
  unfold tkV lexVal
  generalize tkS b t m = s at *
  have hnl : ¬ isLet (b s) = true := by
    unfold isDig at h2
    unfold isLet
    simp only [Bool.and_eq_true, Bool.or_eq_true, decide_eq_true_eq] at h2 ⊢
    omega
  have e0 : lexEnd b t s = runEnd isDig b t (t - s) s := by unfold lexEnd; rw [if_pos h1, if_neg hnl, if_pos h2]
  have h4 : lexEnd b t s - s ≤ 4 := by
    unfold lexKind at h
    rw [if_pos h1, if_neg hnl, if_pos h2] at h
    rw [e0]
    split at h
    · exact absurd h (by decide)
    · omega
  have hv := valN_le (b := b) (s := s) (lexEnd b t s - s) (fun j hj => runEnd_all (P := isDig) (t - s) s (s + j) (by omega) (by rw [← e0]; omega))
  have := pow4 h4
  omega
/-- what the class makes of a number at the token -/
theorem num_at {a : Nat} {b : Nat → Nat} {t N m : Nat} {A0 B0 A B : ZI} (h : PS a b t N A0 B0 A B m) (lo hi : Int32) :
    (tkK b t m ≠ -2 ∧ ∀ A', f70_refuse 119 1 A = some (0, A') → f75_isNumber 119 lo hi A = some (0, A')) ∨ (tkK b t m = -2 ∧ (zn (tkV b t m) < lo ∨ hi < zn (tkV b t m)) ∧ ∀ A', f70_refuse 119 2 A = some (0, A') → f75_isNumber 119 lo hi A = some (0, A')) ∨ (tkK b t m = -2 ∧ ¬ zn (tkV b t m) < lo ∧ ¬ hi < zn (tkV b t m) ∧ f75_isNumber 119 lo hi A = some (1, A)) := by
  have hA7 : A 119 7 = tkK b t m := h.2.1.2.1
  unfold f75_isNumber f13_within
  rw [hA7]
  by_cases hk : tkK b t m = -2
  · right
    rw [if_pos hk, h.2.1.2.2.1 hk]
    by_cases h1 : zn (tkV b t m) < lo
    · left
      refine ⟨hk, Or.inl h1, fun A' e => ?_⟩
      rw [if_pos h1, Option.bind_some, if_pos rfl, e]
      rfl
    · rw [if_neg h1]
      by_cases h2 : hi < zn (tkV b t m)
      · left
        refine ⟨hk, Or.inr h2, fun A' e => ?_⟩
        rw [if_pos h2, Option.bind_some, if_pos rfl, e]
        rfl
      · right
        refine ⟨hk, h1, h2, ?_⟩
        rw [if_neg h2, Option.bind_some, if_neg (by decide)]
  · left
    refine ⟨hk, fun A' e => ?_⟩
    rw [if_neg hk, e]
    rfl
theorem PS_mix {a : Nat} {b : Nat → Nat} {t N m : Nat} {A0 B0 A B A' B' : ZI} (h : PS a b t N A0 B0 A B m) (g : PS a b t N A0 B0 A' B' m) : PS a b t N A0 B0 A B' m := ⟨⟨h.1.1, g.1.2.1, h.1.2.2⟩, h.2.1, g.2.2⟩
/-- the class lays and goes on, the reference goes on and lays -/
theorem slashL {b : Nat → Nat} {t n N m c : Nat} {A0 B0 A B : ZI} {v : Int32} (hC : CX 0 b t n N A0 B0) (h : PS 0 b t N A0 B0 A B m) (hc : LC A B c) (hm : m < N) (hc4 : c < 400) (hr : opRel 47 v 26 v) :
    ∃ A' A2 B' B1, f74_add 125 47 v A = some A2 ∧ f68_forward 119 A2 = some A' ∧ f157_next0 B = some B1 ∧ f174_lay 26 v B1 = some B' ∧ PS 0 b t N A0 B0 A' B' (m + 1) ∧ LC A' B' (c + 1) ∧ keepL A B A' B' c ∧ B' 154 (2 * c) = 26 ∧ B' 154 (2 * c + 1) = v := by
  obtain ⟨A1, B1, e1, e2, e3, e4, e5, e6⟩ := fwdL hC h hc hm
  obtain ⟨A2, B2, g1, g2, g3, g4, g5, g6, g7, g8⟩ := layL h hc hc4 hr
  obtain ⟨A3, B3, i1, i2, i3, i4, i5, i6, i7, i8⟩ := layL e3 e4 hc4 hr
  obtain ⟨A4, B4, j1, j2, j3, j4, j5, j6⟩ := fwdL hC g3 g4 hm
  refine ⟨A4, A2, B3, B1, g1, j1, e2, i2, PS_mix j3 i3, LC_of j4 (fun _ _ _ => rfl) (by rw [i4.2.1, j4.2.1]) (by rw [i6, j6, g6, e6]), ⟨(keepL_trans g5 j5 (by omega)).1, (keepL_trans e5 i5 (by omega)).2⟩, i7, i8⟩
theorem term_loop {b : Nat → Nat} {t n N : Nat} {A0 B0 : ZI} (hC : CX 0 b t n N A0 B0) : ∀ f m x3 c c0 g A B, N - m < f → N - m < g → x3 + (N - m) ≤ 399 → PS 0 b t N A0 B0 A B m → LC A B c → c ≤ m → c0 ≤ c → pushes B c0 c 2 anyV →
    Both A0 B0 (f72_l12 119 125 f (zn x3) A) (f172_l9 g B) (LQ b t N A0 B0 A B m c 0 (fun B' c' => pushes B' c0 c' 2 anyV))
  | 0, m, x3, c, c0, g, A, B, h1, h2, h3, h, hc, hcm, hc0, hp => by omega
  | f + 1, m, x3, c, c0, g, A, B, h1, h2, h3, h, hc, hcm, hc0, hp => by
    obtain ⟨g, rfl⟩ : ∃ q, g = q + 1 := ⟨g - 1, by omega⟩
    have hN := hC.2.1.1
    have hA7 : A 119 7 = tkK b t m := h.2.1.2.1
    have hB21 : B 148 21 = tkT 0 b t m := h.2.2.2.2.1
    have i42 := tk_iff (a := 0) (k := 42) (x := 142) (by decide +kernel) b t m
    have i47 := tk_iff (a := 0) (k := 47) (x := 147) (by decide +kernel) b t m
    rw [f72_l12, f172_l9, if_pos (show zn x3 < 400 by rw [zl400, zn_lt (by omega) (by decide)]; omega), zlet_e, zlet_e, zlet_e, hA7, hB21]
    by_cases k42 : tkK b t m = 42
    · have hm : m < N := pos_N hC h k42 (by decide)
      obtain ⟨A1, B1, e1, e2, e3, e4, e5, e6⟩ := fwdL hC h hc hm
      rw [if_pos k42, if_pos (i42.mp k42)]
      dsimp only
      rw [e1, e2, Option.bind_some, if_pos k42, if_neg (show ¬ tkT 0 b t m = 147 by rw [i42.mp k42]; decide), Option.bind_some, Option.bind_some, if_pos rfl]
      refine both_bind (unit_step hC e3 e4 (by omega)) (fun _ => rfl) (fun _ => rfl) (fun A2 B2 hq => ?_)
      obtain ⟨m2, c2, q1, q2, q3, q4, q5, q6, q7⟩ := hq
      have hm2 := q1.1.2.2
      dsimp only
      rw [if_neg (show ¬ (1 : Int32) = 0 by decide), if_neg (show ¬ (1 : Int32) = 0 by decide)]
      obtain ⟨A3, B3, l1, l2, l3, l4, l5, -, l6, -⟩ := layL q1 q2 (by omega) op42
      rw [l1, l2, Option.bind_some, Option.bind_some, zadd1]
      have K := keepL_trans (keepL_trans e5 q3 (Nat.le_refl _)) l5 q5
      refine both_mono (term_loop hC f m2 (x3 + 1) (c2 + 1) c0 g A3 B3 (by omega) (by omega) (by omega) l3 l4 (by omega) (by omega) ?_) (fun A' B' hq => LQ_step K (by omega) (by omega) (by omega) (by omega) hq)
      exact pushes_two (pushes_keep hp K.2.2.2) (pushes_keep q7 l5.2.2.2) (Nat.le_refl _) (by decide) 25 l6 (by decide) (both_any 25)
    · rw [if_neg k42, if_neg (fun hx => k42 (i42.mpr hx))]
      by_cases k47 : tkK b t m = 47
      · have hm : m < N := pos_N hC h k47 (by decide)
        obtain ⟨A1, B1, e1, e2, e3, e4, e5, e6⟩ := fwdL hC h hc hm
        have hB1 : B1 148 21 = tkT 0 b t (m + 1) := e3.2.2.2.2.1
        have i2 := tk_iff (a := 0) (k := -2) (x := 2) (by decide +kernel) b t (m + 1)
        rw [if_pos k47, if_pos (i47.mp k47)]
        dsimp only
        rw [e1, e2, Option.bind_some, if_neg k42, if_pos (i47.mp k47), Option.bind_some, Option.bind_some, if_neg (show ¬ (1 : Int32) = 0 by decide), zlet_e, hB1]
        rcases num_at e3 1 9999 with ⟨n1, n2⟩ | ⟨n1, n2, n3⟩ | ⟨n1, n2, n3, n4⟩
        · obtain ⟨A', B', r1, r2, r3⟩ := rfz hC e3 1
          rw [n2 _ r1, if_neg (fun hx => n1 (i2.mpr hx)), r2]
          exact Or.inl ⟨A', B', rfl, rfl, r3⟩
        · obtain ⟨A', B', r1, r2, r3⟩ := rfz hC e3 2
          have hv := e3.2.2.2.2.2 n1
          have hlt := tkV_lt hC.1.1 n1
          have h0 : zn (tkV b t (m + 1)) = 0 := by
            rcases n2 with n2 | n2
            · rw [zl1, zn_lt (by omega) (by decide)] at n2
              rw [show tkV b t (m + 1) = 0 by omega]
              rfl
            · rw [zl9999, zn_lt (by decide) (by omega)] at n2
              omega
          rw [n3 _ r1, if_pos (i2.mp n1), hv, if_pos h0, r2]
          exact Or.inl ⟨A', B', rfl, rfl, r3⟩
        · have hv := e3.2.2.2.2.2 n1
          have hv8 := e3.2.1.2.2.1 n1
          have hlt := tkV_lt hC.1.1 n1
          have hm1 : m + 1 < N := pos_N hC e3 n1 (by decide)
          have h0 : ¬ zn (tkV b t (m + 1)) = 0 := by
            intro h0
            rw [h0] at n2
            exact n2 (by decide)
          obtain ⟨A3, A2, B3, B2, s1, s2, s3, s4, s5, s6, s7, s8, s9⟩ := slashL (v := zn (tkV b t (m + 1))) hC e3 e4 hm1 (by omega) (Or.inr (Or.inr (Or.inl ⟨rfl, rfl, rfl, h0⟩)))
          rw [n4, if_pos (i2.mp n1), hv, if_neg h0, Option.bind_some]
          dsimp only
          rw [if_neg (show ¬ (1 : Int32) = 0 by decide), hv8, s1, Option.bind_some, s2, Option.bind_some, s3, Option.bind_some, s4, Option.bind_some, zadd1]
          have K := keepL_trans e5 s7 (Nat.le_refl _)
          refine both_mono (term_loop hC f (m + 1 + 1) (x3 + 1) (c + 1) c0 g A3 B3 (by omega) (by omega) (by omega) s5 s6 (by omega) (by omega) ?_) (fun A' B' hq => LQ_step K (by omega) (by omega) (by omega) (by omega) hq)
          exact pushes_div (pushes_keep hp K.2.2.2) s8 (by rw [s9]; exact h0)
      · rw [if_neg k47, if_neg (fun hx => k47 (i47.mpr hx))]
        exact Or.inr ⟨A, B, rfl, rfl, m, c, h, hc, keepL_refl _ _ _, by omega, Nat.le_refl _, by omega, hp⟩
theorem term_step {b : Nat → Nat} {t n N m c : Nat} {A0 B0 A B : ZI} (hC : CX 0 b t n N A0 B0) (h : PS 0 b t N A0 B0 A B m) (hc : LC A B c) (hcm : c ≤ m) :
    Both A0 B0 (f72_readTerm 119 125 A) (f172_product B) (LQ b t N A0 B0 A B m c 1 (fun B' c' => pushes B' c c' 2 anyV)) := by
  have hN := hC.2.1.1
  unfold f72_readTerm f172_product
  refine both_bind (unit_step hC h hc hcm) (fun _ => rfl) (fun _ => rfl) (fun A2 B2 hq => ?_)
  obtain ⟨m2, c2, q1, q2, q3, q4, q5, q6, q7⟩ := hq
  dsimp only
  rw [if_neg (show ¬ (1 : Int32) = 0 by decide), if_neg (show ¬ (1 : Int32) = 0 by decide)]
  exact both_mono (term_loop hC zfu m2 0 c2 c zfu A2 B2 (by rw [zfu_eq]; omega) (by rw [zfu_eq]; omega) (by omega) q1 q2 (by omega) q5 (pushes_mono q7 (by decide))) (fun A' B' hq => LQ_step q3 (by omega) q5 q6 (by omega) hq)
end
section
def sumTail (f : Nat) (x2 : Int32) (A : ZI) : Option (Int32 × ZI) :=
  zlet (fun (_ : Unit) => (zlet (A 119 7) fun (x10 : Int32) => (f68_forward 119 A).bind fun M11 => f71_l4 119 125 f x10 (x2 + (1 : Int32)) M11 : Option (Int32 × ZI))) fun j12 =>
  (if (A 119 7) = (43 : Int32) then j12 () else (if (A 119 7) = (45 : Int32) then j12 () else some ((1 : Int32), A)))
theorem l4_eq (f : Nat) (x1 x2 : Int32) (M3 : ZI) : f71_l4 119 125 (f + 1) x1 x2 M3 = (if x2 < (400 : Int32) then (f72_readTerm 119 125 M3).bind fun (v6, M7) => (if v6 = 0 then some ((0 : Int32), M7) else ((if x1 = 0 then some M7 else (f74_add 125 x1 (0 : Int32) M7).bind fun M8 => some M8) : Option (ZI)).bind fun M9 => sumTail f x2 M9) else (f70_refuse 119 (1 : Int32) M3).bind fun (v4, M5) => if zbl v4 = true then some (v4, M5) else none) := rfl
theorem sum_tail {b : Nat → Nat} {t n N : Nat} {A0 B0 : ZI} (hC : CX 0 b t n N A0 B0) : ∀ f m x2 c c0 g A B, N - m < f → N - m < g → x2 + (N - m) ≤ 399 → PS 0 b t N A0 B0 A B m → LC A B c → c ≤ m → c0 ≤ c → pushes B c0 c 3 anyV →
    Both A0 B0 (sumTail f (zn x2) A) (f171_l9 g B) (LQ b t N A0 B0 A B m c 0 (fun B' c' => pushes B' c0 c' 3 anyV))
  | 0, m, x2, c, c0, g, A, B, h1, h2, h3, h, hc, hcm, hc0, hp => by omega
  | f + 1, m, x2, c, c0, g, A, B, h1, h2, h3, h, hc, hcm, hc0, hp => by
    obtain ⟨g, rfl⟩ : ∃ q, g = q + 1 := ⟨g - 1, by omega⟩
    have hN := hC.2.1.1
    have hA7 : A 119 7 = tkK b t m := h.2.1.2.1
    have hB21 : B 148 21 = tkT 0 b t m := h.2.2.2.2.1
    have i43 := tk_iff (a := 0) (k := 43) (x := 143) (by decide +kernel) b t m
    have i45 := tk_iff (a := 0) (k := 45) (x := 145) (by decide +kernel) b t m
    have step : ∀ k s : Int32, k ≠ 0 → opRel k 0 s 0 → (¬ s < 23 ∧ s ≠ 26 ∧ s ≠ 30) → m < N → Both A0 B0 ((f68_forward 119 A).bind fun M11 => f71_l4 119 125 (f + 1) k (zn x2 + (1 : Int32)) M11) ((f157_next0 B).bind fun M6 => (f172_product M6).bind fun (v7, M8) => (if v7 = 0 then some ((0 : Int32), M8) else (f174_lay s (0 : Int32) M8).bind fun M9 => f171_l9 g M9)) (LQ b t N A0 B0 A B m c 0 (fun B' c' => pushes B' c0 c' 3 anyV)) := by
      intro k s hk hr hs hm
      obtain ⟨A1, B1, e1, e2, e3, e4, e5, e6⟩ := fwdL hC h hc hm
      rw [e1, e2, Option.bind_some, Option.bind_some, l4_eq, zadd1, if_pos (show zn (x2 + 1) < 400 by rw [zl400, zn_lt (by omega) (by decide)]; omega)]
      refine both_bind (term_step hC e3 e4 (by omega)) (fun _ => rfl) (fun _ => rfl) (fun A2 B2 hq => ?_)
      obtain ⟨m2, c2, q1, q2, q3, q4, q5, q6, q7⟩ := hq
      have hm2 := q1.1.2.2
      dsimp only
      obtain ⟨A3, B3, l1, l2, l3, l4, l5, -, l6, -⟩ := layL q1 q2 (by omega) hr
      rw [if_neg (show ¬ (1 : Int32) = 0 by decide), if_neg (show ¬ (1 : Int32) = 0 by decide), if_neg hk, l1, l2, Option.bind_some, Option.bind_some, Option.bind_some]
      have K := keepL_trans (keepL_trans e5 q3 (Nat.le_refl _)) l5 q5
      refine both_mono (sum_tail hC f m2 (x2 + 1) (c2 + 1) c0 g A3 B3 (by omega) (by omega) (by omega) l3 l4 (by omega) (by omega) ?_) (fun A' B' hq => LQ_step K (by omega) (by omega) (by omega) (by omega) hq)
      exact pushes_two (pushes_keep hp K.2.2.2) (pushes_keep q7 l5.2.2.2) (Nat.le_refl _) (by decide) s l6 hs (both_any s)
    unfold sumTail
    rw [zlet_e, zlet_e, f171_l9, zlet_e, hA7, hB21]
    by_cases k43 : tkK b t m = 43
    · rw [if_pos k43, if_pos (i43.mp k43), k43, i43.mp k43]
      exact step 43 23 (by decide) op43 (by decide) (pos_N hC h k43 (by decide))
    · rw [if_neg k43, if_neg (fun hx => k43 (i43.mpr hx))]
      by_cases k45 : tkK b t m = 45
      · rw [if_pos k45, if_pos (i45.mp k45), k45, i45.mp k45]
        exact step 45 24 (by decide) op45 (by decide) (pos_N hC h k45 (by decide))
      · rw [if_neg k45, if_neg (fun hx => k45 (i45.mpr hx))]
        exact Or.inr ⟨A, B, rfl, rfl, m, c, h, hc, keepL_refl _ _ _, by omega, Nat.le_refl _, by omega, hp⟩
theorem sum_step {b : Nat → Nat} {t n N m c : Nat} {A0 B0 A B : ZI} (hC : CX 0 b t n N A0 B0) (h : PS 0 b t N A0 B0 A B m) (hc : LC A B c) (hcm : c ≤ m) :
    Both A0 B0 (f71_readSum 119 125 A) (f171_sumUp B) (LQ b t N A0 B0 A B m c 1 (fun B' c' => pushes B' c c' 3 anyV)) := by
  have hN := hC.2.1.1
  have key : ∀ F, 401 < F → Both A0 B0 (f71_l4 119 125 F 0 0 A) (f171_sumUp B) (LQ b t N A0 B0 A B m c 1 (fun B' c' => pushes B' c c' 3 anyV)) := by
    intro F hF
    obtain ⟨F, rfl⟩ : ∃ q, F = q + 1 := ⟨F - 1, by omega⟩
    unfold f171_sumUp
    rw [l4_eq, if_pos (show (0 : Int32) < 400 by decide)]
    refine both_bind (term_step hC h hc hcm) (fun _ => rfl) (fun _ => rfl) (fun A2 B2 hq => ?_)
    obtain ⟨m2, c2, q1, q2, q3, q4, q5, q6, q7⟩ := hq
    dsimp only
    rw [if_neg (show ¬ (1 : Int32) = 0 by decide), if_neg (show ¬ (1 : Int32) = 0 by decide), if_pos rfl, Option.bind_some]
    exact both_mono (sum_tail hC F m2 0 c2 c zfu A2 B2 (by omega) (by rw [zfu_eq]; omega) (by omega) q1 q2 (by omega) q5 (pushes_mono q7 (by decide))) (fun A' B' hq => LQ_step q3 (by omega) q5 q6 (by omega) hq)
  unfold f71_readSum
  exact key zfu (by rw [zfu_eq]; omega)
-- one test of THE LAW
def OneOK (b : Nat → Nat) (t N : Nat) (A0 B0 : ZI) (fC fR : ZI → Option (Int32 × ZI)) (d h : Nat) : Prop := ∀ m c A B, PS 0 b t N A0 B0 A B m → LC A B c → c ≤ m → B 148 27 = zn d → Both A0 B0 (fC A) (fR B) (LQ b t N A0 B0 A B m c 1 (fun B' c' => pushes B' c c' h bitV))
theorem keep27 {A B A2 B2 : ZI} {c : Nat} {x y : Int32} (k : keepL A (zs B 148 27 x) A2 B2 c) (h : y = B 148 27) : keepL A B A2 (zs B2 148 27 y) c := by
  obtain ⟨k1, k2, k3, k4⟩ := k
  refine ⟨k1, fun o o1 o2 => by rw [zs_df o1, k2 o o1 o2, zs_df o1], fun j hj => ?_, fun j hj => by rw [zs_df (by decide), k4 j hj, zs_df (by decide)]⟩
  rw [zs_sm]
  by_cases h27 : j = 27
  · rw [if_pos h27, h, h27]
  · rw [if_neg h27, k3 j hj, zs_sm, if_neg h27]
theorem PS_27 {a : Nat} {b : Nat → Nat} {t N m : Nat} {A0 B0 A B : ZI} (h : PS a b t N A0 B0 A B m) (x : Int32) : PS a b t N A0 B0 A (zs B 148 27 x) m := PS_of h (fun _ _ => rfl) (fun o o1 _ => by rw [zs_df o1]) (fun j hj => by rw [zs_sm, if_neg (by rintro rfl; exact absurd hj (by decide))])
theorem LC_27 {A B : ZI} {c : Nat} (h : LC A B c) (x : Int32) : LC A (zs B 148 27 x) c := LC_of h (fun _ _ _ => rfl) (by rw [zs_sm, if_neg (by decide)]) (by rw [zs_df (by decide)])
theorem pushes_27 {B : ZI} {c c' h : Nat} {P : Int32 → Prop} (hp : pushes B c c' h P) (x : Int32) : pushes (zs B 148 27 x) c c' h P := pushes_keep hp (fun j _ => by rw [zs_df (by decide)])
theorem skip_need {a : Nat} {b : Nat → Nat} {t n N m : Nat} {A0 B0 A B : ZI} {k x : Int32} (hC : CX a b t n N A0 B0) (h : PS a b t N A0 B0 A B m) (hi : (pairs a).all (fun q => (q.1 == k) == (q.2 == x)) = true) (hk : k ≠ -1) :
    (m < N ∧ f78_skip 119 k A = (f68_forward 119 A).bind (fun M1 => some ((1 : Int32), M1)) ∧ f179_need x B = (f157_next0 B).bind fun M1 => some ((1 : Int32), M1)) ∨ ∃ A' B', f78_skip 119 k A = some (0, A') ∧ f179_need x B = some (0, B') ∧ Bad A0 B0 A' B' := by
  have i := tk_iff hi b t m
  unfold f78_skip f179_need
  rw [h.2.1.2.1, h.2.2.2.2.1]
  by_cases hkk : tkK b t m = k
  · left
    refine ⟨pos_N hC h hkk hk, ?_, ?_⟩
    · rw [if_pos hkk]
    · rw [if_pos (i.mp hkk)]
  · right
    obtain ⟨A', B', e1, e2, e3⟩ := rfz hC h 1
    refine ⟨A', B', ?_, ?_, e3⟩
    · rw [if_neg hkk, e1]
      rfl
    · rw [if_neg (fun hx => hkk (i.mpr hx)), e2]
      rfl
end
section
theorem one_step {b : Nat → Nat} {t n N d h6 h7 hh : Nat} {A0 B0 : ZI} {g76 g77 : Nat → Nat → Int32 → Int32 → ZI → Option (Int32 × ZI)} {r175 r177 : ZI → Option (Int32 × ZI)} (hC : CX 0 b t n N A0 B0) (hd : d ≤ 8) (h76 : d < 8 → OneOK b t N A0 B0 (g76 119 125 0 (zn (d + 1))) r175 (d + 1) h6) (h77 : d < 8 → OneOK b t N A0 B0 (g77 119 125 0 (zn (d + 1))) r177 (d + 1) h7) (g4 : 4 ≤ hh) (g6 : d < 8 → h6 ≤ hh) (g7 : d < 8 → h7 ≤ hh) :
    OneOK b t N A0 B0 (fun A => f77_readOne_b g76 g77 119 125 0 (zn d) A) (fun B => f177_oneTest_b r175 r177 B) d hh := by
  intro m c A B h hc hcm h27
  have hN := hC.2.1.1
  have hA7 : A 119 7 = tkK b t m := h.2.1.2.1
  have hB21 : B 148 21 = tkT 0 b t m := h.2.2.2.2.1
  have i40 := tk_iff (a := 0) (k := 40) (x := 140) (by decide +kernel) b t m
  have i262 := tk_iff (a := 0) (k := 262) (x := 6) (by decide +kernel) b t m
  dsimp only
  unfold f77_readOne_b f177_oneTest_b f178_opens
  rw [zlet_e, zlet_e, hA7, hB21, h27]
  by_cases k40 : tkK b t m = 40
  · have hm : m < N := pos_N hC h k40 (by decide)
    rw [if_pos k40, if_neg (show ¬ tkT 0 b t m = 6 by rw [i40.mp k40]; decide), if_pos (i40.mp k40)]
    dsimp only
    by_cases hd8 : d < 8
    · rw [if_pos (show zn d < 8 by rw [zl8, zn_lt (by omega) (by decide)]; exact hd8), if_neg (show ¬ zn d = 8 by rw [zl8, zn_eq (by omega) (by decide)]; omega), zlet_e, hA7, if_neg (show ¬ tkK b t m = 262 by rw [k40]; decide), Option.bind_some, zadd1]
      obtain ⟨A1, B1, e1, e2, e3, e4, e5, e6⟩ := fwdL hC (PS_27 h (zn (d + 1))) (LC_27 hc (zn (d + 1))) hm
      rw [e1, e2, Option.bind_some, Option.bind_some, Option.bind_some, if_pos rfl]
      dsimp only
      rw [if_neg (show ¬ (1 : Int32) = 0 by decide)]
      refine both_bind (h76 hd8 (m + 1) c A1 B1 e3 e4 (by omega) (by rw [e5.2.2.1 27 rfl, zs_sm, if_pos rfl])) (fun _ => rfl) (fun _ => rfl) (fun A2 B2 hq => ?_)
      obtain ⟨m2, c2, q1, q2, q3, q4, q5, q6, q7⟩ := hq
      have hm2 := q1.1.2.2
      dsimp only
      rw [if_neg (show ¬ (1 : Int32) = 0 by decide), if_neg (show ¬ (1 : Int32) = 0 by decide)]
      rcases skip_need (k := 41) (x := 141) hC q1 (by decide +kernel) (by decide) with ⟨s1, s2, s3⟩ | ⟨A', B', r1, r2, r3⟩
      · obtain ⟨A3, B3, l1, l2, l3, l4, l5, l6⟩ := fwdL hC q1 q2 s1
        have K := keepL_trans (keepL_trans e5 q3 (Nat.le_refl _)) l5 q5
        have w27 : B3 148 27 = zn (d + 1) := by rw [l5.2.2.1 27 rfl, q3.2.2.1 27 rfl, e5.2.2.1 27 rfl, zs_sm, if_pos rfl]
        rw [s2, s3, l1, l2, Option.bind_some, Option.bind_some, Option.bind_some, Option.bind_some]
        dsimp only
        rw [if_neg (show ¬ (1 : Int32) = 0 by decide), if_neg (show ¬ (1 : Int32) = 0 by decide), zlet_e, w27, zl1, zn_sub (by omega), show d + 1 - 1 = d by omega]
        refine Or.inr ⟨A3, _, rfl, rfl, m2 + 1, c2, PS_27 l3 _, LC_27 l4 _, keep27 K h27.symm, by omega, by omega, by omega, ?_⟩
        exact pushes_27 (pushes_keep (pushes_mono q7 (g6 hd8)) l5.2.2.2) _
      · rw [r1, r2, Option.bind_some, Option.bind_some]
        exact Or.inl ⟨A', B', rfl, rfl, r3⟩
    · obtain ⟨A', B', r1, r2, r3⟩ := rfz hC h 3
      rw [if_neg (show ¬ zn d < 8 by rw [zl8, zn_lt (by omega) (by decide)]; exact hd8), if_pos (show zn d = 8 by rw [zl8, zn_eq (by omega) (by decide)]; omega), r1, r2]
      exact Or.inl ⟨A', B', rfl, rfl, r3⟩
  · rw [if_neg k40]
    by_cases k262 : tkK b t m = 262
    · have hm : m < N := pos_N hC h k262 (by decide)
      rw [if_pos k262, if_pos rfl, if_pos (i262.mp k262)]
      dsimp only
      by_cases hd8 : d < 8
      · rw [if_pos (show zn d < 8 by rw [zl8, zn_lt (by omega) (by decide)]; exact hd8), if_neg (show ¬ zn d = 8 by rw [zl8, zn_eq (by omega) (by decide)]; omega), zlet_e, hA7, if_pos k262, Option.bind_some, zadd1]
        obtain ⟨A1, B1, e1, e2, e3, e4, e5, e6⟩ := fwdL hC (PS_27 h (zn (d + 1))) (LC_27 hc (zn (d + 1))) hm
        rw [e1, e2, Option.bind_some, Option.bind_some, Option.bind_some, if_neg (show ¬ (1 : Int32) = 0 by decide)]
        dsimp only
        rw [if_neg (show ¬ (1 : Int32) = 0 by decide)]
        refine both_bind (h77 hd8 (m + 1) c A1 B1 e3 e4 (by omega) (by rw [e5.2.2.1 27 rfl, zs_sm, if_pos rfl])) (fun _ => rfl) (fun _ => rfl) (fun A2 B2 hq => ?_)
        obtain ⟨m2, c2, q1, q2, q3, q4, q5, q6, q7⟩ := hq
        have hm2 := q1.1.2.2
        have w27 : B2 148 27 = zn (d + 1) := by rw [q3.2.2.1 27 rfl, e5.2.2.1 27 rfl, zs_sm, if_pos rfl]
        dsimp only
        rw [if_neg (show ¬ (1 : Int32) = 0 by decide), if_neg (show ¬ (1 : Int32) = 0 by decide), zlet_e, w27, zl1, zn_sub (by omega), show d + 1 - 1 = d by omega]
        have K := keep27 (y := zn d) (keepL_trans e5 q3 (Nat.le_refl _)) h27.symm
        obtain ⟨A3, B3, l1, l2, l3, l4, l5, -, l6, -⟩ := layL (PS_27 q1 (zn d)) (LC_27 q2 (zn d)) (by omega) op262
        rw [l1, l2]
        refine Or.inr ⟨A3, B3, rfl, rfl, m2, c2 + 1, l3, l4, keepL_trans K l5 q5, by omega, by omega, by omega, ?_⟩
        exact pushes_not (pushes_keep (pushes_27 (pushes_mono q7 (g7 hd8)) (zn d)) l5.2.2.2) l6
      · obtain ⟨A', B', r1, r2, r3⟩ := rfz hC h 3
        rw [if_neg (show ¬ zn d < 8 by rw [zl8, zn_lt (by omega) (by decide)]; exact hd8), if_pos (show zn d = 8 by rw [zl8, zn_eq (by omega) (by decide)]; omega), r1, r2]
        exact Or.inl ⟨A', B', rfl, rfl, r3⟩
    · rw [if_neg k262, if_neg (fun hx => k262 (i262.mpr hx)), if_neg (fun hx => k40 (i40.mpr hx))]
      dsimp only
      rw [if_pos rfl]
      refine both_bind (sum_step hC h hc hcm) (fun _ => rfl) (fun _ => rfl) (fun A1 B1 hq => ?_)
      obtain ⟨m1, c1, q1, q2, q3, q4, q5, q6, q7⟩ := hq
      have hA1 : A1 119 7 = tkK b t m1 := q1.2.1.2.1
      have hB1 : B1 148 21 = tkT 0 b t m1 := q1.2.2.2.2.1
      dsimp only
      rw [if_neg (show ¬ (1 : Int32) = 0 by decide), if_neg (show ¬ (1 : Int32) = 0 by decide), zlet_e, zlet_e, hA1]
      simp only [hB1]
      have i60 := tk_iff (a := 0) (k := 60) (x := 160) (by decide +kernel) b t m1
      have i61 := tk_iff (a := 0) (k := 61) (x := 161) (by decide +kernel) b t m1
      have i62 := tk_iff (a := 0) (k := 62) (x := 162) (by decide +kernel) b t m1
      have step : ∀ k s : Int32, m1 < N → opRel k 0 s 0 → (¬ s < 23 ∧ s ≠ 26 ∧ s ≠ 30) → (s = 27 ∨ s = 28 ∨ s = 29) → s ≠ -1 → Both A0 B0 ((f68_forward 119 A1).bind fun M19 => (f71_readSum 119 125 M19).bind fun (v20, M21) => (if v20 = 0 then some ((0 : Int32), M21) else (f74_add 125 k (0 : Int32) M21).bind fun M22 => some ((1 : Int32), M22))) ((some s).bind fun v3 => (if v3 = (-1 : Int32) then (f170_bad (1 : Int32) B1).bind fun (v8, M9) => if zbl v8 = true then some (v8, M9) else none else (f157_next0 B1).bind fun M4 => (f171_sumUp M4).bind fun (v5, M6) => (if v5 = 0 then some ((0 : Int32), M6) else (f174_lay v3 (0 : Int32) M6).bind fun M7 => some ((1 : Int32), M7)))) (LQ b t N A0 B0 A B m c 1 (fun B' c' => pushes B' c c' hh bitV)) := by
        intro k s hm1 hr hs1 hs2 hs3
        obtain ⟨A2, B2, e1, e2, e3, e4, e5, e6⟩ := fwdL hC q1 q2 hm1
        rw [Option.bind_some, if_neg hs3, e1, e2, Option.bind_some, Option.bind_some]
        refine both_bind (sum_step hC e3 e4 (by omega)) (fun _ => rfl) (fun _ => rfl) (fun A3 B3 hq => ?_)
        obtain ⟨m3, c3, w1, w2, w3, w4, w5, w6, w7⟩ := hq
        have hm3 := w1.1.2.2
        dsimp only
        obtain ⟨A4, B4, l1, l2, l3, l4, l5, -, l6, -⟩ := layL w1 w2 (by omega) hr
        rw [if_neg (show ¬ (1 : Int32) = 0 by decide), if_neg (show ¬ (1 : Int32) = 0 by decide), l1, l2]
        have K := keepL_trans (keepL_trans e5 w3 (Nat.le_refl _)) l5 w5
        refine Or.inr ⟨A4, B4, rfl, rfl, m3, c3 + 1, l3, l4, keepL_trans q3 K q5, by omega, by omega, by omega, ?_⟩
        exact pushes_two (pushes_keep q7 K.2.2.2) (pushes_keep w7 l5.2.2.2) (by omega) g4 s l6 hs1 (both_cmp hs2)
      by_cases k60 : tkK b t m1 = 60
      · rw [if_pos k60, if_pos (i60.mp k60)]
        rw [k60]
        exact step 60 27 (pos_N hC q1 k60 (by decide)) op60 (by decide) (Or.inl rfl) (by decide)
      · rw [if_neg k60, if_neg (fun hx => k60 (i60.mpr hx))]
        by_cases k61 : tkK b t m1 = 61
        · rw [if_pos k61, if_pos (i61.mp k61)]
          rw [k61]
          exact step 61 28 (pos_N hC q1 k61 (by decide)) op61 (by decide) (Or.inr (Or.inl rfl)) (by decide)
        · rw [if_neg k61, if_neg (fun hx => k61 (i61.mpr hx))]
          by_cases k62 : tkK b t m1 = 62
          · rw [if_pos k62, if_pos (i62.mp k62)]
            rw [k62]
            exact step 62 29 (pos_N hC q1 k62 (by decide)) op62 (by decide) (Or.inr (Or.inr rfl)) (by decide)
          · rw [if_neg k62, if_neg (fun hx => k62 (i62.mpr hx)), Option.bind_some, if_pos rfl]
            exact both_rfz hC q1 1 (fun _ => rfl) (fun _ => rfl)
end
section
-- any and every, in one loop of the class
def anyTail (g77 : Nat → Nat → Int32 → Int32 → ZI → Option (Int32 × ZI)) (a3 : Int32) (n : Nat) (x1 x3 : Int32) (M10 : ZI) : Option (Int32 × ZI) :=
  ((if (M10 119 7) = (261 : Int32) then some (1 : Int32) else some (0 : Int32)) : Option (Int32)).bind fun v11 =>
  zlet (fun (x12 : Int32) (M13 : ZI) => ((f68_forward 119 M13).bind fun M14 => f76_l9 g77 119 125 0 a3 n x12 v11 (x3 + (1 : Int32)) M14 : Option (Int32 × ZI))) fun j15 =>
  (if v11 = 0 then ((if x1 = 0 then some M10 else (f74_add 125 (260 : Int32) (0 : Int32) M10).bind fun M16 => some M16) : Option (ZI)).bind fun M17 =>
  ((if (M17 119 7) = (260 : Int32) then some (1 : Int32) else some (0 : Int32)) : Option (Int32)).bind fun v18 =>
  (if v18 = 0 then some ((1 : Int32), M17) else j15 v18 M17) else j15 x1 M10)
theorem any_l9 (g77 : Nat → Nat → Int32 → Int32 → ZI → Option (Int32 × ZI)) (a3 : Int32) (n : Nat) (x1 x2 x3 : Int32) (M4 : ZI) : f76_l9 g77 119 125 0 a3 (n + 1) x1 x2 x3 M4 = (if x3 < (400 : Int32) then (g77 119 125 0 a3 M4).bind fun (v7, M8) => (if v7 = 0 then some ((0 : Int32), M8) else ((if x2 = 0 then some M8 else (f74_add 125 (261 : Int32) (0 : Int32) M8).bind fun M9 => some M9) : Option (ZI)).bind fun M10 => anyTail g77 a3 n x1 x3 M10) else (f70_refuse 119 (1 : Int32) M4).bind fun (v5, M6) => if zbl v5 = true then some (v5, M6) else none) := rfl
def bitI (x : Bool) : Int32 := if x = true then 1 else 0
def anyRest (g177 : ZI → Option (Int32 × ZI)) (x1 : Bool) (hh : Nat) (p : Int32 × ZI) : Option (Int32 × ZI) := match p with | (v, M2) => if v = 0 then some ((0 : Int32), M2) else if x1 = true then (f174_lay (32 : Int32) (0 : Int32) M2).bind fun M7 => f175_l9 (f176_every_b g177) hh M7 else f175_l9 (f176_every_b g177) hh M2
theorem any_tail {b : Nat → Nat} {t n N d h ms c0 : Nat} {A0 B0 As Bs : ZI} {g77 : Nat → Nat → Int32 → Int32 → ZI → Option (Int32 × ZI)} {g177 : ZI → Option (Int32 × ZI)} (hC : CX 0 b t n N A0 B0) (hone : OneOK b t N A0 B0 (g77 119 125 0 (zn d)) g177 d h) : ∀ f m x3 c ce gg hh A B (x1 : Bool), N - m < f → N - m < gg → N - m < hh → x3 + (N - m) ≤ 399 → PS 0 b t N A0 B0 A B m → LC A B c → c ≤ m → B 148 27 = zn d → keepL As Bs A B c0 → c0 ≤ ce → ce ≤ c → ms + 1 ≤ m → (x1 = false → ce = c0 ∧ c + ms ≤ c0 + m) → (x1 = true → pushes B c0 ce (h + 2) bitV ∧ c + 1 + ms ≤ c0 + m ∧ c + 1 ≤ m) → pushes B ce c (h + 1) bitV →
    Both A0 B0 (anyTail g77 (zn d) f (bitI x1) (zn x3) A) ((f176_l9 g177 gg B).bind (anyRest g177 x1 hh)) (LQ b t N A0 B0 As Bs ms c0 1 (fun B' c' => pushes B' c0 c' (h + 2) bitV))
  | 0, m, x3, c, ce, gg, hh, A, B, x1, h1, h2, h3, h4, hP, hc, hcm, h27, hk, he1, he2, hms, hx0, hx1, hp => by omega
  | f + 1, m, x3, c, ce, gg, hh, A, B, x1, h1, h2, h3, h4, hP, hc, hcm, h27, hk, he1, he2, hms, hx0, hx1, hp => by
    obtain ⟨gg, rfl⟩ : ∃ q, gg = q + 1 := ⟨gg - 1, by omega⟩
    obtain ⟨hh, rfl⟩ : ∃ q, hh = q + 1 := ⟨hh - 1, by omega⟩
    have hN := hC.2.1.1
    have hmN := hP.1.2.2
    have hA7 : A 119 7 = tkK b t m := hP.2.1.2.1
    have hB21 : B 148 21 = tkT 0 b t m := hP.2.2.2.2.1
    have i261 := tk_iff (a := 0) (k := 261) (x := 5) (by decide +kernel) b t m
    have i260 := tk_iff (a := 0) (k := 260) (x := 4) (by decide +kernel) b t m
    have lx : m < N → zn (x3 + 1) < 400 := fun hm => by rw [zl400, zn_lt (by omega) (by decide)]; omega
    -- behind the or that was to be laid
    have orStep : ∀ A' B' c', PS 0 b t N A0 B0 A' B' m → LC A' B' c' → c' ≤ m → keepL As Bs A' B' c0 → c0 ≤ c' → c' + ms ≤ c0 + m → B' 148 27 = zn d → pushes B' c0 c' (h + 2) bitV → Both A0 B0 (((if (A' 119 7) = (260 : Int32) then some (1 : Int32) else some (0 : Int32)) : Option (Int32)).bind fun v18 => (if v18 = 0 then some ((1 : Int32), A') else (f68_forward 119 A').bind fun M14 => f76_l9 g77 119 125 0 (zn d) (f + 1) v18 0 (zn x3 + (1 : Int32)) M14)) (f175_l9 (f176_every_b g177) (hh + 1) B') (LQ b t N A0 B0 As Bs ms c0 1 (fun B' c' => pushes B' c0 c' (h + 2) bitV)) := by
      intro A' B' c' p1 p2 p3 p4 p5 p6 p7 p8
      rw [f175_l9, show A' 119 7 = tkK b t m from p1.2.1.2.1, show B' 148 21 = tkT 0 b t m from p1.2.2.2.2.1]
      by_cases k260 : tkK b t m = 260
      · have hm : m < N := pos_N hC p1 k260 (by decide)
        obtain ⟨A1, B1, e1, e2, e3, e4, e5, e6⟩ := fwdL hC p1 p2 hm
        rw [if_pos k260, if_pos (i260.mp k260), Option.bind_some, if_neg (show ¬ (1 : Int32) = 0 by decide), e1, e2, Option.bind_some, Option.bind_some, any_l9, zadd1, if_pos (lx hm), f176_every_b, Option.bind_assoc]
        refine both_bind (hone (m + 1) c' A1 B1 e3 e4 (by omega) (by rw [e5.2.2.1 27 rfl]; exact p7)) (fun _ => rfl) (fun _ => rfl) (fun A2 B2 hq => ?_)
        obtain ⟨m2, c2, q1, q2, q3, q4, q5, q6, q7⟩ := hq
        have hm2 := q1.1.2.2
        dsimp only
        rw [if_neg (show ¬ (1 : Int32) = 0 by decide), if_neg (show ¬ (1 : Int32) = 0 by decide), if_pos rfl, Option.bind_some]
        have K := keepL_trans e5 q3 (Nat.le_refl _)
        exact any_tail hC hone f m2 (x3 + 1) c2 c' zfu hh A2 B2 true (by omega) (by rw [zfu_eq]; omega) (by omega) (by omega) q1 q2 (by omega) (by rw [K.2.2.1 27 rfl]; exact p7) (keepL_trans p4 K p5) p5 q5 (by omega) (fun hc => absurd hc (by decide)) (fun _ => ⟨pushes_keep p8 K.2.2.2, by omega, by omega⟩) (pushes_mono q7 (by omega))
      · rw [if_neg k260, if_neg (fun hx => k260 (i260.mpr hx)), Option.bind_some, if_pos rfl]
        exact Or.inr ⟨A', B', rfl, rfl, m, c', p1, p2, p4, by omega, p5, p6, p8⟩
    unfold anyTail
    rw [f176_l9, hA7, hB21]
    by_cases k261 : tkK b t m = 261
    · have hm : m < N := pos_N hC hP k261 (by decide)
      obtain ⟨A1, B1, e1, e2, e3, e4, e5, e6⟩ := fwdL hC hP hc hm
      rw [if_pos k261, if_pos (i261.mp k261), Option.bind_some, zlet_e, if_neg (show ¬ (1 : Int32) = 0 by decide)]
      dsimp only
      rw [e1, e2, Option.bind_some, Option.bind_some, any_l9, zadd1, if_pos (lx hm), Option.bind_assoc]
      refine both_bind (hone (m + 1) c A1 B1 e3 e4 (by omega) (by rw [e5.2.2.1 27 rfl]; exact h27)) (fun _ => rfl) (fun _ => rfl) (fun A2 B2 hq => ?_)
      obtain ⟨m2, c2, q1, q2, q3, q4, q5, q6, q7⟩ := hq
      have hm2 := q1.1.2.2
      dsimp only
      obtain ⟨A3, B3, l1, l2, l3, l4, l5, -, l6, -⟩ := layL q1 q2 (by omega) op261
      rw [if_neg (show ¬ (1 : Int32) = 0 by decide), if_neg (show ¬ (1 : Int32) = 0 by decide), if_neg (show ¬ (1 : Int32) = 0 by decide), l1, l2, Option.bind_some, Option.bind_some, Option.bind_some]
      have K := keepL_trans (keepL_trans e5 q3 (Nat.le_refl _)) l5 q5
      refine any_tail hC hone f m2 (x3 + 1) (c2 + 1) ce gg (hh + 1) A3 B3 x1 (by omega) (by omega) (by omega) (by omega) l3 l4 (by omega) (by rw [K.2.2.1 27 rfl]; exact h27) (keepL_trans hk K (by omega)) he1 (by omega) (by omega) (fun hf => ⟨(hx0 hf).1, by have := (hx0 hf).2; omega⟩) (fun ht => ⟨pushes_keep (hx1 ht).1 (fun j hj => K.2.2.2 j (by omega)), by have := (hx1 ht).2.1; omega, by have := (hx1 ht).2.2; omega⟩) ?_
      exact pushes_two (pushes_keep hp K.2.2.2) (pushes_keep q7 l5.2.2.2) (Nat.le_refl _) (by omega) 31 l6 (by decide) both_and
    · rw [if_neg k261, if_neg (fun hx => k261 (i261.mpr hx)), Option.bind_some, Option.bind_some, zlet_e, if_pos rfl]
      cases x1 with
      | false =>
        obtain ⟨rfl, hx0⟩ := hx0 rfl
        unfold anyRest bitI
        dsimp only
        rw [if_neg (show ¬ (1 : Int32) = 0 by decide), if_neg (show ¬ false = true by decide), if_neg (show ¬ false = true by decide), if_pos rfl, Option.bind_some]
        exact orStep A B c hP hc hcm hk he2 hx0 h27 (pushes_mono hp (by omega))
      | true =>
        obtain ⟨hp1, hx1, hx2⟩ := hx1 rfl
        unfold anyRest bitI
        dsimp only
        obtain ⟨A3, B3, l1, l2, l3, l4, l5, -, l6, -⟩ := layL hP hc (by omega) op260
        rw [if_neg (show ¬ (1 : Int32) = 0 by decide), if_pos (show true = true from rfl), if_pos (show true = true from rfl), if_neg (show ¬ (1 : Int32) = 0 by decide), l1, l2, Option.bind_some, Option.bind_some, Option.bind_some]
        refine orStep A3 B3 (c + 1) l3 l4 (by omega) (keepL_trans hk l5 (by omega)) (by omega) (by omega) (by rw [l5.2.2.1 27 rfl]; exact h27) ?_
        exact pushes_two (pushes_keep hp1 (fun j hj => l5.2.2.2 j (by omega))) (pushes_keep hp l5.2.2.2) (Nat.le_refl _) (by omega) 32 l6 (by decide) both_or
theorem any_step {b : Nat → Nat} {t n N d h : Nat} {A0 B0 : ZI} {g77 : Nat → Nat → Int32 → Int32 → ZI → Option (Int32 × ZI)} {g177 : ZI → Option (Int32 × ZI)} (hC : CX 0 b t n N A0 B0) (hone : OneOK b t N A0 B0 (g77 119 125 0 (zn d)) g177 d h) : OneOK b t N A0 B0 (f76_readAny_b g77 119 125 0 (zn d)) (f175_any_b (f176_every_b g177)) d (h + 2) := by
  intro m c A B hP hc hcm h27
  have hN := hC.2.1.1
  have key : ∀ F, 401 < F → Both A0 B0 (f76_l9 g77 119 125 0 (zn d) F 0 0 0 A) (f175_any_b (f176_every_b g177) B) (LQ b t N A0 B0 A B m c 1 (fun B' c' => pushes B' c c' (h + 2) bitV)) := by
    intro F hF
    obtain ⟨F, rfl⟩ : ∃ q, F = q + 1 := ⟨F - 1, by omega⟩
    unfold f175_any_b
    rw [any_l9, if_pos (show (0 : Int32) < 400 by decide), show f176_every_b g177 B = (g177 B).bind fun (v1, M2) => (if v1 = 0 then some ((0 : Int32), M2) else f176_l9 g177 zfu M2) from rfl, Option.bind_assoc]
    refine both_bind (hone m c A B hP hc hcm h27) (fun _ => rfl) (fun _ => rfl) (fun A2 B2 hq => ?_)
    obtain ⟨m2, c2, q1, q2, q3, q4, q5, q6, q7⟩ := hq
    dsimp only
    rw [if_neg (show ¬ (1 : Int32) = 0 by decide), if_neg (show ¬ (1 : Int32) = 0 by decide), if_pos rfl, Option.bind_some]
    exact any_tail hC hone F m2 0 c2 c zfu zfu A2 B2 false (by omega) (by rw [zfu_eq]; omega) (by rw [zfu_eq]; omega) (by omega) q1 q2 (by omega) (by rw [q3.2.2.1 27 rfl]; exact h27) q3 (Nat.le_refl _) q5 q4 (fun _ => ⟨rfl, by omega⟩) (fun hc => absurd hc (by decide)) (pushes_mono q7 (by omega))
  have := key zfu (by rw [zfu_eq]; omega)
  exact this
/-- one test, any test: in step at every depth -/
theorem tests_ok {b : Nat → Nat} {t n N : Nat} {A0 B0 : ZI} (hC : CX 0 b t n N A0 B0) : ∀ D d, d + D = 8 → (∀ F G, 2 * D + 1 ≤ F → 3 * D + 1 ≤ G → OneOK b t N A0 B0 (f77_readOne F 119 125 0 (zn d)) (f177_oneTest G) d (4 + 2 * D)) ∧ ∀ F G, 2 * D + 2 ≤ F → 3 * D + 3 ≤ G → OneOK b t N A0 B0 (f76_readAny F 119 125 0 (zn d)) (f175_any G) d (6 + 2 * D) := by
  intro D
  induction D with
  | zero =>
    intro d hd
    have one : ∀ F G, 2 * 0 + 1 ≤ F → 3 * 0 + 1 ≤ G → OneOK b t N A0 B0 (f77_readOne F 119 125 0 (zn d)) (f177_oneTest G) d (4 + 2 * 0) := by
      intro F G hF hG
      obtain ⟨F, rfl⟩ : ∃ q, F = q + 1 := ⟨F - 1, by omega⟩
      obtain ⟨G, rfl⟩ : ∃ q, G = q + 1 := ⟨G - 1, by omega⟩
      rw [fe77, fe177]
      exact one_step (h6 := 0) (h7 := 0) hC (by omega) (fun hd8 => by omega) (fun hd8 => by omega) (by omega) (fun hd8 => by omega) (fun hd8 => by omega)
    refine ⟨one, fun F G hF hG => ?_⟩
    obtain ⟨F, rfl⟩ : ∃ q, F = q + 1 := ⟨F - 1, by omega⟩
    obtain ⟨G, rfl⟩ : ∃ q, G = q + 2 := ⟨G - 2, by omega⟩
    have e := any_step hC (one F G (by omega) (by omega))
    rw [fe76, fe175, fe176]
    exact e
  | succ D ih =>
    intro d hd
    have one : ∀ F G, 2 * (D + 1) + 1 ≤ F → 3 * (D + 1) + 1 ≤ G → OneOK b t N A0 B0 (f77_readOne F 119 125 0 (zn d)) (f177_oneTest G) d (4 + 2 * (D + 1)) := by
      intro F G hF hG
      obtain ⟨F, rfl⟩ : ∃ q, F = q + 1 := ⟨F - 1, by omega⟩
      obtain ⟨G, rfl⟩ : ∃ q, G = q + 1 := ⟨G - 1, by omega⟩
      obtain ⟨ih1, ih2⟩ := ih (d + 1) (by omega)
      rw [fe77, fe177]
      exact one_step hC (by omega) (fun hd8 => ih2 F G (by omega) (by omega)) (fun hd8 => ih1 F G (by omega) (by omega)) (by omega) (fun hd8 => by omega) (fun hd8 => by omega)
    refine ⟨one, fun F G hF hG => ?_⟩
    obtain ⟨F, rfl⟩ : ∃ q, F = q + 1 := ⟨F - 1, by omega⟩
    obtain ⟨G, rfl⟩ : ∃ q, G = q + 2 := ⟨G - 2, by omega⟩
    have e := any_step hC (one F G (by omega) (by omega))
    rw [fe76, fe175, fe176, show 6 + 2 * (D + 1) = 4 + 2 * (D + 1) + 2 by omega]
    exact e
end
section
-- ===== text of THE LAW: its lines =====
def lineR (A B : ZI) (c i : Nat) : Prop := wordRel (A 129 i) (B 153 (4 * i + 3)) ∧ A 130 i = B 153 (4 * i) ∧ A 131 i = B 153 (4 * i + 1) ∧ A 132 i = B 153 (4 * i + 2) ∧ ∃ p q r, p ≤ q ∧ q ≤ r ∧ r ≤ c ∧ B 153 (4 * i) = zn p ∧ B 153 (4 * i + 1) = zn q ∧ B 153 (4 * i + 2) = zn r ∧ pushes B p q 3 anyV ∧ (q = r ∨ pushes B q r 22 bitV)
theorem lineR_of {A B A' B' : ZI} {c c' i : Nat} (h : lineR A B c i) (g1 : A' 129 i = A 129 i ∧ A' 130 i = A 130 i ∧ A' 131 i = A 131 i ∧ A' 132 i = A 132 i) (g2 : ∀ k, k < 4 → B' 153 (4 * i + k) = B 153 (4 * i + k)) (g3 : ∀ j, j < 2 * c → B' 154 j = B 154 j) (hc : c ≤ c') : lineR A' B' c' i := by
  obtain ⟨h1, h2, h3, h4, p, q, r, h5, h6, h7, h8, h9, h10, h11, h12⟩ := h
  have e0 : B' 153 (4 * i) = B 153 (4 * i) := g2 0 (by decide)
  unfold lineR
  rw [g1.1, g1.2.1, g1.2.2.1, g1.2.2.2, e0, g2 1 (by decide), g2 2 (by decide), g2 3 (by decide)]
  refine ⟨h1, h2, h3, h4, p, q, r, h5, h6, by omega, h8, h9, h10, pushes_keep h11 (fun j hj => g3 j (by omega)), ?_⟩
  rcases h12 with h12 | h12
  · exact Or.inl h12
  · exact Or.inr (pushes_keep h12 (fun j hj => g3 j (by omega)))
def lineK (n : Nat) (p : Int32 × ZI) : Option (Int32 × ZI) := match p with | (v5, M6) => (if v5 = 0 then zlet (zs M6 148 15 ((M6 148 15) + (0 : Int32))) fun (M7 : ZI) => f168_l12 n v5 M7 else zlet (zs M6 148 15 ((M6 148 15) + (1 : Int32))) fun (M8 : ZI) => f168_l12 n v5 M8)
theorem l12_eq (n : Nat) (x3 : Int32) (M4 : ZI) : f168_l12 (n + 1) x3 M4 = (if x3 = 0 then some (x3, M4) else (if (M4 148 21) = 0 then some (x3, M4) else (f169_aLine M4).bind (lineK n))) := rfl
theorem zs_id {M : ZI} {o j : Nat} {v : Int32} (h : v = M o j) : zs M o j v = M := by
  funext o' j'
  by_cases ho : o' = o
  · rw [ho, zs_sm]
    by_cases hj : j' = j
    · rw [if_pos hj, h, hj]
    · rw [if_neg hj]
  · rw [zs_df ho]
theorem lineK_0 (n : Nat) (B : ZI) : lineK (n + 1) (0, B) = some (0, B) := by
  unfold lineK
  dsimp only
  rw [if_pos rfl, zlet_e, zs_id (show B 148 15 + 0 = B 148 15 by simp), l12_eq, if_pos rfl]
theorem lineK_1 (n : Nat) (B : ZI) : lineK n (1, B) = f168_l12 n 1 (zs B 148 15 ((B 148 15) + (1 : Int32))) := by
  unfold lineK
  dsimp only
  rw [if_neg (by decide), zlet_e]
theorem add80 {A : ZI} {L c : Nat} {x8 x11 x14 : Int32} (h : A 124 5 = zn L) (hL : L < 16) (hc : A 125 3 = zn c) : f80_add 124 x8 x11 x14 A = some (zs (zs (zs (zs (zs A 129 L x8) 130 L x11) 131 L x14) 132 L (zn c)) 124 5 (zn (L + 1))) := by
  have hz : zin (zn L) 16 = true := (zn_zin (by omega)).mpr hL
  have k1 : (zs A 129 L x8) 124 5 = zn L := by rw [zs_df (by decide)]; exact h
  have k2 : (zs (zs A 129 L x8) 130 L x11) 124 5 = zn L := by rw [zs_df (by decide)]; exact k1
  have k3 : (zs (zs (zs A 129 L x8) 130 L x11) 131 L x14) 124 5 = zn L := by rw [zs_df (by decide)]; exact k2
  have k4 : (zs (zs (zs A 129 L x8) 130 L x11) 131 L x14) 125 3 = zn c := by rw [zs_df (by decide), zs_df (by decide), zs_df (by decide)]; exact hc
  have k5 : (zs (zs (zs (zs A 129 L x8) 130 L x11) 131 L x14) 132 L (zn c)) 124 5 = zn L := by rw [zs_df (by decide)]; exact k3
  unfold f80_add
  rw [h, if_pos (show zn L < 16 by rw [zl16, zn_lt (by omega) (by decide)]; exact hL), if_pos hz, zn_zi (by omega), show 124 + 5 = 129 from rfl, show 124 + 6 = 130 from rfl, show 124 + 7 = 131 from rfl, show 124 + 8 = 132 from rfl, show 124 + 1 = 125 from rfl, zlet_e, k1, if_pos hz, zn_zi (by omega), zlet_e, k2, if_pos hz, zn_zi (by omega), zlet_e, k3, k4, if_pos hz, zn_zi (by omega), zlet_e, k5, zadd1, zlet_e]
/-- the reference writes into its lines -/
def wrL (B B' : ZI) : Prop := (∀ o, o ≠ 148 → o ≠ 153 → B' o = B o) ∧ ∀ j, j ≠ 15 → j ≠ 27 → B' 148 j = B 148 j
theorem wrL_153 (B : ZI) (i : Nat) (v : Int32) : wrL B (zs B 153 i v) := ⟨fun o _ o2 => by rw [zs_df o2], fun j _ _ => by rw [zs_df (by decide)]⟩
theorem wrL_148 (B : ZI) {i : Nat} (hi : i = 15 ∨ i = 27) (v : Int32) : wrL B (zs B 148 i v) := ⟨fun o o1 _ => by rw [zs_df o1], fun j j1 j2 => by rw [zs_sm, if_neg (by omega)]⟩
theorem PS_wrL {a : Nat} {b : Nat → Nat} {t N m : Nat} {A0 B0 A B B' : ZI} (h : PS a b t N A0 B0 A B m) (g : wrL B B') : PS a b t N A0 B0 A B' m := PS_of h (fun _ _ => rfl) (fun o o1 o2 => g.1 o o1 (by omega)) (fun j hj => g.2 j (by rintro rfl; exact absurd hj (by decide)) (by rintro rfl; exact absurd hj (by decide)))
theorem LC_wrL {A B B' : ZI} {c : Nat} (h : LC A B c) (g : wrL B B') : LC A B' c := LC_of h (fun _ _ _ => rfl) (g.2 16 (by decide) (by decide)) (g.1 154 (by decide) (by decide))
theorem PS_clsL {a : Nat} {b : Nat → Nat} {t N m : Nat} {A0 B0 A A' B : ZI} (h : PS a b t N A0 B0 A B m) (g : ∀ o, ¬ (124 ≤ o ∧ o ≤ 146) → A' o = A o) : PS a b t N A0 B0 A' B m := PS_of h g (fun _ _ _ => rfl) (fun _ _ => rfl)
theorem line_pair : (pairs 0).all (fun q => (q.1 == 256 && q.2 == 20) || (q.1 == 257 && q.2 == 21) || (q.1 == 258 && q.2 == 22) || ((!(q.1 == 256)) && (!(q.1 == 257)) && (!(q.1 == 258)) && (decide (q.2 < 20) || decide (22 < q.2)))) = true := by decide +kernel
def LawQ (b : Nat → Nat) (t N : Nat) (A0 B0 A' B' : ZI) : Prop := ∃ m L c, PS 0 b t N A0 B0 A' B' m ∧ LC A' B' c ∧ c ≤ 400 ∧ L ≤ 16 ∧ A' 124 5 = zn L ∧ B' 148 15 = zn L ∧ ∀ i, i < L → lineR A' B' c i
-- the pieces of a line
def clsEnd (f : Nat) (x3 x8 x11 x14 : Int32) (M15 : ZI) : Option (Int32 × ZI) := (f78_skip 119 (59 : Int32) M15).bind fun (v16, M17) => (if v16 = 0 then some ((0 : Int32), M17) else (f80_add (119 + 5) x8 x11 x14 M17).bind fun M18 => f69_l21 119 f (x3 + (1 : Int32)) M18)
def clsLine (f : Nat) (x3 x8 : Int32) (M9 : ZI) : Option (Int32 × ZI) := (if (M9 (119 + 5) 5) < (16 : Int32) then (f68_forward 119 M9).bind fun M10 => zlet (M10 (119 + 6) 3) fun (x11 : Int32) => (f71_readSum 119 (119 + 6) M10).bind fun (v12, M13) => (if v12 = 0 then some ((0 : Int32), M13) else zlet (M13 (119 + 6) 3) fun (x14 : Int32) => zlet (clsEnd f x3 x8 x11 x14) fun j19 =>
  (if (M13 119 7) = (259 : Int32) then (f68_forward 119 M13).bind fun M20 => (f76_readAny zgf 119 (119 + 6) (0 : Int32) (0 : Int32) M20).bind fun (v21, M22) => (if v21 = 0 then some ((0 : Int32), M22) else j19 M22) else j19 M13)) else (f70_refuse 119 (3 : Int32) M9).bind fun (v23, M24) => if zbl v23 = true then some (v23, M24) else none)
def refEnd (M9 : ZI) : Option (Int32 × ZI) := (if zin (((4 : Int32) * (M9 148 15)) + (2 : Int32)) 64 = true then zlet (zs M9 153 (zi (((4 : Int32) * (M9 148 15)) + (2 : Int32))) (M9 148 16)) fun (M10 : ZI) => (f179_need (159 : Int32) M10).bind fun (v11, M12) => if zbl v11 = true then some (v11, M12) else none else none)
def refLine (T : Int32) (L : Nat) (M : ZI) : Option (Int32 × ZI) := (if zn L = (16 : Int32) then (f170_bad (3 : Int32) M).bind fun (v17, M18) => if zbl v17 = true then some (v17, M18) else none else zlet (zs M 148 27 (0 : Int32)) fun (M2 : ZI) => if zin (((4 : Int32) * (M2 148 15)) + (3 : Int32)) 64 = true then zlet (zs M2 153 (zi (((4 : Int32) * (M2 148 15)) + (3 : Int32))) (M2 148 21)) fun (M3 : ZI) => (f157_next0 M3).bind fun M4 => if zin ((4 : Int32) * (M4 148 15)) 64 = true then zlet (zs M4 153 (zi ((4 : Int32) * (M4 148 15))) (M4 148 16)) fun (M5 : ZI) => (f171_sumUp M5).bind fun (v6, M7) => (if v6 = 0 then some ((0 : Int32), M7) else if zin (((4 : Int32) * (M7 148 15)) + (1 : Int32)) 64 = true then zlet (zs M7 153 (zi (((4 : Int32) * (M7 148 15)) + (1 : Int32))) (M7 148 16)) fun (M8 : ZI) => zlet refEnd fun j13 =>
  (if (M8 148 21) = (3 : Int32) then (f157_next0 M8).bind fun M14 => (f175_any zgf M14).bind fun (v15, M16) => (if v15 = 0 then some ((0 : Int32), M16) else j13 M16) else j13 M8) else none) else none else none)
end
section
theorem law_loop {b : Nat → Nat} {t n N : Nat} {A0 B0 : ZI} (hC : CX 0 b t n N A0 B0) : ∀ f m x3 c L g A B, N - m < f → N - m < g → 2 * x3 + (N - m) ≤ 400 → PS 0 b t N A0 B0 A B m → LC A B c → c ≤ m → L ≤ 16 → A 124 5 = zn L → B 148 15 = zn L → (∀ i, i < L → lineR A B c i) →
    Both A0 B0 (f69_l21 119 f (zn x3) A) (f168_l12 g 1 B) (LawQ b t N A0 B0)
  | 0, m, x3, c, L, g, A, B, h1, h2, h3, h, hc, hcm, hL, hA5, hB15, hl => by omega
  | f + 1, m, x3, c, L, g, A, B, h1, h2, h3, h, hc, hcm, hL, hA5, hB15, hl => by
    obtain ⟨g, rfl⟩ : ∃ q, g = q + 1 := ⟨g - 1, by omega⟩
    have hN := hC.2.1.1
    have hmN := h.1.2.2
    have hA7 : A 119 7 = tkK b t m := h.2.1.2.1
    have hB21 : B 148 21 = tkT 0 b t m := h.2.2.2.2.1
    have iend := tk_iff (a := 0) (k := -1) (x := 0) (by decide +kernel) b t m
    have i259 := fun m => tk_iff (a := 0) (k := 259) (x := 3) (by decide +kernel) b t m
    rw [f69_l21, l12_eq, if_pos (show zn x3 < 400 by rw [zl400, zn_lt (by omega) (by decide)]; omega), if_neg (show ¬ (1 : Int32) = 0 by decide), hA7, hB21]
    by_cases kend : tkK b t m = -1
    · rw [if_pos kend, if_pos (iend.mp kend)]
      exact Or.inr ⟨A, B, rfl, rfl, m, L, c, h, hc, by omega, hL, hA5, hB15, hl⟩
    rw [if_neg kend, if_neg (fun hx => kend (iend.mpr hx))]
    have hm : m < N := (tk_end hC h).2 kend
    obtain ⟨g, rfl⟩ : ∃ q, g = q + 1 := ⟨g - 1, by omega⟩
    have hk := tk_on line_pair b t m
    dsimp only at hk
    simp only [Bool.or_eq_true, Bool.and_eq_true, beq_iff_eq, decide_eq_true_eq, Bool.not_eq_true', beq_eq_false_iff_ne] at hk
    unfold f169_aLine f149_isIn
    rw [zlet_e, zlet_e, zlet_e, hB21, hB15]
    -- the word is one of the three
    have good : wordRel (tkK b t m) (tkT 0 b t m) → Both A0 B0 (clsLine f (zn x3) (tkK b t m) A) ((refLine (tkT 0 b t m) L B).bind (lineK (g + 1))) (LawQ b t N A0 B0) := by
      intro hw
      unfold clsLine refLine
      by_cases hL16 : L = 16
      · obtain ⟨A', B', r1, r2, r3⟩ := rfz hC h 3
        rw [hA5, if_neg (show ¬ zn L < 16 by rw [zl16, zn_lt (by omega) (by decide)]; omega), if_pos (show zn L = 16 by rw [hL16]; rfl), r1, r2]
        exact Or.inl ⟨A', B', rfl, lineK_0 _ _, r3⟩
      rw [hA5, if_pos (show zn L < 16 by rw [zl16, zn_lt (by omega) (by decide)]; omega), if_neg (show ¬ zn L = 16 by rw [zl16, zn_eq (by omega) (by decide)]; exact hL16)]
      -- the reference's word
      rw [zlet_e (zs B 148 27 0)]
      have a15 : (zs B 148 27 0) 148 15 = zn L := by rw [zs_sm, if_neg (by decide)]; exact hB15
      have a21 : (zs B 148 27 0) 148 21 = tkT 0 b t m := by rw [zs_sm, if_neg (by decide)]; exact hB21
      have a27 : (zs B 148 27 0) 148 27 = zn 0 := by rw [zs_sm, if_pos rfl]; rfl
      have wa : wrL B (zs B 148 27 0) := wrL_148 B (Or.inr rfl) 0
      have na : (zs B 148 27 0) 153 = B 153 := by rw [zs_df (by decide)]
      have na4 : (zs B 148 27 0) 154 = B 154 := by rw [zs_df (by decide)]
      generalize zs B 148 27 0 = Ba at *
      rw [a15, a21, zl4, zn_mul, zl3, zn_add, if_pos ((zn_zin (by omega)).mpr (by omega)), zn_zi (by omega), zlet_e (zs Ba 153 _ _)]
      have wb := wrL_153 Ba (4 * L + 3) (tkT 0 b t m)
      have nb : ∀ j, (zs Ba 153 (4 * L + 3) (tkT 0 b t m)) 153 j = if j = 4 * L + 3 then tkT 0 b t m else B 153 j := fun j => by rw [zs_sm, na]
      have nb4 : (zs Ba 153 (4 * L + 3) (tkT 0 b t m)) 154 = B 154 := by rw [zs_df (by decide)]; exact na4
      have nb5 : (zs Ba 153 (4 * L + 3) (tkT 0 b t m)) 148 = Ba 148 := by rw [zs_df (by decide)]
      generalize zs Ba 153 (4 * L + 3) (tkT 0 b t m) = Bb at *
      have hPb : PS 0 b t N A0 B0 A Bb m := PS_wrL (PS_wrL h wa) wb
      have hCb : LC A Bb c := LC_wrL (LC_wrL hc wa) wb
      obtain ⟨A1, Bc, e1, e2, e3, e4, e5, e6⟩ := fwdL hC hPb hCb hm
      rw [e1, e2, Option.bind_some, Option.bind_some]
      have c15 : Bc 148 15 = zn L := by rw [e5.2.2.1 15 rfl, nb5]; exact a15
      have c16 : Bc 148 16 = zn c := e4.2.1
      have nc : Bc 153 = Bb 153 := e5.2.1 153 (by decide) (by decide)
      rw [c15, c16, zn_mul, if_pos ((zn_zin (by omega)).mpr (by omega)), zn_zi (by omega), zlet_e (zs Bc 153 _ _)]
      have wd := wrL_153 Bc (4 * L) (zn c)
      have nd : ∀ j, (zs Bc 153 (4 * L) (zn c)) 153 j = if j = 4 * L then zn c else if j = 4 * L + 3 then tkT 0 b t m else B 153 j := fun j => by rw [zs_sm, nc, nb]
      have nd4 : (zs Bc 153 (4 * L) (zn c)) 154 = B 154 := by rw [zs_df (by decide), e6]; exact nb4
      have nd5 : (zs Bc 153 (4 * L) (zn c)) 148 = Bc 148 := by rw [zs_df (by decide)]
      generalize zs Bc 153 (4 * L) (zn c) = Bd at *
      have hPd := PS_wrL e3 wd
      have hCd := LC_wrL e4 wd
      have x11 : A1 125 3 = zn c := e4.1
      rw [zlet_e (A1 125 3), x11, Option.bind_assoc]
      refine both_bind (sum_step hC hPd hCd (by omega)) (fun _ => rfl) (fun B' => lineK_0 _ _) (fun A2 Be hq => ?_)
      obtain ⟨m2, c2, q1, q2, q3, q4, q5, q6, q7⟩ := hq
      have hm2 := q1.1.2.2
      have ee15 : Be 148 15 = zn L := by rw [q3.2.2.1 15 rfl, nd5]; exact c15
      have ee16 : Be 148 16 = zn c2 := q2.2.1
      have x14 : A2 125 3 = zn c2 := q2.1
      have ne : Be 153 = Bd 153 := q3.2.1 153 (by decide) (by decide)
      dsimp only
      rw [if_neg (show ¬ (1 : Int32) = 0 by decide), if_neg (show ¬ (1 : Int32) = 0 by decide), zlet_e (A2 125 3), x14, ee15, ee16, zn_mul, zl1, zn_add, if_pos ((zn_zin (by omega)).mpr (by omega)), zn_zi (by omega), zlet_e (zs Be 153 _ _)]
      have wf := wrL_153 Be (4 * L + 1) (zn c2)
      have nf : ∀ j, (zs Be 153 (4 * L + 1) (zn c2)) 153 j = if j = 4 * L + 1 then zn c2 else if j = 4 * L then zn c else if j = 4 * L + 3 then tkT 0 b t m else B 153 j := fun j => by rw [zs_sm, ne, nd]
      have nf4 : (zs Be 153 (4 * L + 1) (zn c2)) 154 = Be 154 := by rw [zs_df (by decide)]
      have nf5 : (zs Be 153 (4 * L + 1) (zn c2)) 148 = Be 148 := by rw [zs_df (by decide)]
      generalize zs Be 153 (4 * L + 1) (zn c2) = Bf at *
      have hPf := PS_wrL q1 wf
      have hCf := LC_wrL q2 wf
      have f15 : Bf 148 15 = zn L := by rw [nf5]; exact ee15
      have f27 : Bf 148 27 = zn 0 := by rw [nf5, q3.2.2.1 27 rfl, nd5, e5.2.2.1 27 rfl, nb5]; exact a27
      have f154 : ∀ j, j < 2 * c → Bf 154 j = B 154 j := fun j hj => by rw [nf4, q3.2.2.2 j hj, nd4]
      have fp : pushes Bf c c2 3 anyV := pushes_keep q7 (fun j _ => by rw [nf4])
      have fA : ∀ o, o ≠ 119 → o ≠ 125 → o ≠ 126 → o ≠ 127 → A2 o = A o := fun o o1 o2 o3 o4 => (q3.1 o o1 o2 o3 o4).trans (e5.1 o o1 o2 o3 o4)
      -- behind the condition
      have tail : ∀ A3 Bg m3 c3, PS 0 b t N A0 B0 A3 Bg m3 → LC A3 Bg c3 → m2 ≤ m3 → c2 ≤ c3 → c3 + m2 ≤ c2 + m3 → Bg 148 15 = zn L → Bg 153 = Bf 153 → (∀ j, j < 2 * c2 → Bg 154 j = Bf 154 j) → (∀ o, o ≠ 119 → o ≠ 125 → o ≠ 126 → o ≠ 127 → A3 o = A o) → (c2 = c3 ∨ pushes Bg c2 c3 22 bitV) → Both A0 B0 (clsEnd f (zn x3) (tkK b t m) (zn c) (zn c2) A3) ((refEnd Bg).bind (lineK (g + 1))) (LawQ b t N A0 B0) := by
        intro A3 Bg m3 c3 p1 p2 p3 p4 p5 p6 p7 p8 p9 p10
        have g16 : Bg 148 16 = zn c3 := p2.2.1
        have hm3 := p1.1.2.2
        unfold clsEnd refEnd
        rw [p6, g16, zl4, zn_mul, zl2, zn_add, if_pos ((zn_zin (by omega)).mpr (by omega)), zn_zi (by omega), zlet_e (zs Bg 153 _ _)]
        have wh := wrL_153 Bg (4 * L + 2) (zn c3)
        have nh : ∀ j, (zs Bg 153 (4 * L + 2) (zn c3)) 153 j = if j = 4 * L + 2 then zn c3 else if j = 4 * L + 1 then zn c2 else if j = 4 * L then zn c else if j = 4 * L + 3 then tkT 0 b t m else B 153 j := fun j => by rw [zs_sm, p7, nf]
        have nh4 : (zs Bg 153 (4 * L + 2) (zn c3)) 154 = Bg 154 := by rw [zs_df (by decide)]
        have nh5 : (zs Bg 153 (4 * L + 2) (zn c3)) 148 = Bg 148 := by rw [zs_df (by decide)]
        generalize zs Bg 153 (4 * L + 2) (zn c3) = Bh at *
        have hPh := PS_wrL p1 wh
        have hCh := LC_wrL p2 wh
        rcases skip_need (k := 59) (x := 159) hC hPh (by decide +kernel) (by decide) with ⟨s1, s2, s3⟩ | ⟨A', B', r1, r2, r3⟩
        · obtain ⟨A4, Bi, l1, l2, l3, l4, l5, l6⟩ := fwdL hC hPh hCh s1
          have i15 : Bi 148 15 = zn L := by rw [l5.2.2.1 15 rfl, nh5]; exact p6
          have ni : Bi 153 = Bh 153 := l5.2.1 153 (by decide) (by decide)
          have A4k : ∀ o, o ≠ 119 → o ≠ 125 → o ≠ 126 → o ≠ 127 → A4 o = A o := fun o o1 o2 o3 o4 => (l5.1 o o1 o2 o3 o4).trans (p9 o o1 o2 o3 o4)
          have a5 : A4 124 5 = zn L := by rw [A4k 124 (by decide) (by decide) (by decide) (by decide)]; exact hA5
          rw [s2, s3, l1, l2, Option.bind_some, Option.bind_some, Option.bind_some, Option.bind_some]
          dsimp only
          rw [if_neg (show ¬ (1 : Int32) = 0 by decide), add80 a5 (by omega) l4.1, Option.bind_some, zadd1, if_pos (show zbl (1 : Int32) = true from rfl), Option.bind_some, lineK_1, i15, zadd1]
          have i154 : ∀ j, j < 2 * c2 → Bi 154 j = Bf 154 j := fun j hj => by rw [l6, nh4]; exact p8 j hj
          refine law_loop hC f (m3 + 1) (x3 + 1) c3 (L + 1) (g + 1) _ _ (by omega) (by omega) (by omega) (PS_clsL (PS_wrL l3 (wrL_148 Bi (Or.inl rfl) _)) (fun o ho => by rw [zs_df (by omega), zs_df (by omega), zs_df (by omega), zs_df (by omega), zs_df (by omega)])) (LC_of (LC_wrL l4 (wrL_148 Bi (Or.inl rfl) _)) (fun o o1 o2 => by rw [zs_df (by omega), zs_df (by omega), zs_df (by omega), zs_df (by omega), zs_df (by omega)]) rfl rfl) (by omega) (by omega) (by rw [zs_sm, if_pos rfl]) (by rw [zs_sm, if_pos rfl]) (fun i hi => ?_)
          have z153 : (zs Bi 148 15 (zn (L + 1))) 153 = Bh 153 := by rw [zs_df (by decide)]; exact ni
          have z154 : (zs Bi 148 15 (zn (L + 1))) 154 = Bi 154 := by rw [zs_df (by decide)]
          by_cases hiL : i = L
          · subst hiL
            unfold lineR
            rw [z153, nh, nh, nh, nh, if_neg (by omega), if_neg (by omega), if_neg (by omega), if_pos rfl, if_neg (by omega), if_neg (by omega), if_pos rfl, if_neg (by omega), if_pos rfl, if_pos rfl]
            refine ⟨?_, ?_, ?_, ?_, c, c2, c3, q5, p4, Nat.le_refl _, rfl, rfl, rfl, ?_, ?_⟩
            · rw [zs_df (by decide), zs_df (by decide), zs_df (by decide), zs_df (by decide), zs_sm, if_pos rfl]; exact hw
            · rw [zs_df (by decide), zs_df (by decide), zs_df (by decide), zs_sm, if_pos rfl]
            · rw [zs_df (by decide), zs_df (by decide), zs_sm, if_pos rfl]
            · rw [zs_df (by decide), zs_sm, if_pos rfl]
            · exact pushes_keep fp (fun j hj => by rw [z154]; exact i154 j hj)
            · rcases p10 with p10 | p10
              · exact Or.inl p10
              · exact Or.inr (pushes_keep p10 (fun j _ => by rw [z154, l6, nh4]))
          · refine lineR_of (hl i (by omega)) ⟨?_, ?_, ?_, ?_⟩ (fun k hk => ?_) (fun j hj => ?_) (by omega)
            · rw [zs_df (by decide), zs_df (by decide), zs_df (by decide), zs_df (by decide), zs_sm, if_neg hiL, A4k 129 (by decide) (by decide) (by decide) (by decide)]
            · rw [zs_df (by decide), zs_df (by decide), zs_df (by decide), zs_sm, if_neg hiL, zs_df (by decide), A4k 130 (by decide) (by decide) (by decide) (by decide)]
            · rw [zs_df (by decide), zs_df (by decide), zs_sm, if_neg hiL, zs_df (by decide), zs_df (by decide), A4k 131 (by decide) (by decide) (by decide) (by decide)]
            · rw [zs_df (by decide), zs_sm, if_neg hiL, zs_df (by decide), zs_df (by decide), zs_df (by decide), A4k 132 (by decide) (by decide) (by decide) (by decide)]
            · rw [z153, nh, if_neg (by omega), if_neg (by omega), if_neg (by omega), if_neg (by omega)]
            · rw [z154, i154 j (by omega), f154 j hj]
        · rw [r1, r2]
          exact Or.inl ⟨A', B', rfl, lineK_0 _ _, r3⟩
      rw [zlet_e, zlet_e, show A2 119 7 = tkK b t m2 from q1.2.1.2.1, show Bf 148 21 = tkT 0 b t m2 from hPf.2.2.2.2.1]
      by_cases k259 : tkK b t m2 = 259
      · have hmm : m2 < N := pos_N hC q1 k259 (by decide)
        obtain ⟨A3, Bg, l1, l2, l3, l4, l5, l6⟩ := fwdL hC hPf hCf hmm
        rw [if_pos k259, if_pos (show tkT 0 b t m2 = zn 3 from (i259 m2).mp k259), l1, l2, Option.bind_some, Option.bind_some, Option.bind_assoc]
        have htest : OneOK b t N A0 B0 (f76_readAny zgf 119 125 0 0) (f175_any zgf) 0 22 := (tests_ok hC 8 0 rfl).2 zgf zgf (by unfold zgf; decide) (by unfold zgf; decide)
        refine both_bind (htest (m2 + 1) c2 A3 Bg l3 l4 (by omega) (by rw [l5.2.2.1 27 rfl]; exact f27)) (fun _ => rfl) (fun B' => lineK_0 _ _) (fun A4 Bh hq => ?_)
        obtain ⟨m4, c4, w1, w2, w3, w4, w5, w6, w7⟩ := hq
        have K := keepL_trans l5 w3 (Nat.le_refl _)
        dsimp only
        rw [if_neg (show ¬ (1 : Int32) = 0 by decide), if_neg (show ¬ (1 : Int32) = 0 by decide)]
        exact tail A4 Bh m4 c4 w1 w2 (by omega) w5 (by omega) (by rw [K.2.2.1 15 rfl]; exact f15) (K.2.1 153 (by decide) (by decide)) K.2.2.2 (fun o o1 o2 o3 o4 => (K.1 o o1 o2 o3 o4).trans (fA o o1 o2 o3 o4)) (Or.inr w7)
      · rw [if_neg k259, if_neg (show ¬ tkT 0 b t m2 = zn 3 from fun hx => k259 ((i259 m2).mpr hx))]
        exact tail A2 Bf m2 c2 hPf hCf (Nat.le_refl _) (Nat.le_refl _) (by omega) f15 rfl (fun _ _ => rfl) fA (Or.inl rfl)
    rcases hk with ((⟨k1, k2⟩ | ⟨k1, k2⟩) | ⟨k1, k2⟩) | ⟨⟨⟨k1, k2⟩, k3⟩, k4⟩
    · have good := good (Or.inl ⟨k1, k2⟩)
      rw [k1, k2] at good ⊢
      exact good
    · have good := good (Or.inr (Or.inl ⟨k1, k2⟩))
      rw [k1, k2] at good ⊢
      exact good
    · have good := good (Or.inr (Or.inr ⟨k1, k2⟩))
      rw [k1, k2] at good ⊢
      exact good
    · have e2 : ((if tkT 0 b t m < 20 then some (0 : Int32) else (if (22 : Int32) < tkT 0 b t m then some (0 : Int32) else some (1 : Int32))) : Option Int32) = some 0 := by
        rcases k4 with k4 | k4
        · rw [if_pos k4]
        · rw [if_pos k4]
          split <;> rfl
      obtain ⟨A', B', r1, r2, r3⟩ := rfz hC h 1
      rw [if_neg k1, if_neg k2, if_neg k3, e2, Option.bind_some, if_pos rfl, r1, r2]
      exact Or.inl ⟨A', B', rfl, lineK_0 _ _, r3⟩
end
section
theorem law_read {b : Nat → Nat} {t n N : Nat} {A0 B0 A B : ZI} (hC : CX 0 b t n N A0 B0) (h : PS 0 b t N A0 B0 A B 0) : Both A0 B0 (f69_readLaw 119 A) (f168_readsLaw B) (LawQ b t N A0 B0) := by
  have hN := hC.2.1.1
  have wB : wrL B (zs B 148 15 0) := wrL_148 B (Or.inl rfl) 0
  have hP : PS 0 b t N A0 B0 (zs (zs A 124 5 0) 125 3 0) (zs (zs B 148 15 0) 148 16 0) 0 := PS_of h (fun o ho => by rw [zs_df (by omega), zs_df (by omega)]) (fun o o1 o2 => by rw [zs_df o1, zs_df o1]) (fun j hj => by rw [zs_sm, if_neg (by rintro rfl; exact absurd hj (by decide)), zs_sm, if_neg (by rintro rfl; exact absurd hj (by decide))])
  have hc : LC (zs (zs A 124 5 0) 125 3 0) (zs (zs B 148 15 0) 148 16 0) 0 := ⟨by rw [zs_sm, if_pos rfl]; rfl, by rw [zs_sm, if_pos rfl]; rfl, fun j hj => by omega⟩
  have key := law_loop hC zfu 0 0 0 0 zfu (zs (zs A 124 5 0) 125 3 0) (zs (zs B 148 15 0) 148 16 0) (by rw [zfu_eq]; omega) (by rw [zfu_eq]; omega) (by omega) hP hc (Nat.le_refl _) (by omega) (by rw [zs_df (by decide), zs_sm, if_pos rfl]; rfl) (by rw [zs_sm, if_neg (by decide), zs_sm, if_pos rfl]; rfl) (fun i hi => by omega)
  unfold f69_readLaw f168_readsLaw
  rw [zlet_e, zlet_e, zlet_e, zlet_e]
  rcases key with ⟨A', B', e1, e2, e3⟩ | ⟨A', B', e1, e2, e3⟩
  · exact Or.inl ⟨A', B', e1, by rw [e2]; rfl, e3⟩
  · exact Or.inr ⟨A', B', e1, by rw [e2]; rfl, e3⟩
-- numbers told, on both sides
theorem fwd_store {a : Nat} {b : Nat → Nat} {t n N m : Nat} {A0 B0 A B A2 : ZI} (hC : CX a b t n N A0 B0) (h : PS a b t N A0 B0 A B m) (hm : m < N) (g : ∀ o, ¬ (124 ≤ o ∧ o ≤ 146) → A2 o = A o) : ∃ A4, f68_forward 119 A2 = some A4 ∧ (∀ o, o ≠ 119 → A4 o = A2 o) ∧ ∀ A1 B1, PS a b t N A0 B0 A1 B1 (m + 1) → PS a b t N A0 B0 A4 B1 (m + 1) := by
  obtain ⟨A', B', e1, e2, e3, e4, -⟩ := fwd hC (PS_clsL h g) hm
  exact ⟨A', e1, e4, fun A1 B1 h1 => PS_mix e3 h1⟩
theorem num_step {a : Nat} {b : Nat → Nat} {t n N m : Nat} {A0 B0 A B : ZI} (hC : CX a b t n N A0 B0) (h : PS a b t N A0 B0 A B m) (lo hi : Int32) (i2 : (pairs a).all (fun q => (q.1 == -2) == (q.2 == 2)) = true) :
    (∃ A' B', f75_isNumber 119 lo hi A = some (0, A') ∧ f182_number lo hi B = some (0, B') ∧ Bad A0 B0 A' B') ∨ ∃ v A1 B1, v < 10000 ∧ ¬ zn v < lo ∧ ¬ hi < zn v ∧ m < N ∧ f75_isNumber 119 lo hi A = some (1, A) ∧ A 119 8 = zn v ∧ B 148 21 = 2 ∧ B 148 23 = zn v ∧ f182_number lo hi B = some (1, B1) ∧ PS a b t N A0 B0 A1 B1 (m + 1) ∧ B1 148 29 = zn v ∧ (∀ o, o ≠ 148 → B1 o = B o) ∧ ∀ j, j ≠ 20 → j ≠ 21 → j ≠ 22 → j ≠ 23 → j ≠ 29 → B1 148 j = B 148 j := by
  have i := tk_iff i2 b t m
  have hB21 : B 148 21 = tkT a b t m := h.2.2.2.2.1
  unfold f182_number f149_isIn
  rw [hB21]
  rcases num_at h lo hi with ⟨n1, n2⟩ | ⟨n1, n2, n3⟩ | ⟨n1, n2, n3, n4⟩
  · left
    obtain ⟨A', B', r1, r2, r3⟩ := rfz hC h 1
    refine ⟨A', B', n2 _ r1, ?_, r3⟩
    rw [if_neg (fun hx => n1 (i.mpr hx)), r2]
    rfl
  · left
    obtain ⟨A', B', r1, r2, r3⟩ := rfz hC h 2
    refine ⟨A', B', n3 _ r1, ?_, r3⟩
    rw [if_pos (i.mp n1), h.2.2.2.2.2 n1]
    have e : ((if zn (tkV b t m) < lo then some (0 : Int32) else (if hi < zn (tkV b t m) then some (0 : Int32) else some (1 : Int32))) : Option Int32) = some 0 := by
      rcases n2 with n2 | n2
      · rw [if_pos n2]
      · rw [if_pos n2]
        split <;> rfl
    rw [e, Option.bind_some, if_pos rfl, r2]
    rfl
  · right
    have hm : m < N := pos_N hC h n1 (by decide)
    have hP : PS a b t N A0 B0 A (zs B 148 29 (zn (tkV b t m))) m := PS_of h (fun _ _ => rfl) (fun o o1 _ => by rw [zs_df o1]) (fun j hj => by rw [zs_sm, if_neg (by rintro rfl; exact absurd hj (by decide))])
    obtain ⟨A1, B1, e1, e2, e3, e4, e5, e6⟩ := fwd hC hP hm
    refine ⟨tkV b t m, A1, B1, tkV_lt hC.1.1 n1, n2, n3, hm, n4, h.2.1.2.2.1 n1, i.mp n1, h.2.2.2.2.2 n1, ?_, e3, ?_, fun o ho => by rw [e5 o ho, zs_df ho], fun j j1 j2 j3 j4 j5 => by rw [e6 j j1 j2 j3 j4, zs_sm, if_neg j5]⟩
    · rw [if_pos (i.mp n1), h.2.2.2.2.2 n1, if_neg n2, if_neg n3, Option.bind_some, if_neg (by decide), zlet_e, e2]
      rfl
    · rw [e6 29 (by decide) (by decide) (by decide) (by decide), zs_sm, if_pos rfl]
end
section
-- ===== text of THE COUNCIL: both drafts =====
theorem cRun_add {S : Nat} {w : Nat → Int32} : ∀ k1 k2 i st, cRun S w (k1 + k2) i st = (cRun S w k1 i st).bind (cRun S w k2 (i + k1))
  | 0, k2, i, st => by rw [Nat.zero_add]; rfl
  | k1 + 1, k2, i, st => by
    rw [show k1 + 1 + k2 = (k1 + k2) + 1 by omega, cRun, cRun]
    cases cStep S (w (162 + i)) st with
    | none => rfl
    | some s => rw [Option.bind_some, Option.bind_some, cRun_add k1 k2 (i + 1) s, show i + 1 + k1 = i + (k1 + 1) by omega]
theorem cRun_cong {S : Nat} {w w' : Nat → Int32} (k : Nat) : ∀ i st, (∀ j, i ≤ j → j < i + k → w (162 + j) = w' (162 + j)) → cRun S w k i st = cRun S w' k i st := by
  induction k with
  | zero => intro i st h; rfl
  | succ k ih =>
    intro i st h
    have h12 := h i (Nat.le_refl _) (Nat.lt_add_of_pos_right (Nat.succ_pos k))
    have hr : ∀ s, cRun S w k (i + 1) s = cRun S w' k (i + 1) s := fun s => ih (i + 1) s (fun j j1 j2 => h j (Nat.le_of_succ_le j1) (by rw [show i + (k + 1) = i + 1 + k by omega]; exact j2))
    unfold cRun
    rw [h12]
    congr 1
    funext s
    exact hr s
def dftC (B : ZI) : Nat → Int32 := fun i => B 157 (i - 162)
theorem dftC_0 (B : ZI) (j : Nat) : dftC B (162 + j) = B 157 j := by
  unfold dftC
  rw [show 162 + j - 162 = j by omega]
def pushC (B : ZI) (c c' h : Nat) : Prop := c ≤ c' ∧ ∀ S st, S < 1024 → st.length + h ≤ 64 → ∃ x, bitV x ∧ cRun S (dftC B) (c' - c) c st = some (x :: st)
theorem pushC_keep {B B' : ZI} {c c' h : Nat} (hp : pushC B c c' h) (g : ∀ j, j < c' → B' 157 j = B 157 j) : pushC B' c c' h := by
  obtain ⟨h1, h2⟩ := hp
  refine ⟨h1, fun S st hS hl => ?_⟩
  obtain ⟨x, hx, e⟩ := h2 S st hS hl
  refine ⟨x, hx, ?_⟩
  rw [← e]
  exact cRun_cong _ _ _ (fun j j1 j2 => by rw [dftC_0, dftC_0]; exact g _ (by omega))
theorem pushC_mono {B : ZI} {c c' h h' : Nat} (hp : pushC B c c' h) (g : h ≤ h') : pushC B c c' h' := ⟨hp.1, fun S st hS hl => hp.2 S st hS (by omega)⟩
theorem pushC_lt {B : ZI} {c c' h : Nat} (hp : pushC B c c' h) (hh : h ≤ 64) : c < c' := by
  obtain ⟨h1, h2⟩ := hp
  obtain ⟨x, -, e⟩ := h2 0 [] (by decide) (by simpa using hh)
  by_cases hc : c' = c
  · rw [hc, Nat.sub_self] at e
    exact absurd e (by simp [cRun])
  · omega
theorem pushC_part {B : ZI} {c : Nat} (h : (∃ j, j < 10 ∧ B 157 c = zn j) ∨ ∃ j, j < 11 ∧ B 157 c = zn (20 + j)) : pushC B c (c + 1) 1 := by
  refine ⟨by omega, fun S st hS hl => ?_⟩
  rw [show c + 1 - c = 0 + 1 by omega, cRun, dftC_0]
  unfold cStep
  rcases h with ⟨j, hj, h⟩ | ⟨j, hj, h⟩
  · rw [h, if_pos (show zn j < 40 by rw [zl40, zn_lt (by omega) (by decide)]; omega), if_pos (by omega), if_pos (show zn j < 20 by rw [zl20, zn_lt (by omega) (by decide)]; omega), zbit (by omega) (by omega)]
    refine ⟨_, ?_, rfl⟩
    split
    · exact Or.inr rfl
    · exact Or.inl rfl
  · rw [h, if_pos (show zn (20 + j) < 40 by rw [zl40, zn_lt (by omega) (by decide)]; omega), if_pos (by omega), if_neg (show ¬ zn (20 + j) < 20 by rw [zl20, zn_lt (by omega) (by decide)]; omega)]
    refine ⟨_, ?_, rfl⟩
    split
    · exact Or.inl rfl
    · exact Or.inr rfl
theorem pushC_two {B : ZI} {c c1 c2 h1 h2 h : Nat} (hp : pushC B c c1 h1) (hq : pushC B c1 c2 h2) (g1 : h1 ≤ h) (g2 : h2 + 1 ≤ h) (s : Int32) (hs : B 157 c2 = s) (hs1 : s = 40 ∨ s = 41) : pushC B c (c2 + 1) h := by
  obtain ⟨p1, p2⟩ := hp
  obtain ⟨q1, q2⟩ := hq
  refine ⟨by omega, fun S st hS hl => ?_⟩
  obtain ⟨x, hx, e1⟩ := p2 S st hS (by omega)
  obtain ⟨y, hy, e2⟩ := q2 S (x :: st) hS (by simp only [List.length_cons]; omega)
  have hz : bitV (if s = 40 then x &&& y else x ||| y) := by
    rcases hs1 with rfl | rfl <;> rcases hx with rfl | rfl <;> rcases hy with rfl | rfl <;> unfold bitV <;> decide
  refine ⟨_, hz, ?_⟩
  rw [show c2 + 1 - c = (c1 - c) + ((c2 - c1) + (0 + 1)) by omega, cRun_add, e1, Option.bind_some, show c + (c1 - c) = c1 by omega, cRun_add, e2, Option.bind_some, show c1 + (c2 - c1) = c2 by omega, cRun, dftC_0, hs]
  unfold cStep
  rw [if_neg (show ¬ s < 40 by rcases hs1 with rfl | rfl <;> decide)]
  rfl
/-- the rule laid so far, on both sides -/
def CC (A B : ZI) (c : Nat) : Prop := ∃ p, A 143 3 = zn c ∧ B 148 18 = zn c ∧ A 142 1 = zn p ∧ B 148 17 = zn p ∧ p ≤ c ∧ (c = 0 ↔ p = 0) ∧ ∀ j, j < c → ruleRel (A 144 j) (A 145 j) (B 157 j)
def ccell (j : Nat) : Bool := decide (j ∈ [17, 18, 20, 21, 22, 23, 29])
def keepC (A B A' B' : ZI) (c : Nat) : Prop := (∀ o, o ≠ 119 → o ≠ 142 → o ≠ 143 → o ≠ 144 → o ≠ 145 → A' o = A o) ∧ (∀ o, o ≠ 148 → o ≠ 157 → B' o = B o) ∧ (∀ j, ccell j = false → B' 148 j = B 148 j) ∧ ∀ j, j < c → B' 157 j = B 157 j
theorem keepC_refl (A B : ZI) (c : Nat) : keepC A B A B c := ⟨fun _ _ _ _ _ _ => rfl, fun _ _ _ => rfl, fun _ _ => rfl, fun _ _ => rfl⟩
theorem keepC_trans {A B A1 B1 A2 B2 : ZI} {c c1 : Nat} (h : keepC A B A1 B1 c) (g : keepC A1 B1 A2 B2 c1) (hc : c ≤ c1) : keepC A B A2 B2 c := ⟨fun o o1 o2 o3 o4 o5 => (g.1 o o1 o2 o3 o4 o5).trans (h.1 o o1 o2 o3 o4 o5), fun o o1 o2 => (g.2.1 o o1 o2).trans (h.2.1 o o1 o2), fun j hj => (g.2.2.1 j hj).trans (h.2.2.1 j hj), fun j hj => (g.2.2.2 j (by omega)).trans (h.2.2.2 j hj)⟩
theorem CC_of {A B A' B' : ZI} {c : Nat} (h : CC A B c) (g1 : ∀ o, 142 ≤ o → o ≤ 145 → A' o = A o) (g2 : B' 148 18 = B 148 18 ∧ B' 148 17 = B 148 17) (g3 : B' 157 = B 157) : CC A' B' c := by
  unfold CC
  rw [g1 142 (by decide) (by decide), g1 143 (by decide) (by decide), g1 144 (by decide) (by decide), g1 145 (by decide) (by decide), g2.1, g2.2, g3]
  exact h
theorem fwdC {b : Nat → Nat} {t n N m c : Nat} {A0 B0 A B : ZI} (hC : CX 3 b t n N A0 B0) (h : PS 3 b t N A0 B0 A B m) (hc : CC A B c) (hm : m < N) :
    ∃ A' B', f68_forward 119 A = some A' ∧ f157_next0 B = some B' ∧ PS 3 b t N A0 B0 A' B' (m + 1) ∧ CC A' B' c ∧ keepC A B A' B' c := by
  obtain ⟨A', B', e1, e2, e3, e4, e5, e6⟩ := fwd hC h hm
  refine ⟨A', B', e1, e2, e3, CC_of hc (fun o o1 o2 => e4 o (by omega)) ⟨e6 18 (by decide) (by decide) (by decide) (by decide), e6 17 (by decide) (by decide) (by decide) (by decide)⟩ (e5 157 (by decide)), ⟨fun o o1 _ _ _ _ => e4 o o1, fun o o1 _ => e5 o o1, fun j hj => ?_, fun j _ => by rw [e5 157 (by decide)]⟩⟩
  exact e6 j (by rintro rfl; exact absurd hj (by decide)) (by rintro rfl; exact absurd hj (by decide)) (by rintro rfl; exact absurd hj (by decide)) (by rintro rfl; exact absurd hj (by decide))
theorem add143 {A : ZI} {c : Nat} {op arg : Int32} (c1 : A 143 3 = zn c) (hc4 : c < 400) : f74_add 143 op arg A = some (zs (zs (zs A 144 c op) 145 c arg) 143 3 (zn (c + 1))) := by
  have hz : zin (zn c) 400 = true := (zn_zin (by omega)).mpr hc4
  have k1 : (zs A 144 c op) 143 3 = zn c := by rw [zs_df (by decide)]; exact c1
  have k2 : (zs (zs A 144 c op) 145 c arg) 143 3 = zn c := by rw [zs_df (by decide)]; exact k1
  unfold f74_add
  rw [c1, if_pos (show zn c < 400 by rw [zl400, zn_lt (by omega) (by decide)]; exact hc4), if_pos hz, zn_zi (by omega), show 143 + 1 = 144 from rfl, show 143 + 2 = 145 from rfl, zlet_e, k1, if_pos hz, zn_zi (by omega), zlet_e, k2, zadd1]
  rfl
theorem rules157 {B : ZI} {c : Nat} {s : Int32} (c2 : B 148 18 = zn c) (hc4 : c < 400) : f191_rules s B = some (zs (zs B 157 c s) 148 18 (zn (c + 1))) := by
  have k1 : (zs B 157 c s) 148 18 = zn c := by rw [zs_df (by decide)]; exact c2
  unfold f191_rules
  rw [c2, if_pos ((zn_zin (by omega)).mpr hc4), zn_zi (by omega), zlet_e, k1, zadd1]
  rfl
/-- both lay a step -/
theorem layC {b : Nat → Nat} {t N m c : Nat} {A0 B0 A B : ZI} {op arg s : Int32} (h : PS 3 b t N A0 B0 A B m) (hc : CC A B c) (hc4 : c < 400) (hc1 : 1 ≤ c) (hr : ruleRel op arg s) :
    ∃ A' B', f74_add 143 op arg A = some A' ∧ f191_rules s B = some B' ∧ PS 3 b t N A0 B0 A' B' m ∧ CC A' B' (c + 1) ∧ keepC A B A' B' c ∧ B' 157 c = s := by
  obtain ⟨p, c1, c2, c3, c4, c5, c6, c7⟩ := hc
  refine ⟨_, _, add143 c1 hc4, rules157 c2 hc4, PS_of h (fun o ho => by rw [zs_df (by omega), zs_df (by omega), zs_df (by omega)]) (fun o o1 o2 => by rw [zs_df o1, zs_df (by omega)]) (fun j hj => by rw [zs_sm, if_neg (by rintro rfl; exact absurd hj (by decide)), zs_df (by decide)]), ⟨p, by rw [zs_sm, if_pos rfl], by rw [zs_sm, if_pos rfl], by rw [zs_df (by decide), zs_df (by decide), zs_df (by decide)]; exact c3, by rw [zs_sm, if_neg (by decide), zs_df (by decide)]; exact c4, by omega, by omega, fun j hj => ?_⟩, ⟨fun o o1 o2 o3 o4 o5 => by rw [zs_df o3, zs_df o5, zs_df o4], fun o o1 o2 => by rw [zs_df o1, zs_df o2], fun j hj => by rw [zs_sm, if_neg (by rintro rfl; exact absurd hj (by decide)), zs_df (by decide)], fun j hj => by rw [zs_df (by decide), zs_sm, if_neg (by omega)]⟩, by rw [zs_df (by decide), zs_sm, if_pos rfl]⟩
  rw [zs_df (by decide), zs_df (by decide), zs_sm, zs_df (by decide), zs_sm, zs_df (by decide), zs_df (by decide), zs_sm]
  by_cases hjc : j = c
  · rw [if_pos hjc, if_pos hjc, if_pos hjc]
    exact hr
  · rw [if_neg hjc, if_neg hjc, if_neg hjc]
    exact c7 j (by omega)
def CQ (b : Nat → Nat) (t N : Nat) (A0 B0 A B : ZI) (m c e : Nat) (R : ZI → Nat → Prop) (A' B' : ZI) : Prop := ∃ m' c', PS 3 b t N A0 B0 A' B' m' ∧ CC A' B' c' ∧ keepC A B A' B' c ∧ m + e ≤ m' ∧ c ≤ c' ∧ c' + m ≤ c + m' ∧ R B' c'
theorem both_zbl {A0 B0 : ZI} {x y : Option (Int32 × ZI)} {Q : ZI → ZI → Prop} (h : Both A0 B0 x y Q) : Both A0 B0 (x.bind fun (v, M) => if zbl v = true then some (v, M) else none) y Q := by
  rcases h with ⟨A', B', rfl, e2, e3⟩ | ⟨A', B', rfl, e2, e3⟩
  · exact Or.inl ⟨A', B', rfl, e2, e3⟩
  · exact Or.inr ⟨A', B', rfl, e2, e3⟩
-- one part of the rule: a person, or most
theorem part_core {b : Nat → Nat} {t n N m c : Nat} {A0 B0 A B : ZI} {op s0 lo hi : Int32} (hC : CX 3 b t n N A0 B0) (h : PS 3 b t N A0 B0 A B m) (hc : CC A B c) (hcm : c ≤ m) (hr : ∀ v, v < 10000 → ¬ zn v < lo → ¬ hi < zn v → ruleRel op (zn v) (s0 + zn v) ∧ ((∃ j, j < 10 ∧ s0 + zn v = zn j) ∨ ∃ j, j < 11 ∧ s0 + zn v = zn (20 + j))) :
    Both A0 B0 ((f75_isNumber 119 lo hi A).bind fun (v6, M7) => (if v6 = 0 then some ((0 : Int32), M7) else (some op).bind fun v8 => (f74_add 143 v8 (M7 119 8) M7).bind fun M9 => (f68_forward 119 M9).bind fun M10 => zlet (zs M10 (119 + 23) 1 ((M10 (119 + 23) 1) + (1 : Int32))) fun (M11 : ZI) => some ((1 : Int32), M11)))
      ((f182_number lo hi B).bind fun (v6, M7) => (if v6 = 0 then some ((0 : Int32), M7) else (some s0).bind fun v8 => (f191_rules (v8 + (M7 148 29)) M7).bind fun M9 => zlet (zs M9 148 17 ((M9 148 17) + (1 : Int32))) fun (M10 : ZI) => some ((1 : Int32), M10)))
      (CQ b t N A0 B0 A B m c 1 (fun B' c' => pushC B' c c' 1)) := by
  have hN := hC.2.1.1
  rcases num_step hC h lo hi (by decide +kernel) with ⟨A', B', r1, r2, r3⟩ | ⟨v, A1, B1, hv, n1, n2, hm, n3, n4, -, -, n5, n6, n7, n8, n9⟩
  · rw [r1, r2]
    exact Or.inl ⟨A', B', rfl, rfl, r3⟩
  · obtain ⟨hr1, hr2⟩ := hr v hv n1 n2
    obtain ⟨p, c1, c2, c3, c4, c5, c6, c7⟩ := hc
    have b18 : B1 148 18 = zn c := by rw [n9 18 (by decide) (by decide) (by decide) (by decide) (by decide)]; exact c2
    have b17 : B1 148 17 = zn p := by rw [n9 17 (by decide) (by decide) (by decide) (by decide) (by decide)]; exact c4
    have b157 : B1 157 = B 157 := n8 157 (by decide)
    have gA : ∀ o, o ≠ 143 → o ≠ 144 → o ≠ 145 → (zs (zs (zs A 144 c op) 145 c (zn v)) 143 3 (zn (c + 1))) o = A o := fun o o1 o2 o3 => by rw [zs_df o1, zs_df o3, zs_df o2]
    obtain ⟨A4, f1, f2, f3⟩ := fwd_store hC h hm (fun o ho => gA o (by omega) (by omega) (by omega))
    have a142 : A4 142 1 = zn p := by rw [f2 142 (by decide), gA 142 (by decide) (by decide) (by decide)]; exact c3
    have d17 : (zs (zs B1 157 c (s0 + zn v)) 148 18 (zn (c + 1))) 148 17 = zn p := by rw [zs_sm, if_neg (by decide), zs_df (by decide)]; exact b17
    rw [n3, n5, Option.bind_some, Option.bind_some]
    dsimp only
    rw [if_neg (show ¬ (1 : Int32) = 0 by decide), if_neg (show ¬ (1 : Int32) = 0 by decide), Option.bind_some, Option.bind_some, n4, add143 c1 (by omega), Option.bind_some, f1, Option.bind_some, n7, rules157 b18 (by omega), Option.bind_some, show 119 + 23 = 142 from rfl, zlet_e, zlet_e, a142, d17, zadd1]
    refine Or.inr ⟨_, _, rfl, rfl, m + 1, c + 1, ?_, ⟨p + 1, ?_, ?_, ?_, ?_, by omega, by omega, fun j hj => ?_⟩, ⟨fun o o1 o2 o3 o4 o5 => ?_, fun o o1 o2 => ?_, fun j hj => ?_, fun j hj => ?_⟩, by omega, by omega, by omega, ?_⟩
    · exact PS_of (f3 A1 B1 n6) (fun o ho => by rw [zs_df (by omega)]) (fun o o1 o2 => by rw [zs_df o1, zs_df o1, zs_df (by omega)]) (fun j hj => by rw [zs_sm, if_neg (by rintro rfl; exact absurd hj (by decide)), zs_sm, if_neg (by rintro rfl; exact absurd hj (by decide)), zs_df (by decide)])
    · rw [zs_df (by decide), f2 143 (by decide), zs_sm, if_pos rfl]
    · rw [zs_sm, if_neg (by decide), zs_sm, if_pos rfl]
    · rw [zs_sm, if_pos rfl]
    · rw [zs_sm, if_pos rfl]
    · have x144 : (zs A4 142 1 (zn (p + 1))) 144 j = if j = c then op else A 144 j := by rw [zs_df (by decide), f2 144 (by decide), zs_df (by decide), zs_df (by decide), zs_sm]
      have x145 : (zs A4 142 1 (zn (p + 1))) 145 j = if j = c then zn v else A 145 j := by rw [zs_df (by decide), f2 145 (by decide), zs_df (by decide), zs_sm, zs_df (by decide)]
      have x157 : (zs (zs (zs B1 157 c (s0 + zn v)) 148 18 (zn (c + 1))) 148 17 (zn (p + 1))) 157 j = if j = c then s0 + zn v else B 157 j := by rw [zs_df (by decide), zs_df (by decide), zs_sm, b157]
      rw [x144, x145, x157]
      by_cases hjc : j = c
      · rw [if_pos hjc, if_pos hjc, if_pos hjc]
        exact hr1
      · rw [if_neg hjc, if_neg hjc, if_neg hjc]
        exact c7 j (by omega)
    · rw [zs_df o2, f2 o o1, gA o o3 o4 o5]
    · rw [zs_df o1, zs_df o1, zs_df o2, n8 o o1]
    · rw [zs_sm, if_neg (by rintro rfl; exact absurd hj (by decide)), zs_sm, if_neg (by rintro rfl; exact absurd hj (by decide)), zs_df (by decide)]
      exact n9 j (by rintro rfl; exact absurd hj (by decide)) (by rintro rfl; exact absurd hj (by decide)) (by rintro rfl; exact absurd hj (by decide)) (by rintro rfl; exact absurd hj (by decide)) (by rintro rfl; exact absurd hj (by decide))
    · rw [zs_df (by decide), zs_df (by decide), zs_sm, if_neg (by omega), b157]
    · refine pushC_part ?_
      rw [zs_df (by decide), zs_df (by decide), zs_sm, if_pos rfl]
      exact hr2
end
section
def refPart (M : ZI) : Option (Int32 × ZI) := ((if (M 148 21) = (14 : Int32) then some (1 : Int32) else some (0 : Int32)) : Option (Int32)).bind fun v1 =>
  ((if v1 = 0 then some M else (f157_next0 M).bind fun M2 => some M2) : Option (ZI)).bind fun M3 =>
  ((if v1 = 0 then some (0 : Int32) else some (1 : Int32)) : Option (Int32)).bind fun v4 =>
  ((if v1 = 0 then some ((M3 149 48) - (1 : Int32)) else some (10 : Int32)) : Option (Int32)).bind fun v5 =>
  (f182_number v4 v5 M3).bind fun (v6, M7) => (if v6 = 0 then some ((0 : Int32), M7) else ((if v1 = 0 then some (0 : Int32) else some (20 : Int32)) : Option (Int32)).bind fun v8 =>
  (f191_rules (v8 + (M7 148 29)) M7).bind fun M9 => zlet (zs M9 148 17 ((M9 148 17) + (1 : Int32))) fun (M10 : ZI) => some ((1 : Int32), M10))
theorem oneOf_eq (g188 : ZI → Option (Int32 × ZI)) (M : ZI) : f190_oneOf_b g188 M = (if (M 148 21) = (140 : Int32) then (if (M 148 27) = (8 : Int32) then (f170_bad (3 : Int32) M).bind fun (v18, M19) => if zbl v18 = true then some (v18, M19) else none else zlet (zs M 148 27 ((M 148 27) + (1 : Int32))) fun (M11 : ZI) => (f157_next0 M11).bind fun M12 => (g188 M12).bind fun (v13, M14) => (if v13 = 0 then some ((0 : Int32), M14) else (f179_need (141 : Int32) M14).bind fun (v15, M16) => (if v15 = 0 then some ((0 : Int32), M16) else zlet (zs M16 148 27 ((M16 148 27) - (1 : Int32))) fun (M17 : ZI) => some ((1 : Int32), M17)))) else refPart M) := rfl
theorem zn_pred {n v : Nat} (hn : n ≤ 10) (hv : v < 10000) (h : ¬ (zn n - 1 : Int32) < zn v) : v < n := by
  cases n with
  | zero => exact absurd (show (zn 0 - 1 : Int32) < zn v from neg_lt_zn (by omega)) h
  | succ n =>
    rw [zl1, zn_sub (by omega), zn_lt (by omega) (by omega)] at h
    omega
theorem part_step {b : Nat → Nat} {t n N m c : Nat} {A0 B0 A B : ZI} (hC : CX 3 b t n N A0 B0) (h : PS 3 b t N A0 B0 A B m) (hc : CC A B c) (hcm : c ≤ m) :
    Both A0 B0 (f79_readPart 119 143 A) (refPart B) (CQ b t N A0 B0 A B m c 1 (fun B' c' => pushC B' c c' 1)) := by
  have i := tk_iff (a := 3) (k := 279) (x := 14) (by decide +kernel) b t m
  have hA7 : A 119 7 = tkK b t m := h.2.1.2.1
  have hB21 : B 148 21 = tkT 3 b t m := h.2.2.2.2.1
  unfold f79_readPart refPart
  rw [hA7, hB21]
  by_cases hk : tkK b t m = 279
  · have hm : m < N := pos_N hC h hk (by decide)
    obtain ⟨A1, B1, e1, e2, e3, e4, e5⟩ := fwdC hC h hc hm
    rw [if_pos hk, if_pos (i.mp hk), Option.bind_some, Option.bind_some]
    repeat rw [if_neg (show ¬ (1 : Int32) = 0 by decide)]
    rw [e1, e2]
    repeat rw [Option.bind_some]
    repeat rw [if_neg (show ¬ (1 : Int32) = 0 by decide)]
    repeat rw [Option.bind_some]
    repeat rw [if_neg (show ¬ (1 : Int32) = 0 by decide)]
    repeat rw [Option.bind_some]
    refine both_mono (part_core (op := 279) (s0 := 20) hC e3 e4 (by omega) (fun v hv n1 n2 => ?_)) (fun A' B' hq => ?_)
    · rw [zl10, zn_lt (by decide) (by omega)] at n2
      rw [zl20, zn_add]
      exact ⟨Or.inr (Or.inl ⟨rfl, v, by omega, rfl, rfl⟩), Or.inr ⟨v, by omega, rfl⟩⟩
    · obtain ⟨m', c', q1, q2, q3, q4, q5, q6, q7⟩ := hq
      exact ⟨m', c', q1, q2, keepC_trans e5 q3 (Nat.le_refl _), by omega, by omega, by omega, q7⟩
  · have hA9 : A 119 9 = zn n := by rw [h.1.1.2 9 (by decide) (by decide) (by decide) (by decide) (by decide)]; exact hC.2.2.1.2.2
    have hB48 : B 149 48 = zn n := by rw [h.1.2.1.1 149 (by decide) (by omega)]; exact hC.2.2.2.2.2
    rw [if_neg hk, if_neg (fun hx => hk (i.mpr hx))]
    repeat rw [Option.bind_some]
    repeat rw [if_pos (show (0 : Int32) = 0 from rfl)]
    repeat rw [Option.bind_some]
    repeat rw [if_pos (show (0 : Int32) = 0 from rfl)]
    repeat rw [Option.bind_some]
    repeat rw [if_pos (show (0 : Int32) = 0 from rfl)]
    repeat rw [Option.bind_some]
    rw [hA9, hB48]
    refine part_core (op := 301) (s0 := 0) hC h hc hcm (fun v hv n1 n2 => ?_)
    have := zn_pred hC.1.2.2 hv n2
    have hn := hC.1.2.2
    rw [show (0 : Int32) + zn v = zn v by rw [zl0, zn_add, Nat.zero_add]]
    exact ⟨Or.inl ⟨rfl, v, by omega, rfl, rfl⟩, Or.inl ⟨v, by omega, rfl⟩⟩
def OneC (b : Nat → Nat) (t N : Nat) (A0 B0 : ZI) (fC fR : ZI → Option (Int32 × ZI)) (d h : Nat) : Prop := ∀ m c A B, PS 3 b t N A0 B0 A B m → CC A B c → c ≤ m → B 148 27 = zn d → Both A0 B0 (fC A) (fR B) (CQ b t N A0 B0 A B m c 1 (fun B' c' => pushC B' c c' h))
theorem keepC27 {A B A2 B2 : ZI} {c : Nat} {x y : Int32} (k : keepC A (zs B 148 27 x) A2 B2 c) (h : y = B 148 27) : keepC A B A2 (zs B2 148 27 y) c := by
  obtain ⟨k1, k2, k3, k4⟩ := k
  refine ⟨k1, fun o o1 o2 => by rw [zs_df o1, k2 o o1 o2, zs_df o1], fun j hj => ?_, fun j hj => by rw [zs_df (by decide), k4 j hj, zs_df (by decide)]⟩
  rw [zs_sm]
  by_cases h27 : j = 27
  · rw [if_pos h27, h, h27]
  · rw [if_neg h27, k3 j hj, zs_sm, if_neg h27]
theorem CC_27 {A B : ZI} {c : Nat} (h : CC A B c) (x : Int32) : CC A (zs B 148 27 x) c := CC_of h (fun _ _ _ => rfl) ⟨by rw [zs_sm, if_neg (by decide)], by rw [zs_sm, if_neg (by decide)]⟩ (by rw [zs_df (by decide)])
theorem oneC_step {b : Nat → Nat} {t n N d h6 hh : Nat} {A0 B0 : ZI} {g76 g77 : Nat → Nat → Int32 → Int32 → ZI → Option (Int32 × ZI)} {r188 : ZI → Option (Int32 × ZI)} (hC : CX 3 b t n N A0 B0) (hd : d ≤ 8) (h76 : d < 8 → OneC b t N A0 B0 (g76 119 143 1 (zn (d + 1))) r188 (d + 1) h6) (g4 : 1 ≤ hh) (g6 : d < 8 → h6 ≤ hh) :
    OneC b t N A0 B0 (fun A => f77_readOne_b g76 g77 119 143 1 (zn d) A) (fun B => f190_oneOf_b r188 B) d hh := by
  intro m c A B h hc hcm h27
  have hN := hC.2.1.1
  have hA7 : A 119 7 = tkK b t m := h.2.1.2.1
  have hB21 : B 148 21 = tkT 3 b t m := h.2.2.2.2.1
  have i40 := tk_iff (a := 3) (k := 40) (x := 140) (by decide +kernel) b t m
  dsimp only
  rw [oneOf_eq]
  unfold f77_readOne_b
  rw [zlet_e, zlet_e, hA7, hB21, h27]
  by_cases k40 : tkK b t m = 40
  · have hm : m < N := pos_N hC h k40 (by decide)
    rw [if_pos k40, if_pos (i40.mp k40)]
    dsimp only
    by_cases hd8 : d < 8
    · rw [if_pos (show zn d < 8 by rw [zl8, zn_lt (by omega) (by decide)]; exact hd8), if_neg (show ¬ zn d = 8 by rw [zl8, zn_eq (by omega) (by decide)]; omega), zlet_e, hA7, if_neg (show ¬ tkK b t m = 262 by rw [k40]; decide), Option.bind_some, zadd1]
      obtain ⟨A1, B1, e1, e2, e3, e4, e5⟩ := fwdC hC (PS_27 h (zn (d + 1))) (CC_27 hc (zn (d + 1))) hm
      rw [e1, e2, Option.bind_some, Option.bind_some, if_pos rfl]
      refine both_bind (h76 hd8 (m + 1) c A1 B1 e3 e4 (by omega) (by rw [e5.2.2.1 27 rfl, zs_sm, if_pos rfl])) (fun _ => rfl) (fun _ => rfl) (fun A2 B2 hq => ?_)
      obtain ⟨m2, c2, q1, q2, q3, q4, q5, q6, q7⟩ := hq
      have hm2 := q1.1.2.2
      dsimp only
      rw [if_neg (show ¬ (1 : Int32) = 0 by decide), if_neg (show ¬ (1 : Int32) = 0 by decide)]
      rcases skip_need (k := 41) (x := 141) hC q1 (by decide +kernel) (by decide) with ⟨s1, s2, s3⟩ | ⟨A', B', r1, r2, r3⟩
      · obtain ⟨A3, B3, l1, l2, l3, l4, l5⟩ := fwdC hC q1 q2 s1
        have K := keepC_trans (keepC_trans e5 q3 (Nat.le_refl _)) l5 q5
        have w27 : B3 148 27 = zn (d + 1) := by rw [l5.2.2.1 27 rfl, q3.2.2.1 27 rfl, e5.2.2.1 27 rfl, zs_sm, if_pos rfl]
        rw [s2, s3, l1, l2, Option.bind_some, Option.bind_some, Option.bind_some, Option.bind_some]
        dsimp only
        rw [if_neg (show ¬ (1 : Int32) = 0 by decide), if_neg (show ¬ (1 : Int32) = 0 by decide), zlet_e, w27, zl1, zn_sub (by omega), show d + 1 - 1 = d by omega]
        refine Or.inr ⟨A3, _, rfl, rfl, m2 + 1, c2, PS_27 l3 _, CC_27 l4 _, keepC27 K h27.symm, by omega, by omega, by omega, ?_⟩
        refine pushC_keep (pushC_keep (pushC_mono q7 (g6 hd8)) l5.2.2.2) (fun j _ => ?_)
        rw [zs_df (by decide)]
      · rw [r1, r2, Option.bind_some, Option.bind_some]
        exact Or.inl ⟨A', B', rfl, rfl, r3⟩
    · obtain ⟨A', B', r1, r2, r3⟩ := rfz hC h 3
      rw [if_neg (show ¬ zn d < 8 by rw [zl8, zn_lt (by omega) (by decide)]; exact hd8), if_pos (show zn d = 8 by rw [zl8, zn_eq (by omega) (by decide)]; omega), r1, r2]
      exact Or.inl ⟨A', B', rfl, rfl, r3⟩
  · rw [if_neg k40, if_neg (fun hx => k40 (i40.mpr hx))]
    dsimp only
    have hp := both_mono (part_step hC h hc hcm) (fun A' B' (hq : CQ b t N A0 B0 A B m c 1 (fun B' c' => pushC B' c c' 1) A' B') => (show CQ b t N A0 B0 A B m c 1 (fun B' c' => pushC B' c c' hh) A' B' by
      obtain ⟨m', c', q1, q2, q3, q4, q5, q6, q7⟩ := hq
      exact ⟨m', c', q1, q2, q3, q4, q5, q6, pushC_mono q7 g4⟩))
    by_cases k262 : tkK b t m = 262
    · rw [if_pos k262, if_neg (show ¬ (1 : Int32) = 0 by decide), if_neg (show ¬ (1 : Int32) = 0 by decide)]
      exact both_zbl hp
    · rw [if_neg k262, if_neg (show ¬ (1 : Int32) = 0 by decide)]
      exact both_zbl hp
end
section
theorem rl261 : ruleRel 261 0 40 := Or.inr (Or.inr (Or.inl ⟨rfl, rfl⟩))
theorem rl260 : ruleRel 260 0 41 := Or.inr (Or.inr (Or.inr ⟨rfl, rfl⟩))
-- any and every, in one loop of the class
def anyTailC (g77 : Nat → Nat → Int32 → Int32 → ZI → Option (Int32 × ZI)) (a3 : Int32) (n : Nat) (x1 x3 : Int32) (M10 : ZI) : Option (Int32 × ZI) :=
  ((if (M10 119 7) = (261 : Int32) then some (1 : Int32) else some (0 : Int32)) : Option (Int32)).bind fun v11 =>
  zlet (fun (x12 : Int32) (M13 : ZI) => ((f68_forward 119 M13).bind fun M14 => f76_l9 g77 119 143 1 a3 n x12 v11 (x3 + (1 : Int32)) M14 : Option (Int32 × ZI))) fun j15 =>
  (if v11 = 0 then ((if x1 = 0 then some M10 else (f74_add 143 (260 : Int32) (0 : Int32) M10).bind fun M16 => some M16) : Option (ZI)).bind fun M17 =>
  ((if (M17 119 7) = (260 : Int32) then some (1 : Int32) else some (0 : Int32)) : Option (Int32)).bind fun v18 =>
  (if v18 = 0 then some ((1 : Int32), M17) else j15 v18 M17) else j15 x1 M10)
theorem anyC_l9 (g77 : Nat → Nat → Int32 → Int32 → ZI → Option (Int32 × ZI)) (a3 : Int32) (n : Nat) (x1 x2 x3 : Int32) (M4 : ZI) : f76_l9 g77 119 143 1 a3 (n + 1) x1 x2 x3 M4 = (if x3 < (400 : Int32) then (g77 119 143 1 a3 M4).bind fun (v7, M8) => (if v7 = 0 then some ((0 : Int32), M8) else ((if x2 = 0 then some M8 else (f74_add 143 (261 : Int32) (0 : Int32) M8).bind fun M9 => some M9) : Option (ZI)).bind fun M10 => anyTailC g77 a3 n x1 x3 M10) else (f70_refuse 119 (1 : Int32) M4).bind fun (v5, M6) => if zbl v5 = true then some (v5, M6) else none) := rfl
def anyRestC (g177 : ZI → Option (Int32 × ZI)) (x1 : Bool) (hh : Nat) (p : Int32 × ZI) : Option (Int32 × ZI) := match p with | (v, M2) => if v = 0 then some ((0 : Int32), M2) else if x1 = true then (f191_rules (41 : Int32) M2).bind fun M7 => f188_l9 (f189_anyOf_b g177) hh M7 else f188_l9 (f189_anyOf_b g177) hh M2
theorem anyC_tail {b : Nat → Nat} {t n N d h ms c0 : Nat} {A0 B0 As Bs : ZI} {g77 : Nat → Nat → Int32 → Int32 → ZI → Option (Int32 × ZI)} {g177 : ZI → Option (Int32 × ZI)} (hC : CX 3 b t n N A0 B0) (hh64 : h + 2 ≤ 64) (hone : OneC b t N A0 B0 (g77 119 143 1 (zn d)) g177 d h) : ∀ f m x3 c ce gg hh A B (x1 : Bool), N - m < f → N - m < gg → N - m < hh → x3 + (N - m) ≤ 399 → PS 3 b t N A0 B0 A B m → CC A B c → c ≤ m → B 148 27 = zn d → keepC As Bs A B c0 → c0 ≤ ce → ce ≤ c → ms + 1 ≤ m → (x1 = false → ce = c0 ∧ c + ms ≤ c0 + m) → (x1 = true → pushC B c0 ce (h + 2) ∧ c + 1 + ms ≤ c0 + m ∧ c + 1 ≤ m) → pushC B ce c (h + 1) →
    Both A0 B0 (anyTailC g77 (zn d) f (bitI x1) (zn x3) A) ((f189_l9 g177 gg B).bind (anyRestC g177 x1 hh)) (CQ b t N A0 B0 As Bs ms c0 1 (fun B' c' => pushC B' c0 c' (h + 2)))
  | 0, m, x3, c, ce, gg, hh, A, B, x1, h1, h2, h3, h4, hP, hc, hcm, h27, hk, he1, he2, hms, hx0, hx1, hp => by omega
  | f + 1, m, x3, c, ce, gg, hh, A, B, x1, h1, h2, h3, h4, hP, hc, hcm, h27, hk, he1, he2, hms, hx0, hx1, hp => by
    obtain ⟨gg, rfl⟩ : ∃ q, gg = q + 1 := ⟨gg - 1, by omega⟩
    obtain ⟨hh, rfl⟩ : ∃ q, hh = q + 1 := ⟨hh - 1, by omega⟩
    have hN := hC.2.1.1
    have hmN := hP.1.2.2
    have hA7 : A 119 7 = tkK b t m := hP.2.1.2.1
    have hB21 : B 148 21 = tkT 3 b t m := hP.2.2.2.2.1
    have i261 := tk_iff (a := 3) (k := 261) (x := 5) (by decide +kernel) b t m
    have i260 := tk_iff (a := 3) (k := 260) (x := 4) (by decide +kernel) b t m
    have lx : m < N → zn (x3 + 1) < 400 := fun hm => by rw [zl400, zn_lt (by omega) (by decide)]; omega
    -- behind the or that was to be laid
    have orStep : ∀ A' B' c', PS 3 b t N A0 B0 A' B' m → CC A' B' c' → c' ≤ m → keepC As Bs A' B' c0 → c0 ≤ c' → c' + ms ≤ c0 + m → B' 148 27 = zn d → pushC B' c0 c' (h + 2) → Both A0 B0 (((if (A' 119 7) = (260 : Int32) then some (1 : Int32) else some (0 : Int32)) : Option (Int32)).bind fun v18 => (if v18 = 0 then some ((1 : Int32), A') else (f68_forward 119 A').bind fun M14 => f76_l9 g77 119 143 1 (zn d) (f + 1) v18 0 (zn x3 + (1 : Int32)) M14)) (f188_l9 (f189_anyOf_b g177) (hh + 1) B') (CQ b t N A0 B0 As Bs ms c0 1 (fun B' c' => pushC B' c0 c' (h + 2))) := by
      intro A' B' c' p1 p2 p3 p4 p5 p6 p7 p8
      rw [f188_l9, show A' 119 7 = tkK b t m from p1.2.1.2.1, show B' 148 21 = tkT 3 b t m from p1.2.2.2.2.1]
      by_cases k260 : tkK b t m = 260
      · have hm : m < N := pos_N hC p1 k260 (by decide)
        obtain ⟨A1, B1, e1, e2, e3, e4, e5⟩ := fwdC hC p1 p2 hm
        rw [if_pos k260, if_pos (i260.mp k260), Option.bind_some, if_neg (show ¬ (1 : Int32) = 0 by decide), e1, e2, Option.bind_some, Option.bind_some, anyC_l9, zadd1, if_pos (lx hm), f189_anyOf_b, Option.bind_assoc]
        refine both_bind (hone (m + 1) c' A1 B1 e3 e4 (by omega) (by rw [e5.2.2.1 27 rfl]; exact p7)) (fun _ => rfl) (fun _ => rfl) (fun A2 B2 hq => ?_)
        obtain ⟨m2, c2, q1, q2, q3, q4, q5, q6, q7⟩ := hq
        have hm2 := q1.1.2.2
        dsimp only
        rw [if_neg (show ¬ (1 : Int32) = 0 by decide), if_neg (show ¬ (1 : Int32) = 0 by decide), if_pos rfl, Option.bind_some]
        have K := keepC_trans e5 q3 (Nat.le_refl _)
        exact anyC_tail hC hh64 hone f m2 (x3 + 1) c2 c' zfu hh A2 B2 true (by omega) (by rw [zfu_eq]; omega) (by omega) (by omega) q1 q2 (by omega) (by rw [K.2.2.1 27 rfl]; exact p7) (keepC_trans p4 K p5) p5 q5 (by omega) (fun hc => absurd hc (by decide)) (fun _ => ⟨pushC_keep p8 K.2.2.2, by omega, by omega⟩) (pushC_mono q7 (by omega))
      · rw [if_neg k260, if_neg (fun hx => k260 (i260.mpr hx)), Option.bind_some, if_pos rfl]
        exact Or.inr ⟨A', B', rfl, rfl, m, c', p1, p2, p4, by omega, p5, p6, p8⟩
    unfold anyTailC
    rw [f189_l9, hA7, hB21]
    by_cases k261 : tkK b t m = 261
    · have hm : m < N := pos_N hC hP k261 (by decide)
      obtain ⟨A1, B1, e1, e2, e3, e4, e5⟩ := fwdC hC hP hc hm
      rw [if_pos k261, if_pos (i261.mp k261), Option.bind_some, zlet_e, if_neg (show ¬ (1 : Int32) = 0 by decide)]
      dsimp only
      rw [e1, e2, Option.bind_some, Option.bind_some, anyC_l9, zadd1, if_pos (lx hm), Option.bind_assoc]
      refine both_bind (hone (m + 1) c A1 B1 e3 e4 (by omega) (by rw [e5.2.2.1 27 rfl]; exact h27)) (fun _ => rfl) (fun _ => rfl) (fun A2 B2 hq => ?_)
      obtain ⟨m2, c2, q1, q2, q3, q4, q5, q6, q7⟩ := hq
      have hm2 := q1.1.2.2
      dsimp only
      obtain ⟨A3, B3, l1, l2, l3, l4, l5, l6⟩ := layC q1 q2 (by omega) (by have := pushC_lt q7 (by omega); omega) rl261
      rw [if_neg (show ¬ (1 : Int32) = 0 by decide), if_neg (show ¬ (1 : Int32) = 0 by decide), if_neg (show ¬ (1 : Int32) = 0 by decide), l1, l2, Option.bind_some, Option.bind_some, Option.bind_some]
      have K := keepC_trans (keepC_trans e5 q3 (Nat.le_refl _)) l5 q5
      refine anyC_tail hC hh64 hone f m2 (x3 + 1) (c2 + 1) ce gg (hh + 1) A3 B3 x1 (by omega) (by omega) (by omega) (by omega) l3 l4 (by omega) (by rw [K.2.2.1 27 rfl]; exact h27) (keepC_trans hk K (by omega)) he1 (by omega) (by omega) (fun hf => ⟨(hx0 hf).1, by have := (hx0 hf).2; omega⟩) (fun ht => ⟨pushC_keep (hx1 ht).1 (fun j hj => K.2.2.2 j (by omega)), by have := (hx1 ht).2.1; omega, by have := (hx1 ht).2.2; omega⟩) ?_
      exact pushC_two (pushC_keep hp K.2.2.2) (pushC_keep q7 l5.2.2.2) (Nat.le_refl _) (by omega) 40 l6 (Or.inl rfl)
    · rw [if_neg k261, if_neg (fun hx => k261 (i261.mpr hx)), Option.bind_some, Option.bind_some, zlet_e, if_pos rfl]
      cases x1 with
      | false =>
        obtain ⟨rfl, hx0⟩ := hx0 rfl
        unfold anyRestC bitI
        dsimp only
        rw [if_neg (show ¬ (1 : Int32) = 0 by decide), if_neg (show ¬ false = true by decide), if_neg (show ¬ false = true by decide), if_pos rfl, Option.bind_some]
        exact orStep A B c hP hc hcm hk he2 hx0 h27 (pushC_mono hp (by omega))
      | true =>
        obtain ⟨hp1, hx1, hx2⟩ := hx1 rfl
        unfold anyRestC bitI
        dsimp only
        obtain ⟨A3, B3, l1, l2, l3, l4, l5, l6⟩ := layC hP hc (by omega) (by have := pushC_lt hp (by omega); omega) rl260
        rw [if_neg (show ¬ (1 : Int32) = 0 by decide), if_pos (show true = true from rfl), if_pos (show true = true from rfl), if_neg (show ¬ (1 : Int32) = 0 by decide), l1, l2, Option.bind_some, Option.bind_some, Option.bind_some]
        refine orStep A3 B3 (c + 1) l3 l4 (by omega) (keepC_trans hk l5 (by omega)) (by omega) (by omega) (by rw [l5.2.2.1 27 rfl]; exact h27) ?_
        exact pushC_two (pushC_keep hp1 (fun j hj => l5.2.2.2 j (by omega))) (pushC_keep hp l5.2.2.2) (Nat.le_refl _) (by omega) 41 l6 (Or.inr rfl)
theorem anyC_step {b : Nat → Nat} {t n N d h : Nat} {A0 B0 : ZI} {g77 : Nat → Nat → Int32 → Int32 → ZI → Option (Int32 × ZI)} {g177 : ZI → Option (Int32 × ZI)} (hC : CX 3 b t n N A0 B0) (hh64 : h + 2 ≤ 64) (hone : OneC b t N A0 B0 (g77 119 143 1 (zn d)) g177 d h) : OneC b t N A0 B0 (f76_readAny_b g77 119 143 1 (zn d)) (f188_aRule_b (f189_anyOf_b g177)) d (h + 2) := by
  intro m c A B hP hc hcm h27
  have hN := hC.2.1.1
  have key : ∀ F, 401 < F → Both A0 B0 (f76_l9 g77 119 143 1 (zn d) F 0 0 0 A) (f188_aRule_b (f189_anyOf_b g177) B) (CQ b t N A0 B0 A B m c 1 (fun B' c' => pushC B' c c' (h + 2))) := by
    intro F hF
    obtain ⟨F, rfl⟩ : ∃ q, F = q + 1 := ⟨F - 1, by omega⟩
    unfold f188_aRule_b
    rw [anyC_l9, if_pos (show (0 : Int32) < 400 by decide), show f189_anyOf_b g177 B = (g177 B).bind fun (v1, M2) => (if v1 = 0 then some ((0 : Int32), M2) else f189_l9 g177 zfu M2) from rfl, Option.bind_assoc]
    refine both_bind (hone m c A B hP hc hcm h27) (fun _ => rfl) (fun _ => rfl) (fun A2 B2 hq => ?_)
    obtain ⟨m2, c2, q1, q2, q3, q4, q5, q6, q7⟩ := hq
    dsimp only
    rw [if_neg (show ¬ (1 : Int32) = 0 by decide), if_neg (show ¬ (1 : Int32) = 0 by decide), if_pos rfl, Option.bind_some]
    exact anyC_tail hC hh64 hone F m2 0 c2 c zfu zfu A2 B2 false (by omega) (by rw [zfu_eq]; omega) (by rw [zfu_eq]; omega) (by omega) q1 q2 (by omega) (by rw [q3.2.2.1 27 rfl]; exact h27) q3 (Nat.le_refl _) q5 q4 (fun _ => ⟨rfl, by omega⟩) (fun hc => absurd hc (by decide)) (pushC_mono q7 (by omega))
  have := key zfu (by rw [zfu_eq]; omega)
  exact this
theorem kind_ne {b : Nat → Nat} {t s : Nat} (hb : tapB b t) (hs : s < t) : ¬ (if isLet (b s) = true then kindOf b s (runEnd isLet b t (t - s) s) 24 0 else if isDig (b s) = true then (if 4 < runEnd isDig b t (t - s) s - s then -3 else -2) else if signB (b s) = true then zn (b s) else -3) = (-1 : Int32) := by
  have hx := hb.2 s hs
  split
  · have : ∀ d k, k + d ≤ 24 → kindOf b s (runEnd isLet b t (t - s) s) d k ≠ -1 := by
      intro d
      induction d with
      | zero => intro k _; unfold kindOf; decide
      | succ d ih =>
        intro k hk
        unfold kindOf
        split
        · exact zn_ne_neg (by omega)
        · exact ih (k + 1) (by omega)
    exact this 24 0 (by omega)
  · split
    · split <;> decide
    · split
      · exact zn_ne_neg (by omega)
      · decide
theorem rule_ok {b : Nat → Nat} {t n N : Nat} {A0 B0 : ZI} (hC : CX 3 b t n N A0 B0) : ∀ D d, d + D = 8 → (∀ F G, 2 * D + 1 ≤ F → 3 * D + 1 ≤ G → OneC b t N A0 B0 (f77_readOne F 119 143 1 (zn d)) (f190_oneOf G) d (1 + 2 * D)) ∧ ∀ F G, 2 * D + 2 ≤ F → 3 * D + 3 ≤ G → OneC b t N A0 B0 (f76_readAny F 119 143 1 (zn d)) (f188_aRule G) d (3 + 2 * D) := by
  intro D
  induction D with
  | zero =>
    intro d hd
    have one : ∀ F G, 2 * 0 + 1 ≤ F → 3 * 0 + 1 ≤ G → OneC b t N A0 B0 (f77_readOne F 119 143 1 (zn d)) (f190_oneOf G) d (1 + 2 * 0) := by
      intro F G hF hG
      obtain ⟨F, rfl⟩ : ∃ q, F = q + 1 := ⟨F - 1, by omega⟩
      obtain ⟨G, rfl⟩ : ∃ q, G = q + 1 := ⟨G - 1, by omega⟩
      rw [fe77, fe190]
      exact oneC_step (h6 := 0) hC (by omega) (fun hd8 => by omega) (by omega) (fun hd8 => by omega)
    refine ⟨one, fun F G hF hG => ?_⟩
    obtain ⟨F, rfl⟩ : ∃ q, F = q + 1 := ⟨F - 1, by omega⟩
    obtain ⟨G, rfl⟩ : ∃ q, G = q + 2 := ⟨G - 2, by omega⟩
    have e := anyC_step hC (by decide) (one F G (by omega) (by omega))
    rw [fe76, fe188, fe189]
    exact e
  | succ D ih =>
    intro d hd
    have one : ∀ F G, 2 * (D + 1) + 1 ≤ F → 3 * (D + 1) + 1 ≤ G → OneC b t N A0 B0 (f77_readOne F 119 143 1 (zn d)) (f190_oneOf G) d (1 + 2 * (D + 1)) := by
      intro F G hF hG
      obtain ⟨F, rfl⟩ : ∃ q, F = q + 1 := ⟨F - 1, by omega⟩
      obtain ⟨G, rfl⟩ : ∃ q, G = q + 1 := ⟨G - 1, by omega⟩
      obtain ⟨ih1, ih2⟩ := ih (d + 1) (by omega)
      rw [fe77, fe190]
      exact oneC_step hC (by omega) (fun hd8 => ih2 F G (by omega) (by omega)) (by omega) (fun hd8 => by omega)
    refine ⟨one, fun F G hF hG => ?_⟩
    obtain ⟨F, rfl⟩ : ∃ q, F = q + 1 := ⟨F - 1, by omega⟩
    obtain ⟨G, rfl⟩ : ∃ q, G = q + 2 := ⟨G - 2, by omega⟩
    have e := anyC_step hC (by omega) (one F G (by omega) (by omega))
    rw [fe76, fe188, fe189, show 3 + 2 * (D + 1) = 1 + 2 * (D + 1) + 2 by omega]
    exact e
def RuleQ (b : Nat → Nat) (t N : Nat) (A0 B0 A' B' : ZI) : Prop := ∃ m c, PS 3 b t N A0 B0 A' B' m ∧ CC A' B' c ∧ c ≤ 400 ∧ (c = 0 ∨ pushC B' 0 c 19)
theorem council_read {b : Nat → Nat} {t n N : Nat} {A0 B0 A B : ZI} (hC : CX 3 b t n N A0 B0) (h : PS 3 b t N A0 B0 A B 0) : Both A0 B0 (f89_readCouncil 119 A) (f187_readsCouncil B) (RuleQ b t N A0 B0) := by
  have hN := hC.2.1.1
  have hP : PS 3 b t N A0 B0 (zs (zs A 142 1 0) 143 3 0) (zs (zs (zs B 148 17 0) 148 18 0) 148 27 0) 0 := PS_of h (fun o ho => by rw [zs_df (by omega), zs_df (by omega)]) (fun o o1 o2 => by rw [zs_df o1, zs_df o1, zs_df o1]) (fun j hj => by rw [zs_sm, if_neg (by rintro rfl; exact absurd hj (by decide)), zs_sm, if_neg (by rintro rfl; exact absurd hj (by decide)), zs_sm, if_neg (by rintro rfl; exact absurd hj (by decide))])
  have hc : CC (zs (zs A 142 1 0) 143 3 0) (zs (zs (zs B 148 17 0) 148 18 0) 148 27 0) 0 := ⟨0, by rw [zs_sm, if_pos rfl]; rfl, by rw [zs_sm, if_neg (by decide), zs_sm, if_pos rfl]; rfl, by rw [zs_df (by decide), zs_sm, if_pos rfl]; rfl, by rw [zs_sm, if_neg (by decide), zs_sm, if_neg (by decide), zs_sm, if_pos rfl]; rfl, Nat.le_refl _, Iff.rfl, fun j hj => by omega⟩
  have h27 : (zs (zs (zs B 148 17 0) 148 18 0) 148 27 0) 148 27 = zn 0 := by rw [zs_sm, if_pos rfl]; rfl
  have iend := fun m => tk_iff (a := 3) (k := -1) (x := 0) (by decide +kernel) b t m
  unfold f89_readCouncil f187_readsCouncil
  rw [zlet_e, zlet_e, zlet_e, zlet_e, zlet_e]
  show Both A0 B0 (if (zs (zs A 142 1 0) 143 3 0) 119 7 = -1 then _ else _) _ _
  generalize zs (zs A 142 1 0) 143 3 0 = A1 at *
  generalize zs (zs (zs B 148 17 0) 148 18 0) 148 27 0 = B1 at *
  rw [show A1 119 7 = tkK b t 0 from hP.2.1.2.1, show B1 148 21 = tkT 3 b t 0 from hP.2.2.2.2.1]
  by_cases k0 : tkK b t 0 = -1
  · rw [if_pos k0, if_pos ((iend 0).mp k0)]
    exact Or.inr ⟨A1, B1, rfl, rfl, 0, 0, hP, hc, by omega, Or.inl rfl⟩
  · rw [if_neg k0, if_neg (fun hx => k0 ((iend 0).mpr hx))]
    have hr : OneC b t N A0 B0 (f76_readAny zgf 119 143 1 0) (f188_aRule zgf) 0 19 := (rule_ok hC 8 0 rfl).2 zgf zgf (by unfold zgf; decide) (by unfold zgf; decide)
    refine both_bind (hr 0 0 A1 B1 hP hc (Nat.le_refl _) h27) (fun _ => rfl) (fun _ => rfl) (fun A2 B2 hq => ?_)
    obtain ⟨m2, c2, q1, q2, q3, q4, q5, q6, q7⟩ := hq
    have hm2 := q1.1.2.2
    dsimp only
    rw [if_neg (show ¬ (1 : Int32) = 0 by decide), if_neg (show ¬ (1 : Int32) = 0 by decide)]
    unfold f78_skip
    have hA2 : A2 119 7 = tkK b t m2 := q1.2.1.2.1
    have hB2 : B2 148 21 = tkT 3 b t m2 := q1.2.2.2.2.1
    simp only [hA2, hB2]
    by_cases k2 : tkK b t m2 = -1
    · have hmN : m2 = N := by
        by_cases hmN : m2 = N
        · exact hmN
        · exact absurd (by unfold tkK lexKind at k2; rw [if_pos (hC.2.1.2.2 m2 (by omega))] at k2; exact k2) (kind_ne hC.1.1 (hC.2.1.2.2 m2 (by omega)))
      have hf : f68_forward 119 A2 = some A2 := by
        unfold f68_forward
        rw [q1.2.1.1, q1.1.1.2 5 (by decide) (by decide) (by decide) (by decide) (by decide), hC.2.2.1.2.1, zadd1, if_neg (by rw [zn_lt (by omega) (by omega)]; omega)]
      rw [if_pos k2, if_pos ((iend m2).mp k2), hf]
      exact Or.inr ⟨A2, B2, rfl, rfl, m2, c2, q1, q2, by omega, Or.inr q7⟩
    · obtain ⟨A', B', r1, r2, r3⟩ := rfz hC q1 1
      rw [if_neg k2, if_neg (fun hx => k2 ((iend m2).mpr hx)), r1, r2]
      exact Or.inl ⟨A', B', rfl, rfl, r3⟩
end
section
-- ===== text of the VOICES =====
def dftV (B : ZI) : Nat → Int32 := fun i => B 155 (i - 80)
theorem dftV_0 (B : ZI) (j : Nat) : dftV B (80 + j) = B 155 j := by
  unfold dftV
  rw [show 80 + j - 80 = j by omega]
theorem voiceN_set {w w' : Nat → Int32} {x : Nat} (h1 : w (80 + x) = -1) (h2 : w' (80 + x) ≠ -1) (h3 : ∀ p, p ≠ x → w' (80 + p) = w (80 + p)) : ∀ n, x < n → voiceN w' n = voiceN w n + 1
  | 0, h => by omega
  | n + 1, h => by
    unfold voiceN
    by_cases hx : x = n
    · subst hx
      rw [voiceN_P x (fun p hp => h3 p (by omega)), if_neg h2, if_pos h1]
    · rw [voiceN_set h1 h2 h3 n (by omega), h3 n (by omega)]
      omega
theorem voiceN_le (w : Nat → Int32) : ∀ n, voiceN w n ≤ n
  | 0 => Nat.le_refl _
  | n + 1 => by
    unfold voiceN
    have := voiceN_le w n
    split <;> omega
def VC (A B : ZI) (n : Nat) : Prop := (∀ i, i < 10 → A 133 i = B 155 i) ∧ (∀ i, i < 10 → B 155 i = -1 ∨ ∃ q, q < n ∧ B 155 i = zn q) ∧ B 148 17 = zn (voiceN (dftV B) n)
theorem VC_of {A B A' B' : ZI} {n : Nat} (h : VC A B n) (g1 : A' 133 = A 133) (g2 : B' 155 = B 155) (g3 : B' 148 17 = B 148 17) : VC A' B' n := by
  unfold VC dftV
  rw [g1, g2, g3]
  exact h
def VQ (b : Nat → Nat) (t n N : Nat) (A0 B0 A' B' : ZI) : Prop := ∃ m, PS 1 b t N A0 B0 A' B' m ∧ VC A' B' n
theorem num_in {B : ZI} {lo hi : Int32} {v : Nat} (h21 : B 148 21 = 2) (h23 : B 148 23 = zn v) (h1 : ¬ zn v < lo) (h2 : ¬ hi < zn v) : ∀ B', f182_number lo hi B ≠ some (0, B') := by
  intro B' h
  unfold f182_number f149_isIn at h
  rw [h21, if_pos rfl, h23, if_neg h1, if_neg h2, Option.bind_some, if_neg (show ¬ (1 : Int32) = 0 by decide), zlet_e] at h
  cases hn : f157_next0 (zs B 148 29 (zn v)) with
  | none => rw [hn] at h; cases h
  | some M =>
    rw [hn, Option.bind_some] at h
    have := congrArg Prod.fst (Option.some.inj h)
    exact absurd this (show ¬ (1 : Int32) = 0 by decide)
theorem person_eq (x : Int32) (M : ZI) : f152_isPerson x M = some (if x < 0 then 0 else if (M 149 48 - 1) < x then 0 else 1) := by
  unfold f152_isPerson f149_isIn
  split
  · rfl
  · split <;> rfl
theorem l28_eq (f : Nat) (x7 : Int32) (M8 : ZI) : f180_l28 (f + 1) x7 M8 = (if x7 = 0 then some (x7, M8) else (if (M8 148 21) = 0 then some (x7, M8) else (f181_aVoice M8).bind fun (v9, M10) => f180_l28 f v9 M10)) := rfl
theorem l28_0 (f : Nat) (M8 : ZI) : f180_l28 (f + 1) 0 M8 = some (0, M8) := by rw [l28_eq, if_pos rfl]
def voice14 (x4 : Int32) (M7 : ZI) : Option (Int32 × ZI) := ((f182_number (0 : Int32) ((M7 149 48) - (1 : Int32)) M7).bind fun (v8, M9) => (if v8 = 0 then some ((0 : Int32), M9) else if zin x4 10 = true then zlet (zs M9 155 (zi x4) (M9 148 29)) fun (M10 : ZI) => zlet (zs M10 148 17 ((M10 148 17) + (1 : Int32))) fun (M11 : ZI) => (f179_need (159 : Int32) M11).bind fun (v12, M13) => if zbl v12 = true then some (v12, M13) else none else none))
def voice17 (M1 : ZI) : Option (Int32 × ZI) := ((f182_number (0 : Int32) ((M1 149 48) - (1 : Int32)) M1).bind fun (v2, M3) => (if v2 = 0 then some ((0 : Int32), M3) else zlet (M3 148 29) fun (x4 : Int32) => (f179_need (7 : Int32) M3).bind fun (v5, M6) => (if v5 = 0 then some ((0 : Int32), M6) else zlet (voice14 x4) fun j14 =>
  (if (M6 148 21) = (2 : Int32) then (if (M6 148 23) = x4 then (f170_bad (2 : Int32) M6).bind fun (v15, M16) => if zbl v15 = true then some (v15, M16) else none else j14 M6) else j14 M6))))
theorem aVoice_eq (M : ZI) : f181_aVoice M = (if (M 148 21) = (2 : Int32) then (f152_isPerson (M 148 23) M).bind fun v18 => (if v18 = 0 then voice17 M else if zin (M 148 23) 10 = true then (if (M 155 (zi (M 148 23))) = (-1 : Int32) then voice17 M else (f170_bad (2 : Int32) M).bind fun (v19, M20) => if zbl v19 = true then some (v19, M20) else none) else none) else voice17 M) := rfl
theorem voice_loop {b : Nat → Nat} {t n N : Nat} {A0 B0 : ZI} (hC : CX 1 b t n N A0 B0) : ∀ f m x6 g A B, N - m < f → N - m < g → 2 * x6 + (N - m) ≤ 400 → PS 1 b t N A0 B0 A B m → VC A B n →
    Both A0 B0 (f83_l23 119 f (zn x6) A) (f180_l28 g 1 B) (VQ b t n N A0 B0)
  | 0, m, x6, g, A, B, h1, h2, h3, h, hv => by omega
  | f + 1, m, x6, g, A, B, h1, h2, h3, h, hv => by
    obtain ⟨g, rfl⟩ : ∃ q, g = q + 1 := ⟨g - 1, by omega⟩
    have hN := hC.2.1.1
    have hmN := h.1.2.2
    have hn10 := hC.1.2.2
    have i2 : (pairs 1).all (fun q => (q.1 == -2) == (q.2 == 2)) = true := by decide +kernel
    have hA7 : A 119 7 = tkK b t m := h.2.1.2.1
    have hB21 : B 148 21 = tkT 1 b t m := h.2.2.2.2.1
    have iend := tk_iff (a := 1) (k := -1) (x := 0) (by decide +kernel) b t m
    have n9 : ∀ A B m, PS 1 b t N A0 B0 A B m → A 119 9 = zn n := fun A B m h => by rw [h.1.1.2 9 (by decide) (by decide) (by decide) (by decide) (by decide)]; exact hC.2.2.1.2.2
    have n48 : ∀ A B m, PS 1 b t N A0 B0 A B m → B 149 48 = zn n := fun A B m h => by rw [h.1.2.1.1 149 (by decide) (by omega)]; exact hC.2.2.2.2.2
    rw [f83_l23, l28_eq, if_pos (show zn x6 < 400 by rw [zl400, zn_lt (by omega) (by decide)]; omega), if_neg (show ¬ (1 : Int32) = 0 by decide), hA7, hB21]
    by_cases kend : tkK b t m = -1
    · rw [if_pos kend, if_pos (iend.mp kend)]
      exact Or.inr ⟨A, B, rfl, rfl, m, h, hv⟩
    rw [if_neg kend, if_neg (fun hx => kend (iend.mpr hx)), n9 _ _ _ h, aVoice_eq, person_eq, n48 _ _ _ h]
    have hm : m < N := (tk_end hC h).2 kend
    obtain ⟨g, rfl⟩ : ∃ q, g = q + 1 := ⟨g - 1, by omega⟩
    rcases num_step hC h 0 (zn n - 1) i2 with ⟨A', B', r1, r2, r3⟩ | ⟨v, A1, B1, hv1, q1, q2, -, q3, q4, q5, q6, q7, q8, q9, q10, q11⟩
    · have e17 : voice17 B = some (0, B') := by
        unfold voice17
        rw [n48 _ _ _ h, r2]
        rfl
      rw [r1, Option.bind_some]
      have e : (if B 148 21 = (2 : Int32) then ((some (if B 148 23 < 0 then (0 : Int32) else if (zn n - 1) < B 148 23 then 0 else 1)) : Option Int32).bind fun v18 => (if v18 = 0 then voice17 B else if zin (B 148 23) 10 = true then (if (B 155 (zi (B 148 23))) = (-1 : Int32) then voice17 B else (f170_bad (2 : Int32) B).bind fun (v19, M20) => if zbl v19 = true then some (v19, M20) else none) else none) else voice17 B) = some (0, B') := by
        by_cases h21 : B 148 21 = 2
        · rw [if_pos h21, Option.bind_some]
          have out : (if B 148 23 < 0 then (0 : Int32) else if (zn n - 1) < B 148 23 then 0 else 1) = 0 := by
            have i := tk_iff i2 b t m
            have hk : tkK b t m = -2 := i.mpr (by rw [← hB21]; exact h21)
            have h23 := h.2.2.2.2.2 hk
            by_cases h0 : B 148 23 < 0
            · rw [if_pos h0]
            · rw [if_neg h0]
              by_cases h4 : (zn n - 1) < B 148 23
              · rw [if_pos h4]
              · rw [h23] at h0 h4
                exact absurd r2 (num_in h21 h23 h0 h4 B')
          rw [out, if_pos rfl]
          exact e17
        · rw [if_neg h21]
          exact e17
      rw [e]
      exact Or.inl ⟨A', B', rfl, l28_0 _ _, r3⟩
    · have hvn := zn_pred hn10 hv1 q2
      have hz : zin (zn v) 10 = true := (zn_zin (by omega)).mpr (by omega)
      rw [q3, Option.bind_some, q5, if_pos rfl, q6, if_neg q1, if_neg q2, Option.bind_some, if_neg (show ¬ (1 : Int32) = 0 by decide), if_pos hz, zn_zi (by omega)]
      dsimp only
      rw [if_neg (show ¬ (1 : Int32) = 0 by decide), q4, zlet_e, zlet_e, if_pos (show zn v < 10 by rw [zl10, zn_lt (by omega) (by decide)]; omega), if_pos hz, zn_zi (by omega), hv.1 v (by omega)]
      by_cases h1v : B 155 v = -1
      case neg =>
        obtain ⟨A', B', r1, r2, r3⟩ := rfz hC h 2
        rw [if_neg h1v, if_neg h1v]
        dsimp only
        rw [r1, r2]
        exact Or.inl ⟨A', B', rfl, l28_0 _ _, r3⟩
      rw [if_pos h1v, if_pos h1v]
      obtain ⟨A4, f1, f2, f3⟩ := fwd_store (A2 := A) hC h hm (fun _ _ => rfl)
      have p1 := f3 A1 B1 q8
      have a4 : ∀ o, o ≠ 119 → A4 o = A o := f2
      unfold voice17
      rw [n48 _ _ _ h, q7, f1, Option.bind_some, Option.bind_some]
      dsimp only
      rw [if_neg (show ¬ (1 : Int32) = 0 by decide), q9, zlet_e]
      rcases skip_need (k := 272) (x := 7) hC p1 (by decide +kernel) (by decide) with ⟨s1, s2, s3⟩ | ⟨A', B', r1, r2, r3⟩
      case inr =>
        rw [r1, r2, Option.bind_some, Option.bind_some]
        exact Or.inl ⟨A', B', rfl, l28_0 _ _, r3⟩
      obtain ⟨A5, B2, e1, e2, e3, e4, e5, e6⟩ := fwd hC p1 s1
      rw [s2, s3, e1, e2, Option.bind_some, Option.bind_some, Option.bind_some, Option.bind_some]
      dsimp only
      rw [if_neg (show ¬ (1 : Int32) = 0 by decide), if_neg (show ¬ (1 : Int32) = 0 by decide), n9 _ _ _ e3, zlet_e (voice14 _)]
      rcases num_step hC e3 0 (zn n - 1) i2 with ⟨A', B', r1, r2, r3⟩ | ⟨v2, A6, B3, hv2, w1, w2, hm2, w3, w4, w5, w6, w7, w8, w9, w10, w11⟩
      · have e14 : voice14 (zn v) B2 = some (0, B') := by
          unfold voice14
          rw [n48 _ _ _ e3, r2]
          rfl
        have e : (if B2 148 21 = (2 : Int32) then (if B2 148 23 = zn v then (f170_bad (2 : Int32) B2).bind fun (v15, M16) => if zbl v15 = true then some (v15, M16) else none else voice14 (zn v) B2) else voice14 (zn v) B2) = some (0, B') := by
          by_cases h21 : B2 148 21 = 2
          · rw [if_pos h21]
            by_cases h23 : B2 148 23 = zn v
            · exact absurd r2 (num_in h21 h23 q1 q2 B')
            · rw [if_neg h23]
              exact e14
          · rw [if_neg h21]
            exact e14
        rw [r1, e]
        exact Or.inl ⟨A', B', rfl, l28_0 _ _, r3⟩
      · have hv2n := zn_pred hn10 hv2 w2
        rw [w3, if_pos w5, Option.bind_some]
        dsimp only
        rw [if_neg (show ¬ (1 : Int32) = 0 by decide)]
        by_cases hvv : zn v2 = zn v
        · obtain ⟨A', B', r1, r2, r3⟩ := rfz hC e3 2
          rw [if_pos (show A5 119 8 = zn v from w4.trans hvv), if_pos (show B2 148 23 = zn v from w6.trans hvv), r1, r2]
          exact Or.inl ⟨A', B', rfl, l28_0 _ _, r3⟩
        rw [if_neg (show ¬ A5 119 8 = zn v from fun hx => hvv (w4.symm.trans hx)), if_neg (show ¬ B2 148 23 = zn v from fun hx => hvv (w6.symm.trans hx)), if_pos hz, w4]
        unfold voice14
        rw [n48 _ _ _ e3, w7, Option.bind_some]
        dsimp only
        rw [if_neg (show ¬ (1 : Int32) = 0 by decide), if_pos hz, zn_zi (by omega), w9, zlet_e, zlet_e, zlet_e]
        have b155 : B3 155 = B 155 := by rw [w10 155 (by decide), e5 155 (by decide), q10 155 (by decide)]
        have b17 : B3 148 17 = zn (voiceN (dftV B) n) := by rw [w11 17 (by decide) (by decide) (by decide) (by decide) (by decide), e6 17 (by decide) (by decide) (by decide) (by decide), q11 17 (by decide) (by decide) (by decide) (by decide) (by decide)]; exact hv.2.2
        obtain ⟨A7, k1, k2, k3⟩ := fwd_store (A2 := zs A5 (119 + 14) v (zn v2)) hC e3 hm2 (fun o ho => by rw [zs_df (by omega)])
        have p2 := k3 A6 B3 w8
        have d17 : (zs B3 155 v (zn v2)) 148 17 = zn (voiceN (dftV B) n) := by rw [zs_df (by decide)]; exact b17
        rw [k1, Option.bind_some, d17, zadd1, zadd1]
        have p3 : PS 1 b t N A0 B0 A7 (zs (zs B3 155 v (zn v2)) 148 17 (zn (voiceN (dftV B) n + 1))) (m + 1 + 1 + 1) := PS_of p2 (fun _ _ => rfl) (fun o o1 o2 => by rw [zs_df o1, zs_df (by omega)]) (fun j hj => by rw [zs_sm, if_neg (by rintro rfl; exact absurd hj (by decide)), zs_df (by decide)])
        have V : VC A7 (zs (zs B3 155 v (zn v2)) 148 17 (zn (voiceN (dftV B) n + 1))) n := by
          have x133 : ∀ i, A7 133 i = if i = v then zn v2 else A 133 i := fun i => by rw [k2 133 (by decide), show 119 + 14 = 133 from rfl, zs_sm, e4 133 (by decide), a4 133 (by decide)]
          have x155 : ∀ i, (zs (zs B3 155 v (zn v2)) 148 17 (zn (voiceN (dftV B) n + 1))) 155 i = if i = v then zn v2 else B 155 i := fun i => by rw [zs_df (by decide), zs_sm, b155]
          refine ⟨fun i hi => ?_, fun i hi => ?_, ?_⟩
          · rw [x133, x155, hv.1 i hi]
          · rw [x155]
            by_cases hiv : i = v
            · rw [if_pos hiv]
              exact Or.inr ⟨v2, hv2n, rfl⟩
            · rw [if_neg hiv]
              exact hv.2.1 i hi
          · rw [zs_sm, if_pos rfl, voiceN_set (w := dftV B) (w' := dftV (zs (zs B3 155 v (zn v2)) 148 17 (zn (voiceN (dftV B) n + 1)))) (x := v) (by rw [dftV_0]; exact h1v) (by rw [dftV_0, x155, if_pos rfl]; exact zn_ne_neg (by omega)) (fun p hp => by rw [dftV_0, dftV_0, x155, if_neg hp]) n hvn]
        generalize zs (zs B3 155 v (zn v2)) 148 17 (zn (voiceN (dftV B) n + 1)) = B4 at *
        rcases skip_need (k := 59) (x := 159) hC p3 (by decide +kernel) (by decide) with ⟨s1, s2, s3⟩ | ⟨A', B', r1, r2, r3⟩
        · obtain ⟨A8, B5, l1, l2, l3, l4, l5, l6⟩ := fwd hC p3 s1
          rw [s2, s3, l1, l2, Option.bind_some, Option.bind_some, Option.bind_some, Option.bind_some]
          dsimp only
          rw [if_neg (show ¬ (1 : Int32) = 0 by decide), if_pos (show zbl (1 : Int32) = true from rfl), Option.bind_some]
          exact voice_loop hC f (m + 1 + 1 + 1 + 1) (x6 + 1) (g + 1) A8 B5 (by omega) (by omega) (by omega) l3 (VC_of V (l4 133 (by decide)) (l5 155 (by decide)) (l6 17 (by decide) (by decide) (by decide) (by decide)))
        · rw [r1, r2]
          exact Or.inl ⟨A', B', rfl, l28_0 _ _, r3⟩
end
section
theorem voice_read {b : Nat → Nat} {t n N : Nat} {A0 B0 A B : ZI} (hC : CX 1 b t n N A0 B0) (h : PS 1 b t N A0 B0 A B 0) : Both A0 B0 (f83_readVoices 119 A) (f180_readsVoices B) (VQ b t n N A0 B0) := by
  have hN := hC.2.1.1
  obtain ⟨A1, a1, a2, a3⟩ := zloop (fun fu (b : ZI) c => f83_l2 119 fu c b) 10 (fun i b => (∀ o, o ≠ 133 → b o = A o) ∧ ∀ j, j < i → b 133 j = -1) (fun b => (∀ o, o ≠ 133 → b o = A o) ∧ ∀ j, j < 10 → b 133 j = -1) (fun fu i b hi hb => by
    obtain ⟨g1, g2⟩ := hb
    left
    (try dsimp only)
    rw [f83_l2, if_pos (show zn i < 10 by rw [zl10, zn_lt (by omega) (by decide)]; exact hi), if_pos ((zn_zin (by omega)).mpr hi), zn_zi (by omega), zlet_e, zadd1]
    refine ⟨_, ⟨fun o ho => ?_, fun j hj => ?_⟩, rfl⟩
    · rw [zs_df (by omega)]; exact g1 o ho
    · rw [show 119 + 14 = 133 from rfl, zs_sm]
      by_cases hji : j = i
      · rw [if_pos hji]
      · rw [if_neg hji]; exact g2 j (by omega)) (fun fu b hb => by
    refine ⟨b, hb, ?_⟩
    (try dsimp only)
    rw [f83_l2, if_neg (by decide)]) zfu 0 A (Nat.zero_le _) (by rw [zfu_eq]; omega) ⟨fun _ _ => rfl, fun j hj => by omega⟩
  obtain ⟨B1, b1, b2, b3⟩ := zloop (fun fu (b : ZI) c => f180_l7 fu c b) 10 (fun i b => (∀ o, o ≠ 155 → b o = (zs B 148 17 0) o) ∧ ∀ j, j < i → b 155 j = -1) (fun b => (∀ o, o ≠ 155 → b o = (zs B 148 17 0) o) ∧ ∀ j, j < 10 → b 155 j = -1) (fun fu i b hi hb => by
    obtain ⟨g1, g2⟩ := hb
    left
    (try dsimp only)
    rw [f180_l7, if_pos (show zn i < 10 by rw [zl10, zn_lt (by omega) (by decide)]; exact hi), if_pos ((zn_zin (by omega)).mpr hi), zn_zi (by omega), zlet_e, zadd1]
    refine ⟨_, ⟨fun o ho => ?_, fun j hj => ?_⟩, rfl⟩
    · rw [zs_df ho]; exact g1 o ho
    · rw [zs_sm]
      by_cases hji : j = i
      · rw [if_pos hji]
      · rw [if_neg hji]; exact g2 j (by omega)) (fun fu b hb => by
    refine ⟨b, hb, ?_⟩
    (try dsimp only)
    rw [f180_l7, if_neg (by decide)]) zfu 0 (zs B 148 17 0) (Nat.zero_le _) (by rw [zfu_eq]; omega) ⟨fun _ _ => rfl, fun j hj => by omega⟩
  have a1 : f83_l2 119 zfu 0 A = some A1 := a1
  have b1 : f180_l7 zfu 0 (zs B 148 17 0) = some B1 := b1
  have hP : PS 1 b t N A0 B0 A1 B1 0 := PS_of h (fun o ho => a2 o (by omega)) (fun o o1 o2 => by rw [b2 o (by omega), zs_df o1]) (fun j hj => by rw [b2 148 (by decide), zs_sm, if_neg (by rintro rfl; exact absurd hj (by decide))])
  have hV : VC A1 B1 n := by
    refine ⟨fun i hi => by rw [a3 i hi, b3 i hi], fun i hi => Or.inl (b3 i hi), ?_⟩
    have e : ∀ n, n ≤ 10 → voiceN (dftV B1) n = 0 := by
      intro n
      induction n with
      | zero => intro _; rfl
      | succ n ih =>
        intro hn
        unfold voiceN
        rw [ih (by omega), dftV_0, b3 n (by omega), if_pos rfl]
    rw [e n hC.1.2.2, b2 148 (by decide), zs_sm, if_pos rfl]
    rfl
  have key := voice_loop hC zfu 0 0 zfu A1 B1 (by rw [zfu_eq]; omega) (by rw [zfu_eq]; omega) (by omega) hP hV
  unfold f83_readVoices f180_readsVoices
  rw [a1, zlet_e, b1, Option.bind_some, Option.bind_some]
  rcases key with ⟨A', B', e1, e2, e3⟩ | ⟨A', B', e1, e2, e3⟩
  · exact Or.inl ⟨A', B', e1, by rw [e2]; rfl, e3⟩
  · exact Or.inr ⟨A', B', e1, by rw [e2]; rfl, e3⟩
-- ===== text of the WORKS =====
/-- one thing told of a work -/
theorem entry_step {b : Nat → Nat} {t n N m k d : Nat} {A0 B0 A B : ZI} {kw w lo hi : Int32} (hC : CX 2 b t n N A0 B0) (h : PS 2 b t N A0 B0 A B m) (hd : d < 5) (hz : zal (135 + d) = 12) (hk : k < 12) (hA : A 134 6 = zn k) (hB : B 148 17 = zn k) (hi1 : (pairs 2).all (fun q => (q.1 == kw) == (q.2 == w)) = true) (hi2 : kw ≠ -1) :
    Both A0 B0 (f86_readEntry 119 kw (135 + d) lo hi A) (f185_told (zn d) w lo hi B) (fun A' B' => ∃ m' v, PS 2 b t N A0 B0 A' B' m' ∧ m < m' ∧ v < 10000 ∧ ¬ zn v < lo ∧ ¬ hi < zn v ∧ (∀ j, A' (135 + d) j = if j = k then zn v else A (135 + d) j) ∧ (∀ j, B' 156 j = if j = 6 * k + d then zn v else B 156 j) ∧ (∀ o, o ≠ 119 → o ≠ 135 + d → A' o = A o) ∧ (∀ o, o ≠ 148 → o ≠ 156 → B' o = B o) ∧ B' 148 17 = zn k) := by
  unfold f86_readEntry f185_told
  rcases skip_need hC h hi1 hi2 with ⟨s1, s2, s3⟩ | ⟨A', B', r1, r2, r3⟩
  case inr =>
    rw [r1, r2]
    exact Or.inl ⟨A', B', rfl, rfl, r3⟩
  obtain ⟨A1, B1, e1, e2, e3, e4, e5, e6⟩ := fwd hC h s1
  rw [s2, s3, e1, e2, Option.bind_some, Option.bind_some, Option.bind_some, Option.bind_some]
  dsimp only
  rw [if_neg (show ¬ (1 : Int32) = 0 by decide), if_neg (show ¬ (1 : Int32) = 0 by decide)]
  rcases num_step hC e3 lo hi (by decide +kernel) with ⟨A', B', r1, r2, r3⟩ | ⟨v, A2, B2, hv, q1, q2, hm, q3, q4, -, -, q5, q6, q7, q8, q9⟩
  · rw [r1, r2]
    exact Or.inl ⟨A', B', rfl, rfl, r3⟩
  have a6 : A1 (119 + 15) 6 = zn k := by rw [show 119 + 15 = 134 from rfl, e4 134 (by decide)]; exact hA
  have b17 : B2 148 17 = zn k := by rw [q9 17 (by decide) (by decide) (by decide) (by decide) (by decide), e6 17 (by decide) (by decide) (by decide) (by decide)]; exact hB
  obtain ⟨A3, f1, f2, f3⟩ := fwd_store (A2 := zs A1 (135 + d) k (zn v)) hC e3 hm (fun o ho => by rw [zs_df (by omega)])
  have hz12 : zin (zn k) 12 = true := (zn_zin (by omega)).mpr hk
  have x6 : (6 : Int32) * B2 148 17 + zn d = zn (6 * k + d) := by rw [b17, zl6, zn_mul, zn_add]
  rw [q3, q5, Option.bind_some, Option.bind_some]
  dsimp only
  rw [if_neg (show ¬ (1 : Int32) = 0 by decide), if_neg (show ¬ (1 : Int32) = 0 by decide), if_pos (show A1 (119 + 15) 6 < Int32.ofNat (zal (135 + d)) from by rw [a6, hz]; exact (zn_lt (by omega) (by decide)).mpr hk), if_pos (show zin (A1 (119 + 15) 6) (zal (135 + d)) = true from by rw [a6, hz]; exact hz12), a6, zn_zi (by omega), q4, zlet_e, Option.bind_some, f1, Option.bind_some, if_pos (show zin ((6 : Int32) * B2 148 17 + zn d) 72 = true from by rw [x6]; exact (zn_zin (by omega)).mpr (by omega)), x6, q7, zn_zi (by omega), zlet_e]
  refine Or.inr ⟨A3, _, rfl, rfl, m + 1 + 1, v, ?_, by omega, hv, q1, q2, fun j => ?_, fun j => ?_, fun o o1 o2 => ?_, fun o o1 o2 => ?_, ?_⟩
  · exact PS_of (f3 A2 B2 q6) (fun _ _ => rfl) (fun o o1 o2 => by rw [zs_df (by omega)]) (fun j hj => by rw [zs_df (by decide)])
  · rw [f2 _ (by omega), zs_sm, e4 _ (by omega)]
  · rw [zs_sm, q8 156 (by decide), e5 156 (by decide)]
  · rw [f2 o o1, zs_df o2, e4 o o1]
  · rw [zs_df o2, q8 o o1, e5 o o1]
  · rw [zs_df (by decide)]; exact b17
def afterJ (M3 : ZI) : Option (Int32 × ZI) := ((f182_number (0 : Int32) ((M3 148 17) - (1 : Int32)) M3).bind fun (v4, M5) => (if v4 = 0 then some ((0 : Int32), M5) else if zin (((6 : Int32) * (M5 148 17)) + (5 : Int32)) 72 = true then zlet (zs M5 156 (zi (((6 : Int32) * (M5 148 17)) + (5 : Int32))) (M5 148 29)) fun (M6 : ZI) => some ((1 : Int32), M6) else none))
def afterN (M2 : ZI) : Option (Int32 × ZI) := (if (M2 148 21) = (2 : Int32) then (if (M2 148 23) < (M2 148 17) then if zin (((6 : Int32) * (M2 148 23)) + (0 : Int32)) 72 = true then if zin (((6 : Int32) * (M2 148 17)) + (0 : Int32)) 72 = true then (if (M2 156 (zi (((6 : Int32) * (M2 148 23)) + (0 : Int32)))) = (M2 156 (zi (((6 : Int32) * (M2 148 17)) + (0 : Int32)))) then afterJ M2 else (f170_bad (2 : Int32) M2).bind fun (v8, M9) => if zbl v8 = true then some (v8, M9) else none) else none else none else afterJ M2) else afterJ M2)
theorem anAfter_eq (M : ZI) : f186_anAfter M = (if zin (((6 : Int32) * (M 148 17)) + (5 : Int32)) 72 = true then zlet (zs M 156 (zi (((6 : Int32) * (M 148 17)) + (5 : Int32))) (-1 : Int32)) fun (M1 : ZI) => (if (M1 148 21) = (13 : Int32) then (f157_next0 M1).bind afterN else some ((1 : Int32), M1)) else none) := rfl
/-- behind which work -/
theorem after_step {b : Nat → Nat} {t n N m k : Nat} {A0 B0 A B : ZI} (hC : CX 2 b t n N A0 B0) (h : PS 2 b t N A0 B0 A B m) (hk : k < 12) (hA : A 134 6 = zn k) (hB : B 148 17 = zn k) (hrow : ∀ i, i ≤ k → A 135 i = B 156 (6 * i)) :
    Both A0 B0 (f87_readAfter 119 A) (f186_anAfter B) (fun A' B' => ∃ m' x, PS 2 b t N A0 B0 A' B' m' ∧ m ≤ m' ∧ (x = -1 ∨ ∃ j, j < k ∧ x = zn j ∧ B 156 (6 * j) = B 156 (6 * k)) ∧ (∀ j, A' 140 j = if j = k then x else A 140 j) ∧ (∀ j, B' 156 j = if j = 6 * k + 5 then x else B 156 j) ∧ (∀ o, o ≠ 119 → o ≠ 140 → A' o = A o) ∧ (∀ o, o ≠ 148 → o ≠ 156 → B' o = B o) ∧ B' 148 17 = zn k) := by
  have hz12 : zin (zn k) 12 = true := (zn_zin (by omega)).mpr (by omega)
  have i278 := tk_iff (a := 2) (k := 278) (x := 13) (by decide +kernel) b t m
  have i2 : (pairs 2).all (fun q => (q.1 == -2) == (q.2 == 2)) = true := by decide +kernel
  have hPA : PS 2 b t N A0 B0 (zs A 140 k (-1)) (zs B 156 (6 * k + 5) (-1)) m := PS_of h (fun o ho => by rw [zs_df (by omega)]) (fun o o1 o2 => by rw [zs_df (by omega)]) (fun j hj => by rw [zs_df (by decide)])
  have a140 : ∀ j, (zs A 140 k (-1)) 140 j = if j = k then -1 else A 140 j := fun j => zs_sm ..
  have aO : ∀ o, o ≠ 140 → (zs A 140 k (-1)) o = A o := fun o ho => zs_df ho
  have b156 : ∀ j, (zs B 156 (6 * k + 5) (-1)) 156 j = if j = 6 * k + 5 then -1 else B 156 j := fun j => zs_sm ..
  have bO : ∀ o, o ≠ 156 → (zs B 156 (6 * k + 5) (-1)) o = B o := fun o ho => zs_df ho
  have x5 : (6 : Int32) * zn k + 5 = zn (6 * k + 5) := by rw [zl6, zn_mul, zl5, zn_add]
  have x0 : ∀ v, (6 : Int32) * zn v + 0 = zn (6 * v) := fun v => by rw [zl6, zn_mul, zl0, zn_add, Nat.add_zero]
  have hz72 : ∀ v, v ≤ k → zin (zn (6 * v)) 72 = true := fun v hv => (zn_zin (by omega)).mpr (by omega)
  have hz5 : zin (zn (6 * k + 5)) 72 = true := (zn_zin (by omega)).mpr (by omega)
  unfold f87_readAfter
  rw [anAfter_eq, show 119 + 15 = 134 from rfl, hA, zlet_e, if_pos hz12, zn_zi (by omega), show 119 + 21 = 140 from rfl, zlet_e, hB, x5, if_pos hz5, zn_zi (by omega), zlet_e (zs B 156 _ _)]
  generalize zs A 140 k (-1) = A1 at *
  generalize zs B 156 (6 * k + 5) (-1) = B1 at *
  rw [show A1 119 7 = tkK b t m from hPA.2.1.2.1, show B1 148 21 = tkT 2 b t m from hPA.2.2.2.2.1]
  by_cases k278 : tkK b t m = 278
  case neg =>
    rw [if_neg k278, if_neg (fun hx => k278 (i278.mpr hx))]
    exact Or.inr ⟨A1, B1, rfl, rfl, m, -1, hPA, Nat.le_refl _, Or.inl rfl, a140, b156, fun o o1 o2 => aO o o2, fun o o1 o2 => bO o o2, by rw [bO 148 (by decide)]; exact hB⟩
  have hm : m < N := pos_N hC hPA k278 (by decide)
  obtain ⟨A2, B2, e1, e2, e3, e4, e5, e6⟩ := fwd hC hPA hm
  have b17 : B2 148 17 = zn k := by rw [e6 17 (by decide) (by decide) (by decide) (by decide), bO 148 (by decide)]; exact hB
  rw [if_pos k278, if_pos (i278.mp k278), e1, e2, Option.bind_some, Option.bind_some]
  unfold afterN
  rw [b17]
  rcases num_step hC e3 0 (zn k - 1) i2 with ⟨A', B', r1, r2, r3⟩ | ⟨v, A3, B3, hv, q1, q2, hm2, q3, q4, q5, q6, q7, q8, q9, q10, q11⟩
  · have j7 : afterJ B2 = some (0, B') := by
      unfold afterJ
      rw [b17, r2]
      rfl
    rw [r1]
    refine Or.inl ⟨A', B', rfl, ?_, r3⟩
    by_cases h21 : B2 148 21 = 2
    · rw [if_pos h21]
      have i := tk_iff i2 b t (m + 1)
      have hkk : tkK b t (m + 1) = -2 := i.mpr (by rw [← e3.2.2.2.2.1]; exact h21)
      have h23 := e3.2.2.2.2.2 hkk
      have hlt := tkV_lt hC.1.1 hkk
      by_cases h4 : B2 148 23 < zn k
      · rw [h23, zn_lt (by omega) (by omega)] at h4
        refine absurd r2 (num_in h21 h23 (zn_nneg (by omega)) ?_ B')
        rw [zl1, zn_sub (by omega), zn_lt (by omega) (by omega)]
        omega
      · rw [if_neg h4]
        exact j7
    · rw [if_neg h21]
      exact j7
  · have hvk : v < k := by
      cases k with
      | zero => exact absurd (show (zn 0 - 1 : Int32) < zn v from neg_lt_zn (by omega)) q2
      | succ k =>
        rw [zl1, zn_sub (by omega), zn_lt (by omega) (by omega)] at q2
        omega
    have hzv : zin (zn v) 12 = true := (zn_zin (by omega)).mpr (by omega)
    have c156 : ∀ i, i ≤ k → B2 156 (6 * i) = B 156 (6 * i) := fun i hi => by rw [e5 156 (by decide), b156, if_neg (by omega)]
    have c135 : ∀ i, i ≤ k → A2 135 i = B 156 (6 * i) := fun i hi => by rw [e4 135 (by decide), aO 135 (by decide)]; exact hrow i hi
    rw [q3, if_pos q5, q6, if_pos ((zn_lt (by omega) (by omega)).mpr hvk), x0, x0, if_pos (hz72 v (by omega)), if_pos (hz72 k (Nat.le_refl _)), zn_zi (by omega), zn_zi (by omega), c156 v (by omega), c156 k (Nat.le_refl _), Option.bind_some]
    dsimp only
    rw [if_neg (show ¬ (1 : Int32) = 0 by decide), q4, if_pos hzv, if_pos hz12, zn_zi (by omega), show 119 + 16 = 135 from rfl, c135 v (by omega), c135 k (Nat.le_refl _)]
    by_cases heq : B 156 (6 * v) = B 156 (6 * k)
    case neg =>
      obtain ⟨A', B', r1, r2, r3⟩ := rfz hC e3 2
      rw [if_neg heq, if_neg heq, r1, r2]
      exact Or.inl ⟨A', B', rfl, rfl, r3⟩
    obtain ⟨A4, f1, f2, f3⟩ := fwd_store (A2 := zs A2 140 k (zn v)) hC e3 hm2 (fun o ho => by rw [zs_df (by omega)])
    have d17 : B3 148 17 = zn k := by rw [q11 17 (by decide) (by decide) (by decide) (by decide) (by decide)]; exact b17
    unfold afterJ
    rw [if_pos heq, if_pos heq, if_pos hz12, zlet_e, f1, Option.bind_some, b17, q7, Option.bind_some]
    dsimp only
    rw [if_neg (show ¬ (1 : Int32) = 0 by decide), d17, x5, if_pos hz5, zn_zi (by omega), zlet_e, q9]
    refine Or.inr ⟨A4, _, rfl, rfl, m + 1 + 1, zn v, PS_of (f3 A3 B3 q8) (fun _ _ => rfl) (fun o o1 o2 => by rw [zs_df (by omega)]) (fun j hj => by rw [zs_df (by decide)]), by omega, Or.inr ⟨v, hvk, rfl, heq⟩, fun j => ?_, fun j => ?_, fun o o1 o2 => ?_, fun o o1 o2 => ?_, ?_⟩
    · rw [f2 140 (by decide), zs_sm, e4 140 (by decide), a140]
      by_cases hjk : j = k
      · rw [if_pos hjk, if_pos hjk]
      · rw [if_neg hjk, if_neg hjk, if_neg hjk]
    · rw [zs_sm, q10 156 (by decide), e5 156 (by decide), b156]
      by_cases hjk : j = 6 * k + 5
      · rw [if_pos hjk, if_pos hjk]
      · rw [if_neg hjk, if_neg hjk, if_neg hjk]
    · rw [f2 o o1, zs_df o2, e4 o o1, aO o o2]
    · rw [zs_df o2, q10 o o1, e5 o o1, bO o o2]
    · rw [zs_df (by decide)]; exact d17
end
section
-- ===== the law: all that is left is text =====
def zBL : List (Nat × Nat × Int32) := (List.range 150).flatMap fun i => [(8, i, 0), (9, i, 0), (10, i, 0), (11, i, 0), (149, 578 + 4 * i, 0), (149, 579 + 4 * i, 0), (149, 580 + 4 * i, 0), (149, 581 + 4 * i, 0)]
def zB0 (M : ZI) : Prop := ∀ z ∈ zBL, M z.1 z.2.1 = z.2.2
theorem first_book {M : ZI} (h : zB0 M) : bookIs M 7 (M 149) := by
  intro i hi
  have g : ∀ z, z ∈ [(8, i, (0 : Int32)), (9, i, 0), (10, i, 0), (11, i, 0), (149, 578 + 4 * i, 0), (149, 579 + 4 * i, 0), (149, 580 + 4 * i, 0), (149, 581 + 4 * i, 0)] → M z.1 z.2.1 = z.2.2 := fun z hz => h z (List.mem_flatMap.mpr ⟨i, List.mem_range.mpr hi, hz⟩)
  have e1 : M 8 i = 0 := g (8, i, 0) (by simp)
  have e2 : M 9 i = 0 := g (9, i, 0) (by simp)
  have e3 : M 10 i = 0 := g (10, i, 0) (by simp)
  have e4 : M 11 i = 0 := g (11, i, 0) (by simp)
  have f1 : M 149 (578 + 4 * i) = 0 := g (149, 578 + 4 * i, 0) (by simp)
  have f2 : M 149 (579 + 4 * i) = 0 := g (149, 579 + 4 * i, 0) (by simp)
  have f3 : M 149 (580 + 4 * i) = 0 := g (149, 580 + 4 * i, 0) (by simp)
  have f4 : M 149 (581 + 4 * i) = 0 := g (149, 581 + 4 * i, 0) (by simp)
  exact ⟨e1.trans f1.symm, e2.trans f2.symm, e3.trans f3.symm, e4.trans f4.symm⟩
theorem first_Inv {M : ZI} (h : zI0 M) (hb : zB0 M) : Inv2 M M := by
  have g : ∀ z, zIL.contains z = true → M z.1 z.2.1 = z.2.2 := fun z hz => h z (List.contains_iff_mem.mp hz)
  have w0 : M 149 0 = 0 := g (149, 0, 0) (by decide)
  have w1 : M 149 1 = 0 := g (149, 1, 0) (by decide)
  have w2 : M 149 2 = 0 := g (149, 2, 0) (by decide)
  have w3 : M 149 3 = 0 := g (149, 3, 0) (by decide)
  have w4 : M 149 4 = 0 := g (149, 4, 0) (by decide)
  have w5 : M 149 5 = 0 := g (149, 5, 0) (by decide)
  have w6 : M 149 6 = 0 := g (149, 6, 0) (by decide)
  have w48 : M 149 48 = 0 := g (149, 48, 0) (by decide)
  have w49 : M 149 49 = 2 := g (149, 49, 2) (by decide)
  have w50 : M 149 50 = 12 := g (149, 50, 12) (by decide)
  have w51 : M 149 51 = 0 := g (149, 51, 0) (by decide)
  have w52 : M 149 52 = 0 := g (149, 52, 0) (by decide)
  have w53 : M 149 53 = 0 := g (149, 53, 0) (by decide)
  have w54 : M 149 54 = 0 := g (149, 54, 0) (by decide)
  have w55 : M 149 55 = 0 := g (149, 55, 0) (by decide)
  have w56 : M 149 56 = 0 := g (149, 56, 0) (by decide)
  have w57 : M 149 57 = 0 := g (149, 57, 0) (by decide)
  have w58 : M 149 58 = 0 := g (149, 58, 0) (by decide)
  have zz : zi (0 : Int32) = 0 := rfl
  have hfix : fixIs M 1 (M 149) 0 0 0 0 := by
    refine ⟨⟨⟨?_, ?_, ?_, ?_, ?_⟩, fun p hp => by omega⟩, ⟨?_, ?_, fun j hj => by omega, fun i hi => ?_⟩, ⟨?_, fun i hi => by omega⟩, ⟨?_, ?_, fun j hj => ?_⟩, ⟨?_, fun i hi => by omega⟩⟩
    · rw [w48]; exact g (1, 11, 0) (by decide)
    · rw [w49]; exact g (1, 12, 2) (by decide)
    · rw [w50]; exact g (1, 13, 12) (by decide)
    · rw [w56]; exact g (1, 14, 0) (by decide)
    · rw [w57]; exact g (1, 15, 0) (by decide)
    · rw [w58]; exact g (12, 5, 0) (by decide)
    · exact g (13, 3, 0) (by decide)
    · rw [w58, zz] at hi; omega
    · rw [w52]; exact g (21, 6, 0) (by decide)
    · rw [w53]; exact g (29, 1, 0) (by decide)
    · rw [w54]; exact g (30, 3, 0) (by decide)
    · rw [w54, zz] at hj; omega
    · rw [w55]; exact g (34, 2, 0) (by decide)
  have hok : fixOk (M 149) 0 0 0 0 := by
    refine ⟨⟨by decide, w48, ⟨2, by decide, w49⟩, ⟨12, by decide, by decide, w50⟩, ⟨0, by decide, w56⟩, ⟨0, by decide, w57⟩, w51, fun p hp => by omega⟩, ⟨by decide, 0, by decide, w58, fun i hi => by omega⟩, ⟨by decide, w52, fun i hi => by omega⟩, ⟨0, by decide, w54, ⟨fun _ => w53, fun _ => rfl⟩, fun j hj => by omega, fun S hS => Or.inl rfl⟩, by decide, w55⟩
  refine ⟨0, 0, 0, 0, ⟨hfix, hok, ⟨⟨?_, ?_, ?_, ?_, ?_, ?_, ?_⟩, fun p hp => by omega⟩, ⟨⟨0, by decide, w1⟩, ⟨0, by decide, w0, fun p hp => by omega⟩, ⟨0, by decide, w5⟩, ⟨0, by decide, w6⟩, fun p hp => by omega⟩, first_book hb⟩, ⟨0, 0, by decide, by decide, g (0, 4, 0) (by decide), g (0, 5, 0) (by decide), g (148, 4, 0) (by decide), fun j hj => by omega⟩, ⟨?_, Or.inl (g (0, 2, 0) (by decide))⟩, ⟨0, by decide, g (119, 1, 0) (by decide), g (148, 19, 0) (by decide), fun i hi => by omega, ?_, ?_⟩⟩
  · rw [w1]; exact g (2, 4, 0) (by decide)
  · rw [w0]; exact g (2, 5, 0) (by decide)
  · rw [w2]; exact g (2, 6, 0) (by decide)
  · rw [w3]; exact g (2, 7, 0) (by decide)
  · rw [w6]; exact g (2, 8, 0) (by decide)
  · rw [w4]; exact g (2, 9, 0) (by decide)
  · rw [w5]; exact g (2, 10, 0) (by decide)
  · exact (g (0, 2, 0) (by decide)).trans (g (148, 5, 0) (by decide)).symm
  · exact (g (119, 10, 0) (by decide)).trans (g (148, 26, 0) (by decide)).symm
  · exact (g (119, 11, -1) (by decide)).trans (g (148, 28, -1) (by decide)).symm
end
section
theorem hif (a : Int32) : ((if a = 0 then some (0 : Int32) else some 1) : Option Int32) = some (if a = 0 then 0 else 1) := by
  by_cases h : a = 0
  · rw [if_pos h, if_pos h]
  · rw [if_neg h, if_neg h]
theorem pure_of {x : Option Int32} {M M' : ZI} {v : Int32} (h : (x.bind fun v => some (v, M)) = some (v, M')) : x = some v ∧ M = M' := by
  cases x with
  | none => exact absurd h (by simp)
  | some u =>
    have := Option.some.inj h
    exact ⟨by rw [(Prod.mk.inj this).1], (Prod.mk.inj this).2⟩
theorem law_step (htext : ∀ x, sync (f52_text x) (f156_text x)) {L : Nat} {xs : Nat → Int32} {R : Nat → Nat → Option Nat} {M : ZI} {i : Nat} (hL : L ≤ 3072) (hi : i + 6 ≤ L) (hM : Inv2 M M) (m : Nat) : ∃ M', Inv2 M' M' ∧ f267_l18 ((L, xs), R) (m + 1) (zn i) M = f267_l18 ((L, xs), R) m (zn (i + 6)) M' := by
  have hz0 : zin (zn i) L = true := (zn_zin (by omega)).mpr (by omega)
  have hz : ∀ d, d < 6 → zin (zn i + zn d) L = true := fun d hd => by rw [zn_add]; exact (zn_zin (by omega)).mpr (by omega)
  have hz1 : zin (zn i + 1) L = true := hz 1 (by decide)
  have hz2 : zin (zn i + 2) L = true := hz 2 (by decide)
  have hz3 : zin (zn i + 3) L = true := hz 3 (by decide)
  have hz4 : zin (zn i + 4) L = true := hz 4 (by decide)
  have hz5 : zin (zn i + 5) L = true := hz 5 (by decide)
  have hsix : zn i + 6 = zn (i + 6) := by rw [zl6, zn_add]
  have hlt : ¬ Int32.ofNat L - 6 < zn i := by
    show ¬ zn L - 6 < zn i
    rw [zl6, zn_sub (by omega), zn_lt (by omega) (by omega)]; omega
  rw [f267_l18]
  (try dsimp only)
  rw [if_neg hlt, if_pos hz0]
  by_cases h0 : xs (zi (zn i)) &&& 63 = 0
  · rw [if_pos h0]
    obtain ⟨v, M1, M2, e1, e2, hI⟩ := one_of_sync (sync_state (xs (zi (zn i + 1)))) hM
    exact ⟨M2, hI, by simp only [hz1, hz2, hz3, hz4, hz5, hsix, hif, e1, e2, Option.bind_some, ↓reduceIte]⟩
  rw [if_neg h0]
  by_cases h1 : xs (zi (zn i)) &&& 63 = 1
  · rw [if_pos h1]
    obtain ⟨v, M1, M2, e1, e2, hI⟩ := one_of_sync (sync_person (xs (zi (zn i + 1))) (xs (zi (zn i + 2)))) hM
    exact ⟨M2, hI, by simp only [hz1, hz2, hz3, hz4, hz5, hsix, hif, e1, e2, Option.bind_some, ↓reduceIte]⟩
  rw [if_neg h1]
  by_cases h2 : xs (zi (zn i)) &&& 63 = 2
  · rw [if_pos h2]
    obtain ⟨v, M1, M2, e1, e2, hI⟩ := one_of_sync (sync_set (xs (zi (zn i + 1))) (xs (zi (zn i + 2))) (xs (zi (zn i + 3)))) hM
    exact ⟨M2, hI, by simp only [hz1, hz2, hz3, hz4, hz5, hsix, hif, e1, e2, Option.bind_some, ↓reduceIte]⟩
  rw [if_neg h2]
  by_cases h3 : xs (zi (zn i)) &&& 63 = 3
  · rw [if_pos h3]
    obtain ⟨v, M1, M2, e1, e2, hI⟩ := one_of_sync (sync_tie (xs (zi (zn i + 1))) (xs (zi (zn i + 2))) (if (xs (zi (zn i + 3))) = 0 then 0 else 1)) hM
    exact ⟨M2, hI, by simp only [hz1, hz2, hz3, hz4, hz5, hsix, hif, e1, e2, Option.bind_some, ↓reduceIte]⟩
  rw [if_neg h3]
  by_cases h4 : xs (zi (zn i)) &&& 63 = 4
  · rw [if_pos h4]
    obtain ⟨v, M1, M2, e1, e2, hI⟩ := one_of_sync (sync_sit (xs (zi (zn i + 1)))) hM
    exact ⟨M2, hI, by simp only [hz1, hz2, hz3, hz4, hz5, hsix, hif, e1, e2, Option.bind_some, ↓reduceIte]⟩
  rw [if_neg h4]
  by_cases h5 : xs (zi (zn i)) &&& 63 = 5
  · rw [if_pos h5]
    obtain ⟨v, M1, M2, e1, e2, hI⟩ := one_of_sync (sync_years (xs (zi (zn i + 1)))) hM
    exact ⟨M2, hI, by simp only [hz1, hz2, hz3, hz4, hz5, hsix, hif, e1, e2, Option.bind_some, ↓reduceIte]⟩
  rw [if_neg h5]
  by_cases h6 : xs (zi (zn i)) &&& 63 = 6
  · rw [if_pos h6]
    obtain ⟨v, M1, M2, e1, e2, hI⟩ := one_of_sync (sync_feed (xs (zi (zn i + 1))) (xs (zi (zn i + 2))) (xs (zi (zn i + 3))) (xs (zi (zn i + 4))) (xs (zi (zn i + 5)))) hM
    exact ⟨M2, hI, by simp only [hz1, hz2, hz3, hz4, hz5, hsix, hif, e1, e2, Option.bind_some, ↓reduceIte]⟩
  rw [if_neg h6]
  by_cases h7 : xs (zi (zn i)) &&& 63 = 7
  · rw [if_pos h7]
    obtain ⟨v, M1, M2, e1, e2, hI⟩ := one_of_sync (sync_end (xs (zi (zn i + 1)))) hM
    exact ⟨M2, hI, by simp only [hz1, hz2, hz3, hz4, hz5, hsix, hif, e1, e2, Option.bind_some, ↓reduceIte]⟩
  rw [if_neg h7]
  by_cases h8 : xs (zi (zn i)) &&& 63 = 8
  · rw [if_pos h8]
    obtain ⟨v, M1, M2, e1, e2, hI⟩ := one_of_sync (htext (xs (zi (zn i + 1)))) hM
    exact ⟨M2, hI, by simp only [hz1, hz2, hz3, hz4, hz5, hsix, hif, e1, e2, Option.bind_some, ↓reduceIte]⟩
  rw [if_neg h8]
  by_cases h9 : xs (zi (zn i)) &&& 63 = 9
  · rw [if_pos h9]
    obtain ⟨v, e1, e2⟩ := syncP_fault (xs (zi (zn i + 1))) M M hM
    exact ⟨M, hM, by simp only [hz1, hz2, hz3, hz4, hz5, hsix, e1, e2, Option.bind_some, ↓reduceIte]⟩
  rw [if_neg h9]
  by_cases h10 : xs (zi (zn i)) &&& 63 = 10
  · rw [if_pos h10]
    obtain ⟨v, M1, M2, e1, e2, hI⟩ := one_of_sync (sync_of (xs (zi (zn i + 1))) (xs (zi (zn i + 2)))) hM
    exact ⟨M2, hI, by simp only [hz1, hz2, hz3, hz4, hz5, hsix, hif, e1, e2, Option.bind_some, ↓reduceIte]⟩
  rw [if_neg h10]
  by_cases h11 : xs (zi (zn i)) &&& 63 = 11
  · rw [if_pos h11]
    obtain ⟨v, M1, M2, e1, e2, hI⟩ := one_of_sync (sync_after (xs (zi (zn i + 1))) (xs (zi (zn i + 2))) (if (xs (zi (zn i + 3))) = 0 then 0 else 1)) hM
    exact ⟨M2, hI, by simp only [hz1, hz2, hz3, hz4, hz5, hsix, hif, e1, e2, Option.bind_some, ↓reduceIte]⟩
  rw [if_neg h11]
  by_cases h12 : xs (zi (zn i)) &&& 63 = 12
  · rw [if_pos h12]
    obtain ⟨v, e1, e2⟩ := syncP_work (xs (zi (zn i + 1))) (xs (zi (zn i + 2))) M M hM
    exact ⟨M, hM, by simp only [hz1, hz2, hz3, hz4, hz5, hsix, e1, e2, Option.bind_some, ↓reduceIte]⟩
  rw [if_neg h12]
  by_cases h13 : xs (zi (zn i)) &&& 63 = 13
  · rw [if_pos h13]
    obtain ⟨v, e1, e2⟩ := syncP_book (xs (zi (zn i + 1))) (xs (zi (zn i + 2))) M M hM
    exact ⟨M, hM, by simp only [hz1, hz2, hz3, hz4, hz5, hsix, e1, e2, Option.bind_some, ↓reduceIte]⟩
  rw [if_neg h13]
  by_cases h14 : xs (zi (zn i)) &&& 63 = 14
  · rw [if_pos h14]
    obtain ⟨v, M1, M2, e1, e2, hI⟩ := one_of_sync (sync_does (xs (zi (zn i + 1)))) hM
    exact ⟨M2, hI, by simp only [hz1, hz2, hz3, hz4, hz5, hsix, hif, e1, e2, Option.bind_some, ↓reduceIte]⟩
  rw [if_neg h14]
  by_cases h15 : xs (zi (zn i)) &&& 63 = 15
  · rw [if_pos h15]
    obtain ⟨v, e1, e2⟩ := syncP_plan (xs (zi (zn i + 1))) (xs (zi (zn i + 2))) (xs (zi (zn i + 3))) M M hM
    exact ⟨M, hM, by simp only [hz1, hz2, hz3, hz4, hz5, hsix, e1, e2, Option.bind_some, ↓reduceIte]⟩
  rw [if_neg h15]
  by_cases h16 : xs (zi (zn i)) &&& 63 = 16
  · rw [if_pos h16]
    obtain ⟨v, M1, M2, e1, e2, hI⟩ := one_of_sync (sync_given (xs (zi (zn i + 1))) (xs (zi (zn i + 2)))) hM
    exact ⟨M2, hI, by simp only [hz1, hz2, hz3, hz4, hz5, hsix, hif, e1, e2, Option.bind_some, ↓reduceIte]⟩
  rw [if_neg h16]
  by_cases h17 : xs (zi (zn i)) &&& 63 = 17
  · rw [if_pos h17]
    obtain ⟨v, M1, M2, e1, e2, hI⟩ := one_of_sync (sync_can (xs (zi (zn i + 1)))) hM
    exact ⟨M2, hI, by simp only [hz1, hz2, hz3, hz4, hz5, hsix, hif, e1, e2, Option.bind_some, ↓reduceIte]⟩
  rw [if_neg h17]
  by_cases h18 : xs (zi (zn i)) &&& 63 = 18
  · rw [if_pos h18]
    obtain ⟨v, M1, M2, e1, e2, hI⟩ := one_of_sync (sync_fewest (xs (zi (zn i + 1))) (xs (zi (zn i + 2)))) hM
    exact ⟨M2, hI, by simp only [hz1, hz2, hz3, hz4, hz5, hsix, hif, e1, e2, Option.bind_some, ↓reduceIte]⟩
  rw [if_neg h18]
  by_cases h19 : xs (zi (zn i)) &&& 63 = 19
  · rw [if_pos h19]
    obtain ⟨v, M1, M2, e1, e2, hI⟩ := one_of_sync (sync_hinge (xs (zi (zn i + 1)))) hM
    exact ⟨M2, hI, by simp only [hz1, hz2, hz3, hz4, hz5, hsix, hif, e1, e2, Option.bind_some, ↓reduceIte]⟩
  rw [if_neg h19]
  by_cases h20 : xs (zi (zn i)) &&& 63 = 20
  · rw [if_pos h20]
    obtain ⟨v, M1, M2, e1, e2, hI⟩ := one_of_sync (sync_turnsOf (xs (zi (zn i + 1))) (xs (zi (zn i + 2)))) hM
    obtain ⟨e3, rfl⟩ := pure_of e1
    exact ⟨M2, hI, by simp only [hz1, hz2, hz3, hz4, hz5, hsix, e3, e2, Option.bind_some, ↓reduceIte]⟩
  rw [if_neg h20]
  by_cases h21 : xs (zi (zn i)) &&& 63 = 21
  · rw [if_pos h21]
    obtain ⟨v, M1, M2, e1, e2, hI⟩ := one_of_sync (sync_traces (xs (zi (zn i + 1))) (xs (zi (zn i + 2)))) hM
    exact ⟨M2, hI, by simp only [hz1, hz2, hz3, hz4, hz5, hsix, hif, e1, e2, Option.bind_some, ↓reduceIte]⟩
  rw [if_neg h21]
  by_cases h22 : xs (zi (zn i)) &&& 63 = 22
  · rw [if_pos h22]
    obtain ⟨v, M1, M2, e1, e2, hI⟩ := one_of_sync (sync_fits (xs (zi (zn i + 1))) (xs (zi (zn i + 2)))) hM
    obtain ⟨e3, rfl⟩ := pure_of e2
    exact ⟨M1, hI, by simp only [hz1, hz2, hz3, hz4, hz5, hsix, e1, e3, Option.bind_some, ↓reduceIte]⟩
  rw [if_neg h22]
  by_cases h23 : xs (zi (zn i)) &&& 63 = 23
  · rw [if_pos h23]
    obtain ⟨v, M1, M2, e1, e2, hI⟩ := one_of_sync (sync_lookAt (xs (zi (zn i + 1)))) hM
    obtain ⟨e3, rfl⟩ := pure_of e2
    exact ⟨M1, hI, by simp only [hz1, hz2, hz3, hz4, hz5, hsix, e1, e3, Option.bind_some, ↓reduceIte]⟩
  rw [if_neg h23]
  by_cases h24 : xs (zi (zn i)) &&& 63 = 24
  · rw [if_pos h24]
    obtain ⟨v, e1, e2⟩ := syncP_share (xs (zi (zn i + 1))) (xs (zi (zn i + 2))) (xs (zi (zn i + 3))) M M hM
    exact ⟨M, hM, by simp only [hz1, hz2, hz3, hz4, hz5, hsix, e1, e2, Option.bind_some, ↓reduceIte]⟩
  rw [if_neg h24]
  by_cases h25 : xs (zi (zn i)) &&& 63 = 25
  · rw [if_pos h25]
    obtain ⟨v, M1, M2, e1, e2, hI⟩ := one_of_sync (sync_bid (xs (zi (zn i + 1))) (xs (zi (zn i + 2)))) hM
    exact ⟨M2, hI, by simp only [hz1, hz2, hz3, hz4, hz5, hsix, hif, e1, e2, Option.bind_some, ↓reduceIte]⟩
  rw [if_neg h25]
  by_cases h26 : xs (zi (zn i)) &&& 63 = 26
  · rw [if_pos h26]
    obtain ⟨v, e1, e2⟩ := syncP_sold (xs (zi (zn i + 1))) M M hM
    exact ⟨M, hM, by simp only [hz1, hz2, hz3, hz4, hz5, hsix, e1, e2, Option.bind_some, ↓reduceIte]⟩
  rw [if_neg h26]
  by_cases h27 : xs (zi (zn i)) &&& 63 = 27
  · rw [if_pos h27]
    obtain ⟨v, e1, e2⟩ := syncP_rests (xs (zi (zn i + 1))) M M hM
    exact ⟨M, hM, by simp only [hz1, hz2, hz3, hz4, hz5, hsix, e1, e2, Option.bind_some, ↓reduceIte]⟩
  rw [if_neg h27]
  by_cases h28 : xs (zi (zn i)) &&& 63 = 28
  · rw [if_pos h28]
    obtain ⟨v, e1, e2⟩ := syncP_weekday (xs (zi (zn i + 1))) (xs (zi (zn i + 2))) (xs (zi (zn i + 3))) (xs (zi (zn i + 4))) M M hM
    have e1 : f123_weekday (xs (zi (zn i + 1))) (xs (zi (zn i + 2))) (xs (zi (zn i + 3))) (xs (zi (zn i + 4))) = some v := e1
    have e2 : f261_weekday (xs (zi (zn i + 1))) (xs (zi (zn i + 2))) (xs (zi (zn i + 3))) (xs (zi (zn i + 4))) = some v := e2
    exact ⟨M, hM, by simp only [hz1, hz2, hz3, hz4, hz5, hsix, e1, e2, Option.bind_some, ↓reduceIte]⟩
  rw [if_neg h28]
  by_cases h29 : xs (zi (zn i)) &&& 63 = 29
  · rw [if_pos h29]
    obtain ⟨v, e1, e2⟩ := syncP_next M M hM
    exact ⟨M, hM, by simp only [hz1, hz2, hz3, hz4, hz5, hsix, e1, e2, Option.bind_some, ↓reduceIte]⟩
  rw [if_neg h29]
  by_cases h30 : xs (zi (zn i)) &&& 63 = 30
  · rw [if_pos h30]
    obtain ⟨v, e1, e2⟩ := syncP_due (xs (zi (zn i + 1))) M M hM
    exact ⟨M, hM, by simp only [hz1, hz2, hz3, hz4, hz5, hsix, e1, e2, Option.bind_some, ↓reduceIte]⟩
  rw [if_neg h30]
  by_cases h31 : xs (zi (zn i)) &&& 63 = 31
  · rw [if_pos h31]
    obtain ⟨v, M1, M2, e1, e2, hI⟩ := one_of_sync (sync_doers (xs (zi (zn i + 1)))) hM
    exact ⟨M2, hI, by simp only [hz1, hz2, hz3, hz4, hz5, hsix, hif, e1, e2, Option.bind_some, ↓reduceIte]⟩
  rw [if_neg h31]
  by_cases h32 : xs (zi (zn i)) &&& 63 = 32
  · rw [if_pos h32]
    obtain ⟨v, M1, M2, e1, e2, hI⟩ := one_of_sync (sync_thieves) hM
    obtain ⟨e3, rfl⟩ := pure_of e2
    exact ⟨M1, hI, by simp only [hz1, hz2, hz3, hz4, hz5, hsix, e1, e3, Option.bind_some, ↓reduceIte]⟩
  rw [if_neg h32]
  by_cases h33 : xs (zi (zn i)) &&& 63 = 33
  · rw [if_pos h33]
    obtain ⟨v, M1, M2, e1, e2, hI⟩ := one_of_sync (sync_soonest (xs (zi (zn i + 1)))) hM
    exact ⟨M2, hI, by simp only [hz1, hz2, hz3, hz4, hz5, hsix, hif, e1, e2, Option.bind_some, ↓reduceIte]⟩
  rw [if_neg h33]
  by_cases h34 : xs (zi (zn i)) &&& 63 = 34
  · rw [if_pos h34]
    obtain ⟨v, e1, e2⟩ := syncP_spread (xs (zi (zn i + 1))) M M hM
    exact ⟨M, hM, by simp only [hz1, hz2, hz3, hz4, hz5, hsix, e1, e2, Option.bind_some, ↓reduceIte]⟩
  rw [if_neg h34]
  by_cases h35 : xs (zi (zn i)) &&& 63 = 35
  · rw [if_pos h35]
    obtain ⟨v, e1, e2⟩ := syncP_way (xs (zi (zn i + 1))) (xs (zi (zn i + 2))) M M hM
    exact ⟨M, hM, by simp only [hz1, hz2, hz3, hz4, hz5, hsix, e1, e2, Option.bind_some, ↓reduceIte]⟩
  rw [if_neg h35]
  by_cases h36 : xs (zi (zn i)) &&& 63 = 36
  · rw [if_pos h36]
    obtain ⟨v, e1, e2⟩ := syncP_clique (xs (zi (zn i + 1))) M M hM
    exact ⟨M, hM, by simp only [hz1, hz2, hz3, hz4, hz5, hsix, e1, e2, Option.bind_some, ↓reduceIte]⟩
  rw [if_neg h36]
  by_cases h37 : xs (zi (zn i)) &&& 63 = 37
  · rw [if_pos h37]
    obtain ⟨v, M1, M2, e1, e2, hI⟩ := one_of_sync (sync_undo) hM
    exact ⟨M2, hI, by simp only [hz1, hz2, hz3, hz4, hz5, hsix, hif, e1, e2, Option.bind_some, ↓reduceIte]⟩
  rw [if_neg h37]
  by_cases h38 : xs (zi (zn i)) &&& 63 = 38
  · rw [if_pos h38]
    obtain ⟨v, M1, M2, e1, e2, hI⟩ := one_of_sync (sync_image (if (xs (zi (zn i + 1))) = 0 then 0 else 1)) hM
    exact ⟨M2, hI, by simp only [hz1, hz2, hz3, hz4, hz5, hsix, hif, e1, e2, Option.bind_some, ↓reduceIte]⟩
  rw [if_neg h38]
  by_cases h39 : xs (zi (zn i)) &&& 63 = 39
  · rw [if_pos h39]
    obtain ⟨v, M1, M2, e1, e2, hI⟩ := one_of_sync (sync_look (xs (zi (zn i + 1)))) hM
    exact ⟨M2, hI, by simp only [hz1, hz2, hz3, hz4, hz5, hsix, hif, e1, e2, Option.bind_some, ↓reduceIte]⟩
  rw [if_neg h39]
  exact ⟨M, hM, by rw [hsix]⟩
theorem law_true_of (htext : ∀ x, sync (f52_text x) (f156_text x)) {L : Nat} {xs : Nat → Int32} {R : Nat → Nat → Option Nat} (hL : L ≤ 3072) : ∀ (d i : Nat) (M : ZI) (f : Nat), L < i + d → i ≤ L + 6 → d < f → Inv2 M M → ∃ M', f267_l18 ((L, xs), R) f (zn i) M = some (1, M')
  | d, i, M, 0, _, _, h, _ => by omega
  | d, i, M, f + 1, h1, h2, h3, hM => by
    by_cases hi : i + 6 ≤ L
    · obtain ⟨M1, hM1, e⟩ := law_step (xs := xs) (R := R) htext hL hi hM f
      rw [e]
      exact law_true_of htext hL (d - 6) (i + 6) M1 f (by omega) (by omega) (by omega) hM1
    · refine ⟨M, ?_⟩
      have hlt : Int32.ofNat L - 6 < zn i := by
        show zn L - 6 < zn i
        by_cases hL6 : 6 ≤ L
        · rw [zl6, zn_sub (by omega), zn_lt (by omega) (by omega)]; omega
        · have : ∀ x : Fin 6, (zn x.val - 6 : Int32) < 0 := by decide +kernel
          have h0 := this ⟨L, by omega⟩
          have h9 : (0 : Int32) ≤ zn i := (zn_nat (by omega)).1
          exact Int32.lt_of_lt_of_le h0 h9
      rw [f267_l18]
      (try dsimp only)
      rw [if_pos hlt]
end
