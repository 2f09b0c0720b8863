-- ===== THE PLAIN MACHINE: one frame of an own class after another, over a heap of numbered cells =====
/-- ints of each cell, references of each cell, and what each cell is: 0 int[], 1 boolean[], 2 Moment[], 50 byte[], 51 int[][], 52 Land[], 3 + c an object of class c; and its length -/
abbrev ZH : Type := (Nat → Nat → Int32) × (Nat → Nat → Option Nat) × List (Nat × Nat)
/-- the script: how long, and its ints -/
abbrev ZS : Type := Nat × (Nat → Int32)
/-- one step: on, or back with an answer, or a call (callee, arguments, what stays) -/
abbrev ZR : Type := (Nat × List Slot × List Value × ZH) ⊕ (Option Value ⊕ (Nat × List Value × List Value))
def zw {α : Type} (f : Nat → α) (o : Nat) (g : α) : Nat → α := fun a => if a = o then g else f a
def zn (pc : Nat) (ls : List Slot) (st : List Value) (h : ZH) : Option ZR := some (.inl (pc, ls, st, h))
def zto (pc : Nat) (off : Int) (ls : List Slot) (st : List Value) (h : ZH) : Option ZR := if 0 ≤ (pc : Int) + off then zn ((pc : Int) + off).toNat ls st h else none
def zld (int : Bool) (i len pc : Nat) (ls : List Slot) (st : List Value) (h : ZH) : Option ZR := match ls[i]? with
  | some (.val (.int x)) => if int = true then zn (pc + len) ls (.int x :: st) h else none
  | some (.val (.ref x)) => if int = false then zn (pc + len) ls (.ref x :: st) h else none
  | some (.val .null) => if int = false then zn (pc + len) ls (.null :: st) h else none
  | _ => none
def zst (int : Bool) (i len pc : Nat) (ls : List Slot) (st : List Value) (h : ZH) : Option ZR := match st with
  | .int x :: st' => if int = true ∧ i < ls.length then zn (pc + len) (ls.set i (.val (.int x))) st' h else none
  | .ref x :: st' => if int = false ∧ i < ls.length then zn (pc + len) (ls.set i (.val (.ref x))) st' h else none
  | .null :: st' => if int = false ∧ i < ls.length then zn (pc + len) (ls.set i (.val .null)) st' h else none
  | _ => none
def zbin (f : Int32 → Int32 → Int32) (pc : Nat) (ls : List Slot) (st : List Value) (h : ZH) : Option ZR := match st with
  | .int b :: .int a :: st' => zn (pc + 1) ls (.int (f a b) :: st') h
  | _ => none
def zcmp (k : ClassFile.Cond) (a b : Int32) : Prop := match k with
  | .eq => a = b
  | .ne => ¬ a = b
  | .lt => a < b
  | .ge => b ≤ a
  | .gt => b < a
  | .le => a ≤ b
def zcmpB (k : ClassFile.Cond) (a b : Int32) : Bool := match k with
  | .eq => decide (a = b)
  | .ne => decide (¬ a = b)
  | .lt => decide (a < b)
  | .ge => decide (b ≤ a)
  | .gt => decide (b < a)
  | .le => decide (a ≤ b)
theorem zcmpB_iff {k : ClassFile.Cond} {a b : Int32} : zcmpB k a b = true ↔ zcmp k a b := by cases k <;> simp [zcmpB, zcmp]
def zif (c : Bool) (pc : Nat) (off : Int) (ls : List Slot) (st : List Value) (h : ZH) : Option ZR := if 0 ≤ (pc : Int) + off then (if c = true then zn ((pc : Int) + off).toNat ls st h else zn (pc + 3) ls st h) else none
def zDG0 : List Int32 := (List.range 100).map fun i => Int32.ofNat (48 + i % 10)
def zDG1 : List Int32 := (List.range 100).map fun i => Int32.ofNat (48 + i / 10)
/-- bytes that stand outside: of the texts, of the two tables of digits -/
def zBY : List (List Int32) := zSR ++ [zDG0, zDG1]
/-- fields of a text, by own class and pool place: 0 its bytes, 1 its coder -/
def zjf (own ix : Nat) : Option Nat := if zcn own = "java/lang/String" then (if ix = 9 then some 0 else if ix = 15 then some 1 else none) else none
def zget (y ix pc : Nat) (ls : List Slot) (st : List Value) (h : ZH) : Option ZR := match st with
  | .ref o :: st' =>
    if o < 1000000 then
      match zfld (zown y) ix, h.2.2[o]? with
      | some (c, k), some q => if q.1 = c + 3 ∧ k < zN c then zn (pc + 3) ls ((if zfk c k = 2 then va_rf (h.2.1 o k) else .int (h.1 o k)) :: st') h else none
      | _, _ => none
    else if 2000000 ≤ o ∧ o < 2000000 + zSR.length then
      match zjf (zown y) ix with
      | some 0 => zn (pc + 3) ls (.ref (o + 1000000) :: st') h
      | some 1 => zn (pc + 3) ls (.int 0 :: st') h
      | _ => none
    else none
  | _ => none
/-- a field that may be stored here: not final, or of one's own class in its constructor -/
def zfo (y c k : Nat) : Bool := !zfin c k || (Nat.beq (zkind y) 2 && Nat.beq (zown y) c)
def zput (y ix pc : Nat) (ls : List Slot) (st : List Value) (h : ZH) : Option ZR := match st with
  | .int x :: .ref o :: st' =>
    match zfld (zown y) ix, h.2.2[o]? with
    | some (c, k), some q => if q.1 = c + 3 ∧ k < zN c ∧ (zfk c k = 0 ∨ (zfk c k = 1 ∨ zfk c k = 3) ∧ (x = 0 ∨ x = 1)) ∧ zfo y c k = true then zn (pc + 3) ls st' (zw h.1 o (upd (h.1 o) k x), h.2) else none
    | _, _ => none
  | .ref r :: .ref o :: st' =>
    match zfld (zown y) ix, h.2.2[o]? with
    | some (c, k), some q => if q.1 = c + 3 ∧ k < zN c ∧ zfk c k = 2 ∧ zfo y c k = true ∧ r < 1000000 then zn (pc + 3) ls st' (h.1, zw h.2.1 o (zw (h.2.1 o) k (some r)), h.2.2) else none
    | _, _ => none
  | .null :: .ref o :: st' =>
    match zfld (zown y) ix, h.2.2[o]? with
    | some (c, k), some q => if q.1 = c + 3 ∧ k < zN c ∧ zfk c k = 2 ∧ zfo y c k = true then zn (pc + 3) ls st' (h.1, zw h.2.1 o (zw (h.2.1 o) k none), h.2.2) else none
    | _, _ => none
  | _ => none
/-- may a load or a store of this kind (0 int, 1 byte or boolean, 2 a reference) go to this array -/
def zopk (op kd : Nat) : Bool := if op = 0 then Nat.beq kd 0 else if op = 1 then Nat.beq kd 1 || Nat.beq kd 50 else Nat.beq kd 2 || Nat.beq kd 51 || Nat.beq kd 52
/-- what an array of references takes -/
def zelk (kd : Nat) : Nat := if kd = 2 then 5 else if kd = 51 then 0 else if kd = 52 then 13 else 9999
/-- what comes of an int in an array -/
def znw (kd : Nat) (x : Int32) : Int32 := if kd = 1 then vp_nar .boolean x else if kd = 50 then vp_nar .byte x else x
def zarr (kd : Nat) : Bool := Nat.blt kd 3 || Nat.beq kd 50 || Nat.beq kd 51 || Nat.beq kd 52
/-- a byte's number -/
def zft (x : Int32) : Bool := decide (vp_nar .byte x = x)
def zald (op : Nat) (sc : ZS) (pc : Nat) (ls : List Slot) (st : List Value) (h : ZH) : Option ZR := match st with
  | .int i :: .ref o :: st' =>
    if o = 1000000 then (if op = 0 ∧ ¬ (i < 0 ∨ sc.1 ≤ i.toNatClampNeg) then zn (pc + 1) ls (.int (sc.2 i.toNatClampNeg) :: st') h else none)
    else if o < 1000000 then
      match h.2.2[o]? with
      | some q => if zopk op q.1 = true ∧ ¬ (i < 0 ∨ q.2 ≤ i.toNatClampNeg) then zn (pc + 1) ls ((if op = 2 then va_rf (h.2.1 o i.toNatClampNeg) else .int (h.1 o i.toNatClampNeg)) :: st') h else none
      | none => none
    else if op = 1 ∧ 3000000 ≤ o ∧ o < 3000000 + zBY.length ∧ ¬ (i < 0 ∨ (zBY.getD (o - 3000000) []).length ≤ i.toNatClampNeg) then zn (pc + 1) ls (.int ((zBY.getD (o - 3000000) []).getD i.toNatClampNeg 0) :: st') h
    else none
  | _ => none
def zast (op pc : Nat) (ls : List Slot) (st : List Value) (h : ZH) : Option ZR := match st with
  | .int x :: .int i :: .ref o :: st' =>
    match h.2.2[o]? with
    | some q => if zopk op q.1 = true ∧ op < 2 ∧ ¬ (i < 0 ∨ q.2 ≤ i.toNatClampNeg) then zn (pc + 1) ls st' (zw h.1 o (upd (h.1 o) i.toNatClampNeg (znw q.1 x)), h.2) else none
    | none => none
  | .ref v :: .int i :: .ref o :: st' =>
    match h.2.2[o]?, h.2.2[v]? with
    | some q, some qv => if zopk op q.1 = true ∧ op = 2 ∧ qv.1 = zelk q.1 ∧ ¬ (i < 0 ∨ q.2 ≤ i.toNatClampNeg) then zn (pc + 1) ls st' (h.1, zw h.2.1 o (zw (h.2.1 o) i.toNatClampNeg (some v)), h.2.2) else none
    | _, _ => none
  | _ => none
def zlen (sc : ZS) (pc : Nat) (ls : List Slot) (st : List Value) (h : ZH) : Option ZR := match st with
  | .ref o :: st' =>
    if o = 1000000 then zn (pc + 1) ls (.int (Int32.ofNat sc.1) :: st') h
    else if o < 1000000 then
      match h.2.2[o]? with
      | some q => if zarr q.1 = true then zn (pc + 1) ls (.int (Int32.ofNat q.2) :: st') h else none
      | none => none
    else if 3000000 ≤ o ∧ o < 3000000 + zBY.length then zn (pc + 1) ls (.int (Int32.ofNat (zBY.getD (o - 3000000) []).length) :: st') h
    else none
  | _ => none
def zmk (h : ZH) (q : Nat × Nat) : ZH := (zw h.1 h.2.2.length (fun _ => 0), zw h.2.1 h.2.2.length (fun _ => none), h.2.2 ++ [q])
def zmka (kd len pc : Nat) (ls : List Slot) (st : List Value) (h : ZH) : Option ZR := match st with
  | .int n :: st' => if ¬ n < 0 ∧ n.toNatClampNeg ≤ 100000 ∧ h.2.2.length < 999999 then zn (pc + len) ls (.ref h.2.2.length :: st') (zmk h (kd, n.toNatClampNeg)) else none
  | _ => none
def zmko (y ix pc : Nat) (ls : List Slot) (st : List Value) (h : ZH) : Option ZR := match znew (zown y) ix with
  | some c => if c < zCL.length ∧ h.2.2.length < 999999 then zn (pc + 3) ls (.ref h.2.2.length :: st) (zmk h (3 + c, zN c)) else none
  | none => none
def zcpy (pc : Nat) (ls : List Slot) (st : List Value) (h : ZH) : Option ZR := match st with
  | .int n :: .int dp :: .ref a :: .int sp :: .ref b :: st' =>
    if b < 1000000 then
      match h.2.2[b]?, h.2.2[a]? with
      | some qb, some qa => if (qb.1 = 0 ∧ qa.1 = 0 ∨ qb.1 = 50 ∧ qa.1 = 50 ∧ ((List.range n.toNatClampNeg).all fun i => zft (h.1 b (sp.toNatClampNeg + i))) = true) ∧ ¬ sp < 0 ∧ ¬ dp < 0 ∧ ¬ n < 0 ∧ sp.toNatClampNeg + n.toNatClampNeg ≤ qb.2 ∧ dp.toNatClampNeg + n.toNatClampNeg ≤ qa.2 ∧ Nat.ble (st'.map fun v => v.category).sum 8 = true then
          zn (pc + 3) ls st' (zw h.1 a (va_cpy (h.1 b) (h.1 a) sp.toNatClampNeg dp.toNatClampNeg n.toNatClampNeg), h.2) else none
      | _, _ => none
    else if 3000000 ≤ b ∧ b < 3000000 + zSR.length then
      match h.2.2[a]? with
      | some qa => if qa.1 = 50 ∧ ¬ sp < 0 ∧ ¬ dp < 0 ∧ ¬ n < 0 ∧ sp.toNatClampNeg + n.toNatClampNeg ≤ (zBY.getD (b - 3000000) []).length ∧ dp.toNatClampNeg + n.toNatClampNeg ≤ qa.2 ∧ Nat.ble (st'.map fun v => v.category).sum 8 = true then
          zn (pc + 3) ls st' (zw h.1 a (va_cpy (fun i => (zBY.getD (b - 3000000) []).getD i 0) (h.1 a) sp.toNatClampNeg dp.toNatClampNeg n.toNatClampNeg), h.2) else none
      | none => none
    else none
  | _ => none
def zroom (st : List Value) : Bool := Nat.ble (st.map fun v => v.category).sum 8
def zcats (st : List Value) : Bool := st.all fun v => Nat.beq v.category 1
/-- as many methods stand in the tables, law's own entry apart -/
abbrev zNM : Nat := 152
def zcallS (y ix pc : Nat) (ls : List Slot) (st : List Value) (h : ZH) : Option ZR := match zres (zown y) ix with
  | none => none
  | some k =>
    if k = 1000 then zcpy pc ls st h
    else if k = 1001 then (match st with
      | .int b :: .int a :: st' => if zroom st' = true then zn (pc + 3) ls (.int (if a < b then b else a) :: st') h else none
      | _ => none)
    else if k = 1002 then (match st with
      | .int b :: .int a :: st' => if zroom st' = true then zn (pc + 3) ls (.int (if b < a then b else a) :: st') h else none
      | _ => none)
    else if k < zNM ∧ zkind k = 0 ∧ znar k ≤ st.length ∧ zcats st = true ∧ zroom (st.drop (znar k)) = true then some (.inr (.inr (k, (st.take (znar k)).reverse, st.drop (znar k)))) else none
/-- an array made again, the same in it -/
def zcln (kd : Nat) (h : ZH) (o n : Nat) : ZH := (zw h.1 h.2.2.length (h.1 o), zw h.2.1 h.2.2.length (fun _ => none), h.2.2 ++ [(kd, n)])
def zclone (kd pc : Nat) (ls : List Slot) (st : List Value) (h : ZH) : Option ZR := match st with
  | .ref o :: st' => match h.2.2[o]? with
    | some q => if q.1 = kd ∧ zroom st' = true ∧ h.2.2.length < 999999 ∧ (kd = 0 ∨ kd = 50 ∧ ((List.range q.2).all fun i => zft (h.1 o i)) = true) then zn (pc + 3) ls (.ref h.2.2.length :: st') (zcln kd h o q.2) else none
    | none => none
  | _ => none
def zrecv (h : ZH) (k : Nat) (v : Value) : Bool := match v with
  | .ref o => if o < 1000000 then (match h.2.2[o]? with
      | some q => decide (q.1 = zown k + 3 ∧ zown k < zCL.length)
      | none => false) else decide (2000000 ≤ o ∧ o < 2000000 + zSR.length ∧ zcn (zown k) = "java/lang/String")
  | _ => false
/-- what is run where an inherited method is called on a StringBuilder -/
def zinh (h : ZH) (k : Nat) (v : Value) : Option Nat := match v with
  | .ref o => if o < 1000000 then (match h.2.2[o]? with
      | some q => if q.1 = zSBC + 3 then (zvir k).map Prod.fst else none
      | none => none) else none
  | _ => none
def zdir (k : Nat) : Bool := decide (¬ ((zname k).cls = "java/lang/AbstractStringBuilder") ∧ ¬ ((zname k).cls = "java/lang/StringBuilder" ∧ (zname k).name = "length"))
def zcallV (y ix pc : Nat) (ls : List Slot) (st : List Value) (h : ZH) : Option ZR := match zres (zown y) ix with
  | none => none
  | some k =>
    if k = 1004 then zclone 0 pc ls st h
    else if k = 1005 then zclone 50 pc ls st h
    else if k < zNM ∧ zkind k = 1 then (match st.drop (znar k) with
      | v :: rest => match zinh h k v with
        | some k2 => if zcats st = true ∧ zroom rest = true then some (.inr (.inr (k2, v :: (st.take (znar k)).reverse, rest))) else none
        | none => if zrecv h k v = true ∧ zdir k = true ∧ zcats st = true ∧ zroom rest = true then some (.inr (.inr (k, v :: (st.take (znar k)).reverse, rest))) else none
      | [] => none) else none
def zcallI (y ix pc : Nat) (ls : List Slot) (st : List Value) (h : ZH) : Option ZR := match zres (zown y) ix with
  | none => none
  | some k =>
    if k = 1003 then (match st with
      | .ref o :: rest => if o < 1000000 ∧ zroom rest = true then zn (pc + 3) ls rest h else none
      | _ => none)
    else if k < zNM ∧ zkind k = 2 then (match st.drop (znar k) with
      | .ref o :: rest => if o < 1000000 ∧ zcats st = true ∧ zroom rest = true then some (.inr (.inr (k, .ref o :: (st.take (znar k)).reverse, rest))) else none
      | _ => none)
    else if zSUL.contains k = true ∧ zown y = zSBC then (match st.drop (znar k) with
      | .ref o :: rest => (match h.2.2[o]? with
        | some q => if q.1 = zSBC + 3 ∧ o < 1000000 ∧ zcats st = true ∧ zroom rest = true then some (.inr (.inr (k, .ref o :: (st.take (znar k)).reverse, rest))) else none
        | none => none)
      | _ => none)
    else none
/-- a method that answers a reference -/
def zrt (y : Nat) : Bool := match zret y with
  | some (.object _) => true
  | some (.array _) => true
  | _ => false
/-- what a static gives -/
def zstv (w : Nat) : Value := if w = 0 then .int 1 else if w = 1 then .retAddr 0 else .ref (3000000 + zSR.length + (w - 2))
def zstep (sc : ZS) (y pc : Nat) (ins : Instr) (len : Nat) (ls : List Slot) (st : List Value) (h : ZH) : Option ZR := match ins with
  | .iconst n => if len = 1 then zn (pc + 1) ls (.int (Int32.ofInt n) :: st) h else none
  | .bipush n => if len = 2 then zn (pc + 2) ls (.int (Int8.ofInt n).toInt32 :: st) h else none
  | .sipush n => if len = 3 then zn (pc + 3) ls (.int (Int16.ofInt n).toInt32 :: st) h else none
  | .ldc i => if len = 2 then (match zstr (zown y) i with
      | some k => zn (pc + 2) ls (.ref (2000000 + k) :: st) h
      | none => (match zcon (zown y) i with
        | some v => zn (pc + 2) ls (.int v :: st) h
        | none => none)) else none
  | .ldc_w i => if len = 3 then (match zcon (zown y) i with
      | some v => zn (pc + 3) ls (.int v :: st) h
      | none => none) else none
  | .iload i => if len = 2 then zld true i 2 pc ls st h else none
  | .iload_n i => if len = 1 then zld true i.val 1 pc ls st h else none
  | .aload i => if len = 2 then zld false i 2 pc ls st h else none
  | .aload_n i => if len = 1 then zld false i.val 1 pc ls st h else none
  | .istore i => if len = 2 then zst true i 2 pc ls st h else none
  | .istore_n i => if len = 1 then zst true i.val 1 pc ls st h else none
  | .astore i => if len = 2 then zst false i 2 pc ls st h else none
  | .astore_n i => if len = 1 then zst false i.val 1 pc ls st h else none
  | .iinc i n => if len = 3 then (match ls[i]? with
      | some (.val (.int x)) => zn (pc + 3) (ls.set i (.val (.int (x + Int32.ofInt n)))) st h
      | _ => none) else none
  | .iadd => if len = 1 then zbin (fun a b => a + b) pc ls st h else none
  | .isub => if len = 1 then zbin (fun a b => a - b) pc ls st h else none
  | .imul => if len = 1 then zbin (fun a b => a * b) pc ls st h else none
  | .iand => if len = 1 then zbin (fun a b => a &&& b) pc ls st h else none
  | .ior => if len = 1 then zbin (fun a b => a ||| b) pc ls st h else none
  | .ixor => if len = 1 then zbin (fun a b => a ^^^ b) pc ls st h else none
  | .ishl => if len = 1 then zbin (fun a b => a <<< (b &&& 31)) pc ls st h else none
  | .ishr => if len = 1 then zbin (fun a b => a >>> (b &&& 31)) pc ls st h else none
  | .iushr => if len = 1 then zbin (fun a b => (a.toUInt32 >>> (b.toUInt32 &&& Int32.toUInt32 31)).toInt32) pc ls st h else none
  | .idiv => if len = 1 then (match st with
      | .int b :: .int a :: st' => if ¬ b = 0 then zn (pc + 1) ls (.int (a / b) :: st') h else none
      | _ => none) else none
  | .irem => if len = 1 then (match st with
      | .int b :: .int a :: st' => if ¬ b = 0 then zn (pc + 1) ls (.int (a - a / b * b) :: st') h else none
      | _ => none) else none
  | .i2c => if len = 1 then (match st with
      | .int a :: st' => zn (pc + 1) ls (.int (a.toUInt32 % 65536).toInt32 :: st') h
      | _ => none) else none
  | .dup => if len = 1 then (match st with
      | v :: st' => if v.category = 1 then zn (pc + 1) ls (v :: v :: st') h else none
      | _ => none) else none
  | .dup2 => if len = 1 then (match st with
      | v :: w :: st' => if v.category = 1 ∧ w.category = 1 then zn (pc + 1) ls (v :: w :: v :: w :: st') h else none
      | _ => none) else none
  | .pop => if len = 1 then (match st with
      | v :: st' => if v.category = 1 then zn (pc + 1) ls st' h else none
      | _ => none) else none
  | .goto off => if len = 3 then zto pc off ls st h else none
  | .ifCond k off => if len = 3 then (match st with
      | .int a :: st' => zif (zcmpB k a 0) pc off ls st' h
      | _ => none) else none
  | .if_icmp k off => if len = 3 then (match st with
      | .int b :: .int a :: st' => zif (zcmpB k a b) pc off ls st' h
      | _ => none) else none
  | .ifnull off => if len = 3 then (match st with
      | .null :: st' => zto pc off ls st' h
      | .ref _ :: st' => zn (pc + 3) ls st' h
      | _ => none) else none
  | .ifnonnull off => if len = 3 then (match st with
      | .null :: st' => zn (pc + 3) ls st' h
      | .ref _ :: st' => zto pc off ls st' h
      | _ => none) else none
  | .aconst_null => if len = 1 then zn (pc + 1) ls (.null :: st) h else none
  | .tableswitch d lo hi offs => (match st with
      | .int x :: st' => if x.toInt < lo ∨ hi < x.toInt then zto pc d ls st' h else (match offs[(x.toInt - lo).toNat]? with
        | some off => zto pc off ls st' h
        | none => none)
      | _ => none)
  | .lookupswitch d ps => (match st with
      | .int x :: st' => if (ps.toList.zip (ps.toList.drop 1)).all (fun (a, next) => a.1 < next.1) = true then zto pc (Op.lookupswitch.offset ps.toList d x.toInt) ls st' h else none
      | _ => none)
  | .getstatic ix => if len = 3 then (match zsta (zown y) ix with
      | some w => zn (pc + 3) ls (zstv w :: st) h
      | none => none) else none
  | .getfield ix => if len = 3 then zget y ix pc ls st h else none
  | .putfield ix => if len = 3 then zput y ix pc ls st h else none
  | .iaload => if len = 1 then zald 0 sc pc ls st h else none
  | .baload => if len = 1 then zald 1 sc pc ls st h else none
  | .aaload => if len = 1 then zald 2 sc pc ls st h else none
  | .iastore => if len = 1 then zast 0 pc ls st h else none
  | .bastore => if len = 1 then zast 1 pc ls st h else none
  | .aastore => if len = 1 then zast 2 pc ls st h else none
  | .arraylength => if len = 1 then zlen sc pc ls st h else none
  | .newarray .int => if len = 2 then zmka 0 2 pc ls st h else none
  | .newarray .boolean => if len = 2 then zmka 1 2 pc ls st h else none
  | .newarray .byte => if len = 2 then zmka 50 2 pc ls st h else none
  | .anewarray ix => if len = 3 then (match znew (zown y) ix with
      | some c => if c = 2 then zmka 2 3 pc ls st h else if c = 10 then zmka 52 3 pc ls st h else none
      | none => if zacl (zown y) ix = some 0 then zmka 51 3 pc ls st h else none) else none
  | .new ix => if len = 3 then zmko y ix pc ls st h else none
  | .invokestatic ix => if len = 3 then zcallS y ix pc ls st h else none
  | .invokevirtual ix => if len = 3 then zcallV y ix pc ls st h else none
  | .ineg => if len = 1 then (match st with
      | .int a :: st' => zn (pc + 1) ls (.int (-a) :: st') h
      | _ => none) else none
  | .dup_x1 => if len = 1 then (match st with
      | v :: w :: st' => if v.category = 1 ∧ w.category = 1 then zn (pc + 1) ls (v :: w :: v :: st') h else none
      | _ => none) else none
  | .checkcast ix => if len = 3 then (match st with
      | .ref o :: st' => (match h.2.2[o]?, zacl (zown y) ix with
        | some q, some a => if q.1 = (if a = 0 then 0 else 50) then zn (pc + 3) ls (.ref o :: st') h else none
        | _, _ => none)
      | _ => none) else none
  | .invokespecial ix => if len = 3 then zcallI y ix pc ls st h else none
  | .ireturn => if len = 1 then (match st with
      | [.int v] => (match zret y with
        | some .int => some (.inr (.inl (some (.int v))))
        | some t => if narrow t (.int v) = .int v then some (.inr (.inl (some (.int v)))) else none
        | none => none)
      | _ => none) else none
  | .areturn => if len = 1 then (match st with
      | [.ref v] => if zrt y = true then some (.inr (.inl (some (.ref v)))) else none
      | [.null] => if zrt y = true then some (.inr (.inl (some .null))) else none
      | _ => none) else none
  | .return_ => if len = 1 ∧ zret y = none ∧ st = [] then some (.inr (.inl none)) else none
  | _ => none
def zent (ml : Nat) (as : List Value) : List Slot := as.map Slot.val ++ List.replicate (ml - as.length) Slot.unset
def zrun (sc : ZS) : Nat → Nat → Nat → Nat → List Slot → List Value → ZH → Option (Option Value × ZH)
  | 0, _, _, _, _, _, _ => none
  | n + 1, d, y, pc, ls, st, h =>
    match zdec y pc with
    | none => none
    | some (ins, len) =>
      match zstep sc y pc ins len ls st h with
      | none => none
      | some (.inl (pc', ls', st', h')) => zrun sc n d y pc' ls' st' h'
      | some (.inr (.inl v)) => some (v, h)
      | some (.inr (.inr (k, as, rest))) =>
        match d with
        | 0 => none
        | d' + 1 =>
          if as.length ≤ zml k then
            match zrun sc n d' k 0 (zent (zml k) as) [] h with
            | none => none
            | some (v, h') => zrun sc n (d' + 1) y (pc + 3) ls (v.toList ++ rest) h'
          else none
