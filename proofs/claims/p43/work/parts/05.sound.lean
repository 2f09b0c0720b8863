-- ===== SOUND: what the plain machine does, the real one does =====
/-- class ids, array classes, the first own cell, the script's cell, texts' cells and their bytes', the static that is passed on, the script -/
abbrev ZE : Type := va_G × (Nat → ClassId) × Nat × Nat × (Nat → Nat) × (Nat → Nat) × Value × ZS
def zeD (E : ZE) : va_G := E.1
def zeC (E : ZE) : Nat → ClassId := E.2.1
def zeB (E : ZE) : Nat := E.2.2.1
def zeX (E : ZE) : Nat := E.2.2.2.1
def zeK (E : ZE) : Nat → Nat := E.2.2.2.2.1
def zeV (E : ZE) : Nat → Nat := E.2.2.2.2.2.1
def zeO (E : ZE) : Value := E.2.2.2.2.2.2.1
def zeS (E : ZE) : ZS := E.2.2.2.2.2.2.2
def zad (E : ZE) (i : Nat) : Nat := if i < 1000000 then zeB E + i else if i = 1000000 then zeX E else if i < 3000000 then zeK E (i - 2000000) else zeV E (i - 3000000)
def zcv (E : ZE) (v : Value) : Value := match v with
  | .ref i => .ref (zad E i)
  | .retAddr _ => zeO E
  | v => v
def zfv (E : ZE) (h : ZH) (o c k : Nat) : Value := if zfk c k = 2 then va_rf ((h.2.1 o k).map (zad E)) else .int (h.1 o k)
/-- arrays by their kind: the place of their type in zTys -/
def zak (kd : Nat) : Option Nat := if kd = 0 then some 0 else if kd = 1 then some 1 else if kd = 2 then some 2 else if kd = 50 then some 3 else if kd = 51 then some 4 else if kd = 52 then some 5 else none
def zel (E : ZE) (h : ZH) (o : Nat) (q : Nat × Nat) : va_E := match zak q.1 with
  | some t => if t = 0 ∨ t = 1 ∨ t = 3 then .inl (zeC E t, q.2, .inl (h.1 o)) else .inl (zeC E t, q.2, .inr (.inr (.inr (.inr fun j => (h.2.1 o j).map (zad E)))))
  | none => .inr (q.1 - 3, (List.range (zN (q.1 - 3))).map (zfv E h o (q.1 - 3)))
theorem zel_o {E : ZE} {h : ZH} {o c n : Nat} (hc : c < 14) : zel E h o (c + 3, n) = .inr (c, (List.range (zN c)).map (zfv E h o c)) := by
  have hk : zak (c + 3) = none := by unfold zak; rw [if_neg (by omega), if_neg (by omega), if_neg (by omega), if_neg (by omega), if_neg (by omega), if_neg (by omega)]
  unfold zel
  dsimp only
  rw [hk, Nat.add_sub_cancel]
theorem zel_i {E : ZE} {h : ZH} {o kd t n : Nat} (hk : zak kd = some t) (ht : t = 0 ∨ t = 1 ∨ t = 3) : zel E h o (kd, n) = .inl (zeC E t, n, .inl (h.1 o)) := by
  unfold zel
  dsimp only
  rw [hk]
  exact if_pos ht
theorem zel_r {E : ZE} {h : ZH} {o kd t n : Nat} (hk : zak kd = some t) (ht : ¬ (t = 0 ∨ t = 1 ∨ t = 3)) : zel E h o (kd, n) = .inl (zeC E t, n, .inr (.inr (.inr (.inr fun j => (h.2.1 o j).map (zad E))))) := by
  unfold zel
  dsimp only
  rw [hk]
  exact if_neg ht
def zWs (E : ZE) (h : ZH) : va_W := (List.range h.2.2.length).map fun i => (zeB E + i, zel E h i (h.2.2.getD i (0, 0)))
def zA (E : ZE) : Nat → Prop := fun q => zeB E ≤ q
def zTys (E : ZE) : List (ClassId × FieldType) := [(zeC E 0, .int), (zeC E 1, .boolean), (zeC E 2, .object "SpareDay$Moment"), (zeC E 3, .byte), (zeC E 4, .array .int), (zeC E 5, .object "SpareDayLaw$Land")]
def zNest (w : Cond) : Bool := match w with
  | .fieldLinkNest .. => true
  | .methodLinkNest .. => true
  | .castable .. => true
  | _ => false
def zWo (E : ZE) (h : ZH) (H : Heap) : Prop := H.size = zeB E + h.2.2.length ∧ va_P (zeD E) zCL (zWs E h) H ∧ h.2.2.length < 1000000
def zAOA (U : State) : Prop := (Cond.arrayOver (.array .int)).before #[] U = true
theorem zAOA.moved {u U : State} (hvm : u.vm.Alike U.vm) (h : zAOA u) : zAOA U := over_moved hvm h
theorem zAOA.use {A : Array Value} {U : State} (h : zAOA U) : (Cond.arrayOver (.array .int)).before A U = true := h
/-- what is known besides: the class of Land's rows, of rows of rows, the two tables of digits -/
def zEx (E : ZE) (U : State) (H : Heap) : Prop := va_AO "SpareDayLaw$Land" U ∧ zAOA U ∧
  va_Z "java/lang/Integer" "DigitOnes" "[B" (.ref (zeV E zSR.length)) (zA E) U H ∧ va_Z "java/lang/Integer" "DigitTens" "[B" (.ref (zeV E (zSR.length + 1))) (zA E) U H ∧
  va_T .byte (zeV E zSR.length) 100 (fun j => .int (zDG0.getD j 0)) (zA E) U H ∧ va_T .byte (zeV E (zSR.length + 1)) 100 (fun j => .int (zDG1.getD j 0)) (zA E) U H
def zSt (E : ZE) (U : State) (H : Heap) : Prop :=
  va_K (zeD E) zCL (zTys E) U ∧ va_X (zeX E) (zeS E).1 (zeS E).2 U H ∧ zeX E < zeB E ∧ vk_S zSR.length (zSR.map List.length) zSR (zeK E) (zeV E) (zA E) U H ∧
  (∀ (i : Nat) (q : Nat × Nat × String), zSL[i]? = some q → vk_R (zcn q.1) q.2.1 q.2.2 (zeK E i) U) ∧
  va_Z "java/lang/String" "COMPACT_STRINGS" "Z" (.int 1) (zA E) U H ∧ va_Z "jdk/internal/util/Preconditions" "SIOOBE_FORMATTER" "Ljava/util/function/BiFunction;" (zeO E) (zA E) U H ∧
  va_AO "SpareDay$Moment" U ∧ (∀ w ∈ lw_tbl, zNest w = true → va_Nw w U) ∧ (zeO E = .null ∨ ∃ t, zeO E = .ref t) ∧ zeB E ≤ H.size ∧ zEx E U H
theorem zWs_get {E : ZE} {h : ZH} {o : Nat} {q : Nat × Nat} (hq : h.2.2[o]? = some q) : (zWs E h)[o]? = some (zeB E + o, zel E h o q) := by
  have hl := (List.getElem?_eq_some_iff.mp hq).1
  unfold zWs
  rw [List.getElem?_map, List.getElem?_range hl]
  simp [List.getD_eq_getElem?_getD, hq]
theorem zWs_at {E : ZE} {h : ZH} {k : Nat} {x : Nat × va_E} (hx : (zWs E h)[k]? = some x) : x.1 = zeB E + k := by
  unfold zWs at hx
  rw [List.getElem?_map] at hx
  cases hr : (List.range h.2.2.length)[k]? with
  | none => rw [hr] at hx; cases hx
  | some j =>
    rw [hr] at hx
    have : j = k := by
      have := List.getElem?_eq_some_iff.mp hr
      obtain ⟨h1, h2⟩ := this
      simpa using h2.symm
    subst this
    cases hx
    rfl
theorem zWs_D (E : ZE) (h : ZH) : va_D (zA E) (zWs E h) := by
  refine ⟨fun i j p q hp hq e => ?_, fun k q hq => ?_⟩
  · have h1 := zWs_at hp
    have h2 := zWs_at hq
    omega
  · have h1 := zWs_at hq
    show zeB E ≤ q.1
    omega
theorem zcv_cat {E : ZE} (hO : zeO E = .null ∨ ∃ t, zeO E = .ref t) (v : Value) : (zcv E v).category = v.category := by
  cases v with
  | retAddr i =>
    show (zeO E).category = 1
    rcases hO with h | ⟨t, h⟩ <;> rw [h] <;> rfl
  | _ => rfl
theorem zcv_cats {E : ZE} (hO : zeO E = .null ∨ ∃ t, zeO E = .ref t) (st : List Value) : ((st.map (zcv E)).map fun v => v.category).sum = (st.map fun v => v.category).sum := by
  congr 1
  rw [List.map_map]
  apply List.map_congr_left
  intro v _
  exact zcv_cat hO v
/-- the world after one cell of it has changed -/
theorem zWs_set {E : ZE} {h h' : ZH} {o : Nat} {q : Nat × Nat} (hq : h.2.2[o]? = some q) (hs : h'.2.2 = h.2.2) (h1 : ∀ a, a ≠ o → h'.1 a = h.1 a) (h2 : ∀ a, a ≠ o → h'.2.1 a = h.2.1 a) : zWs E h' = (zWs E h).set o (zeB E + o, zel E h' o q) := by
  have hl := (List.getElem?_eq_some_iff.mp hq).1
  apply List.ext_getElem?
  intro k
  by_cases hk : k = o
  · subst hk
    rw [zWs_get (by rw [hs]; exact hq), List.getElem?_set_self (by unfold zWs; simpa using hl)]
  · rw [List.getElem?_set_ne (Ne.symm hk)]
    by_cases hkl : k < h.2.2.length
    · have hkq : h.2.2[k]? = some (h.2.2[k]) := List.getElem?_eq_getElem hkl
      rw [zWs_get (by rw [hs]; exact hkq), zWs_get hkq]
      have e : zel E h' k h.2.2[k] = zel E h k h.2.2[k] := by
        unfold zel zfv
        rw [h1 k hk, h2 k hk]
      rw [e]
    · rw [List.getElem?_eq_none (by unfold zWs; simp [hs]; omega), List.getElem?_eq_none (by unfold zWs; simp; omega)]
theorem zSt.use {E : ZE} {s U : State} {H : Heap} {locs : List Loc} (hW : s.WarmedH U.vm) (hS : va_S (zA E) s.heap H locs) (h : zSt E s s.heap) : zSt E U H := by
  obtain ⟨a1, a2, a3, a4, a5, a6, a7, a8, a9, a10, a11, c1, c2, c3, c4, c5, c6⟩ := h
  have hk : ∀ a : Nat, a < s.heap.size → ¬ zA E a → H[a]? = s.heap[a]? := fun a h1 h2 => hS.2.1 a h1 h2
  refine ⟨va_K.moved hW.alike a1, ?_, a3, vk_S.moved hW.alike (a4.kept hk), fun i q hq => (a5 i q hq).warm hW, va_Z.moved hW.alike (a6.kept hk), va_Z.moved hW.alike (a7.kept hk), va_AO.moved hW.alike a8, fun w hw hn => ?_, a10, Nat.le_trans a11 hS.1, va_AO.moved hW.alike c1, zAOA.moved hW.alike c2, va_Z.moved hW.alike (c3.kept hk), va_Z.moved hW.alike (c4.kept hk), va_T.moved hW.alike (c5.kept hk), va_T.moved hW.alike (c6.kept hk)⟩
  · obtain ⟨scr, b1, b2⟩ := a2
    have hb : zeX E < s.heap.size := (Array.getElem?_eq_some_iff.mp b1).1
    exact va_X.moved hW.alike ((show va_X (zeX E) (zeS E).1 (zeS E).2 s s.heap from ⟨scr, b1, b2⟩).kept (hk _ hb (Nat.not_le.mpr a3)))
  · have h9 := a9 w hw hn
    cases w <;> first | (exact h9.warmF hW) | (exact h9.warmM hW) | (exact h9.warmC hW) | (simp [zNest] at hn; done)
section ZP
variable {p : Program} {l : Launch} {e : Env} {R : Room} {s : State} {m : MethodId} {args : Array Value} {below : List Frame} {meth : Method} {c : Code} {H : Heap} {locs : List Loc} {cells slots : Nat} {Q : State → Prop}
variable {cc : ByteArray} {pc : Nat} {ls : Array Slot} {rest : List Value} {D : va_G} {cl : List vw_C} {A : Nat → Prop} {a : Nat} {tys : List (ClassId × FieldType)} {ws : va_W} {H0 : Heap}
/-- a field is stored: as the kit's rows, and the heap is as large as it was -/
theorem zp_put (hexec : p.tables.exec = Jvm.exec) (hb : c.code = cc) {own C host : String} {T : u_T} {N ci index k : Nat} (nest : Bool) (hlay : (u_lay C T k).before args s = true) (hlays : ∀ j, j < N → (Cond.lays C (T j).1 (T j).2.1 (T j).2.2.1).before args s = true ∨ (Cond.laysFinal C (T j).1 (T j).2.1 (T j).2.2.1).before args s = true)
    (hap : ∀ x y, x < N → y < N → x ≠ y → (D.2 ci) x ≠ (D.2 ci) y) (hown : s.vm.findClass own = some m.cls) (hK : va_K D cl tys s) (hP : va_P D cl ws H) (hD : va_D A ws) (hS0 : va_S A H0 H locs) (q0 : Nat) {fs : List Value} (he : ws[q0]? = some (a, .inr (ci, fs))) (hc : cl[ci]? = some (C, T, N)) (hk : k < N)
    (hlink : (if nest = true then Cond.fieldLinkNest own index (T k).1 (T k).2.1 (T k).2.2.1 host else Cond.fieldLink own index (T k).1 (T k).2.1 (T k).2.2.1).before args s = true) (hfin : (T k).2.2.2 = false ∨ (nest = false ∧ meth.name = "<init>" ∧ (T k).1 = own)) {ty : FieldType} {v : Value} (hd : parseFieldDescriptor (T k).2.2.1 = some ty) (hn : narrow ty v = v) (hfit : fits ty v = true) (hl : k < fs.length)
    (hdg : decode cc pc = .ok (.putfield index, 3)) (kk : ∀ (H1 : Heap) (locs1 : List Loc), H1.size = H.size → va_P D cl (ws.set q0 (a, .inr (ci, fs.set k v))) H1 → va_S A H0 H1 locs1 → W p l e R s m args below meth c H1 locs1 cells slots Q (F0 m (pc + 3) ls rest)) : W p l e R s m args below meth c H locs cells slots Q (F0 m pc ls (v :: .ref a :: rest)) := by
  obtain ⟨r, h1, cell, q1, q2, q3, q4⟩ := hP q0 _ he
  have hr : r = (C, T, N) := Option.some.inj (h1.symm.trans hc)
  subst hr
  obtain ⟨hS, hfc, kC, hkC, hkind⟩ := hK.1 ci _ hc
  obtain ⟨cf, kf, fi, f, hi, hsl⟩ := hS k hk
  have hst := (u_facts hfc hkC (hlays k hk) hi).1
  have fin : ∀ H' : Heap, H'[a]? = some (cell.setSlot f.slot v) → H'.size = H.size → (∀ q, q ≠ a → H'[q]? = H[q]?) → W p l e R s m args below meth c H' (locs ++ [⟨a, f.slot⟩]) cells slots Q (F0 m (pc + 3) ls rest) := fun H' e1 e2 e3 => by
    rw [hsl] at e1 ⊢
    exact kk H' _ e2 (hP.set hD he ⟨_, hc, t_OB.to (V := updV (vp_V fs) k v) ⟨_, e1, q2, q3, t_set q4 hap hk v⟩ (fun j _ => vp_updV_set hl v j)⟩ e3) (hS0.put e2 e3 (hD.2 q0 _ he))
  have hslot : f.slot < cell.slots.size := by rw [hsl]; exact k2_hasslot (q4 k hk)
  cases hf : (T k).2.2.2 with
  | false =>
    unfold u_lay at hlay
    rw [if_neg (by rw [hf]; decide)] at hlay
    have h6 := u_store hfc hkC hkind hlay hi hd hn hfit
    cases nest with
    | false => exact W.putK hexec hb (f := f) ⟨hown, hlink, ⟨_, _, _, hi⟩, hst⟩ (by rw [q2]; exact h6) q1 q3 hslot rfl rfl hdg fin
    | true => exact va_WputK hexec hb (f := f) hown hlink hi hst (by rw [q2]; exact h6) q1 q3 hslot rfl rfl hdg fin
  | true =>
    rcases hfin with z | ⟨hne, hin2, hdecl⟩
    · rw [hf] at z; cases z
    subst hne
    unfold u_lay at hlay
    rw [if_pos hf] at hlay
    have hcf : m.cls = cf := by
      obtain ⟨_, _, c', _, _, _, -, -, hf', -, -, -, hown2, -⟩ := Cond.laysFinal_spec hlay
      have e1 : c' = cf := by have := hi.symm.trans hf'; simp at this; exact this.1.symm
      rw [hdecl] at hown2
      rw [← e1]; exact Option.some.inj (hown.symm.trans hown2)
    have h6 := u_fits hfc hkC hkind (Or.inr hlay) hi hd hn hfit
    exact W.putFinK hexec hb hown hlink hi hst hcf hin2 (by rw [q2]; exact h6) q1 q3 hslot rfl rfl hdg fin
/-- a field is read, of one's own or by the nest -/
theorem zp_get (hexec : p.tables.exec = Jvm.exec) (hb : c.code = cc) {own C host : String} {T : u_T} {N ci index k : Nat} (nest : Bool) (hlays : ∀ j, j < N → (Cond.lays C (T j).1 (T j).2.1 (T j).2.2.1).before args s = true ∨ (Cond.laysFinal C (T j).1 (T j).2.1 (T j).2.2.1).before args s = true)
    (hown : s.vm.findClass own = some m.cls) (hK : va_K D cl tys s) (hP : va_P D cl ws H) (q0 : Nat) {fs : List Value} (he : ws[q0]? = some (a, .inr (ci, fs))) (hc : cl[ci]? = some (C, T, N)) (hk : k < N)
    (hlink : (if nest = true then Cond.fieldLinkNest own index (T k).1 (T k).2.1 (T k).2.2.1 host else Cond.fieldLink own index (T k).1 (T k).2.1 (T k).2.2.1).before args s = true) {v : Value} (hv : fs[k]? = some v) (hdg : decode cc pc = .ok (.getfield index, 3))
    (kk : W p l e R s m args below meth c H locs cells slots Q (F0 m (pc + 3) ls (v :: rest))) : W p l e R s m args below meth c H locs cells slots Q (F0 m pc ls (.ref a :: rest)) := by
  obtain ⟨r, h1, cell, q1, q2, q3, q4⟩ := hP q0 _ he
  have hr : r = (C, T, N) := Option.some.inj (h1.symm.trans hc)
  subst hr
  obtain ⟨hS, hfc, kC, hkC, hkind⟩ := hK.1 ci _ hc
  obtain ⟨cf, kf, fi, f, hi, hsl⟩ := hS k hk
  have hst := (u_facts hfc hkC (hlays k hk) hi).1
  have hslot : cell.slots[f.slot]? = some v := by rw [hsl, q4 k hk]; simp [vp_V, hv]
  cases nest with
  | false => exact W.getf hexec hb hown hlink hi hst q1 (by rw [q3]; exact fun h => by cases h) (v := v) hslot rfl rfl hdg kk
  | true => exact va_Wgetf hexec hb hown hlink hi hst q1 (by rw [q3]; exact fun h => by cases h) (v := v) hslot rfl rfl hdg kk
theorem zp_iast (hexec : p.tables.exec = Jvm.exec) (hb : c.code = cc) (hK : va_K D cl tys s) (hP : va_P D cl ws H) (hD : va_D A ws) (hS : va_S A H0 H locs) (q0 t0 : Nat) {cA : ClassId} {n : Nat} {f : Nat → Int32} (ha : ws[q0]? = some (a, .inl (cA, n, .inl f))) (ht : tys[t0]? = some (cA, .int)) {i x : Int32} (hin : vp_in i n) (hdg : decode cc pc = .ok (.iastore, 1))
    (kk : ∀ (H1 : Heap) (locs1 : List Loc), H1.size = H.size → va_P D cl (ws.set q0 (a, .inl (cA, n, .inl (upd f i.toNatClampNeg x)))) H1 → va_S A H0 H1 locs1 → W p l e R s m args below meth c H1 locs1 cells slots Q (F0 m (pc + 1) ls rest)) : W p l e R s m args below meth c H locs cells slots Q (F0 m pc ls (.int x :: .int i :: .ref a :: rest)) := by
  refine W.iast hexec hb (hP q0 _ ha) ((hK.2 t0 _ ht).1 n (fun j => .int (f j))) (fun q => by cases q) (by show ¬ (i < 0 ∨ (arrV _ _ _).slots.size ≤ _); rw [arrV_size]; exact hin) rfl rfl hdg fun H1 e z oq => ?_
  refine kk H1 _ z (hP.set hD ha ?_ oq) (hS.put z oq (hD.2 q0 _ ha))
  show H1[a]? = some (vp_cell _ _)
  rw [e, vp_cell_i, vp_cell_i, arrV_store]
  congr 2
  funext q
  by_cases hq : q = i.toNatClampNeg
  · subst hq; simp [updV, upd]
  · simp [updV, upd, hq]
theorem zp_zast (hexec : p.tables.exec = Jvm.exec) (hb : c.code = cc) (hK : va_K D cl tys s) (hP : va_P D cl ws H) (hD : va_D A ws) (hS : va_S A H0 H locs) (q0 t0 : Nat) {cA : ClassId} {n : Nat} {f : Nat → Int32} (ha : ws[q0]? = some (a, .inl (cA, n, .inl f))) (ht : tys[t0]? = some (cA, .boolean)) {i x : Int32} (hin : vp_in i n) (hdg : decode cc pc = .ok (.bastore, 1))
    (kk : ∀ (H1 : Heap) (locs1 : List Loc), H1.size = H.size → va_P D cl (ws.set q0 (a, .inl (cA, n, .inl (upd f i.toNatClampNeg (vp_nar .boolean x))))) H1 → va_S A H0 H1 locs1 → W p l e R s m args below meth c H1 locs1 cells slots Q (F0 m (pc + 1) ls rest)) : W p l e R s m args below meth c H locs cells slots Q (F0 m pc ls (.int x :: .int i :: .ref a :: rest)) := by
  refine W.zast hexec hb (hP q0 _ ha) ((hK.2 t0 _ ht).1 n (fun j => .int (f j))) (fun q => by cases q) (by show ¬ (i < 0 ∨ (arrV _ _ _).slots.size ≤ _); rw [arrV_size]; exact hin) rfl rfl hdg fun H1 e z oq => ?_
  refine kk H1 _ z (hP.set hD ha ?_ oq) (hS.put z oq (hD.2 q0 _ ha))
  show H1[a]? = some (vp_cell _ _)
  rw [e, vp_cell_i, vp_cell_i, arrV_store]
  congr 2
  funext q
  by_cases hq : q = i.toNatClampNeg
  · subst hq; simp [updV, upd, vp_nar]; try rfl
  · simp [updV, upd, hq]
theorem zp_bast (hexec : p.tables.exec = Jvm.exec) (hb : c.code = cc) (hK : va_K D cl tys s) (hP : va_P D cl ws H) (hD : va_D A ws) (hS : va_S A H0 H locs) (q0 t0 : Nat) {cA : ClassId} {n : Nat} {f : Nat → Int32} (ha : ws[q0]? = some (a, .inl (cA, n, .inl f))) (ht : tys[t0]? = some (cA, .byte)) {i x : Int32} (hin : vp_in i n) (hdg : decode cc pc = .ok (.bastore, 1))
    (kk : ∀ (H1 : Heap) (locs1 : List Loc), H1.size = H.size → va_P D cl (ws.set q0 (a, .inl (cA, n, .inl (upd f i.toNatClampNeg (vp_nar .byte x))))) H1 → va_S A H0 H1 locs1 → W p l e R s m args below meth c H1 locs1 cells slots Q (F0 m (pc + 1) ls rest)) : W p l e R s m args below meth c H locs cells slots Q (F0 m pc ls (.int x :: .int i :: .ref a :: rest)) := by
  refine W.bast hexec hb (hP q0 _ ha) ((hK.2 t0 _ ht).1 n (fun j => .int (f j))) (fun q => by cases q) (by show ¬ (i < 0 ∨ (arrV _ _ _).slots.size ≤ _); rw [arrV_size]; exact hin) rfl rfl hdg fun H1 e z oq => ?_
  refine kk H1 _ z (hP.set hD ha ?_ oq) (hS.put z oq (hD.2 q0 _ ha))
  show H1[a]? = some (vp_cell _ _)
  rw [e, vp_cell_i, vp_cell_i, arrV_store]
  congr 2
  funext q
  by_cases hq : q = i.toNatClampNeg
  · subst hq; simp [updV, upd, vp_nar]; try rfl
  · simp [updV, upd, hq]
theorem zp_aastA (hexec : p.tables.exec = Jvm.exec) (hb : c.code = cc) (hK : va_K D cl tys s) (hover : (Cond.arrayOver (.array .int)).before args s = true) (hP : va_P D cl ws H) (hD : va_D A ws) (hS : va_S A H0 H locs) (q0 t0 qk t1 : Nat) {cA cB : ClassId} {n v nv : Nat} {fv : Nat → Int32} {f : Nat → Option Nat} (ha : ws[q0]? = some (a, .inl (cA, n, .inr (.inr (.inr (.inr f)))))) (ht : tys[t0]? = some (cA, .array .int)) (hv : ws[qk]? = some (v, .inl (cB, nv, .inl fv))) (ht1 : tys[t1]? = some (cB, .int)) {i : Int32} (hin : vp_in i n) (hdg : decode cc pc = .ok (.aastore, 1))
    (kk : ∀ (H1 : Heap) (locs1 : List Loc), H1.size = H.size → va_P D cl (ws.set q0 (a, .inl (cA, n, .inr (.inr (.inr (.inr (va_up f i.toNatClampNeg (some v)))))))) H1 → va_S A H0 H1 locs1 → W p l e R s m args below meth c H1 locs1 cells slots Q (F0 m (pc + 1) ls rest)) : W p l e R s m args below meth c H locs cells slots Q (F0 m pc ls (.ref v :: .int i :: .ref a :: rest)) := by
  have hlt : i.toNatClampNeg < n := Nat.not_le.mp fun q => hin (Or.inr q)
  have h0 : ¬ i < 0 := fun q => hin (Or.inl q)
  obtain ⟨comp, cA2, kA, g1, -, g2, g3, g4⟩ := arrayOverA_spec hover
  have hcA : cA2 = cA := Option.some.inj (g4.symm.trans (hK.2 t0 _ ht).2)
  subst hcA
  have hcB : comp = cB := Option.some.inj (g1.symm.trans (hK.2 t1 _ ht1).2)
  subst hcB
  obtain ⟨kB, hkB, -⟩ := Vm.findClass_spec g1
  have hcv : H[v]? = some (vp_cell comp (nv, .inl fv)) := hP qk _ hv
  refine W.aast hexec hb (hP q0 _ ha) (fun q h => by cases h) (fun h => by cases h) g2 g3 rfl hkB ⟨h0, by show _ < (arrV _ _ _).slots.size; rw [arrV_size]; exact hlt⟩ hcv (fun q h => by cases h) hkB ?_ rfl rfl hdg (fun H1 e z oq => ?_)
  · show s.vm.assignable comp comp = true
    exact Vm.assignable_self _ _
  refine kk H1 _ z (hP.set hD ha ?_ oq) (hS.put z oq (hD.2 q0 _ ha))
  show H1[a]? = some (vp_cell _ _)
  rw [e, vp_cell_q, vp_cell_q, arrV_store]
  congr 2
  funext q
  by_cases hq : q = i.toNatClampNeg
  · subst hq; simp [updV, va_up, va_rf]
  · simp [updV, va_up, hq]
theorem zp_aast (hexec : p.tables.exec = Jvm.exec) (hb : c.code = cc) (hK : va_K D cl tys s) (hP : va_P D cl ws H) (hD : va_D A ws) (hS : va_S A H0 H locs) (q0 t0 qk ci : Nat) {cA : ClassId} {r : vw_C} {n v : Nat} {vs : List Value} {f : Nat → Option Nat} (ha : ws[q0]? = some (a, .inl (cA, n, .inr (.inr (.inr (.inr f)))))) (ht : tys[t0]? = some (cA, .object r.1)) (hv : ws[qk]? = some (v, .inr (ci, vs))) (hc : cl[ci]? = some r) {i : Int32} (hin : vp_in i n) (hdg : decode cc pc = .ok (.aastore, 1))
    (kk : ∀ (H1 : Heap) (locs1 : List Loc), H1.size = H.size → va_P D cl (ws.set q0 (a, .inl (cA, n, .inr (.inr (.inr (.inr (va_up f i.toNatClampNeg (some v)))))))) H1 → va_S A H0 H1 locs1 → W p l e R s m args below meth c H1 locs1 cells slots Q (F0 m (pc + 1) ls rest)) : W p l e R s m args below meth c H locs cells slots Q (F0 m pc ls (.ref v :: .int i :: .ref a :: rest)) := by
  have hlt : i.toNatClampNeg < n := Nat.not_le.mp fun q => hin (Or.inr q)
  have h0 : ¬ i < 0 := fun q => hin (Or.inl q)
  obtain ⟨r', hr', cellV, g1, g2, g3, -⟩ := hP qk _ hv
  have hcls := (hK.1 ci r hc).2
  obtain ⟨kA, comp, k1, k2, k3, -⟩ := (hK.2 t0 _ ht).2
  have hcomp : comp = D.1 ci := Option.some.inj (k3.symm.trans hcls.1)
  subst hcomp
  obtain ⟨kC, hkC, -⟩ := hcls.2
  refine W.aast hexec hb (hP q0 _ ha) (fun q h => by cases h) (fun h => by cases h) k1 k2 rfl hkC ⟨h0, by show _ < (arrV _ _ _).slots.size; rw [arrV_size]; exact hlt⟩ g1 (fun q h => by rw [g3] at h; cases h) (by rw [g2]; exact hkC) (by rw [g2]; exact va_assign hcls) rfl rfl hdg fun H1 e z oq => ?_
  refine kk H1 _ z (hP.set hD ha ?_ oq) (hS.put z oq (hD.2 q0 _ ha))
  show H1[a]? = some (vp_cell _ _)
  rw [e, vp_cell_q, vp_cell_q, arrV_store]
  congr 2
  funext q
  by_cases hq : q = i.toNatClampNeg
  · subst hq; simp [updV, va_up, va_rf]
  · simp [updV, va_up, hq]
end ZP
theorem zWs_push {E : ZE} {h h' : ZH} {q : Nat × Nat} (hl : h'.2.2 = h.2.2 ++ [q]) (h1 : ∀ a, a < h.2.2.length → h'.1 a = h.1 a) (h2 : ∀ a, a < h.2.2.length → h'.2.1 a = h.2.1 a) : zWs E h' = zWs E h ++ [(zeB E + h.2.2.length, zel E h' h.2.2.length q)] := by
  apply List.ext_getElem?
  intro k
  have hlen : (zWs E h).length = h.2.2.length := by unfold zWs; simp
  have hlen2 : (zWs E h').length = h.2.2.length + 1 := by unfold zWs; simp [hl]
  by_cases hk : k < h.2.2.length
  · rw [List.getElem?_append_left (by omega)]
    have hkq : h.2.2[k]? = some (h.2.2[k]) := List.getElem?_eq_getElem hk
    have hkq2 : h'.2.2[k]? = some (h.2.2[k]) := by
      rw [hl, List.getElem?_append_left hk]; exact hkq
    rw [zWs_get hkq2, zWs_get hkq]
    have e : zel E h' k h.2.2[k] = zel E h k h.2.2[k] := by
      unfold zel zfv
      rw [h1 k hk, h2 k hk]
    rw [e]
  · by_cases hk2 : k = h.2.2.length
    · subst hk2
      rw [List.getElem?_append_right (by omega), hlen, Nat.sub_self]
      have hkq2 : h'.2.2[h.2.2.length]? = some q := by
        rw [hl, List.getElem?_append_right (Nat.le_refl _), Nat.sub_self]; rfl
      rw [zWs_get hkq2]
      rfl
    · rw [List.getElem?_eq_none (by rw [hlen2]; omega), List.getElem?_eq_none (by simp [hlen]; omega)]
theorem zWo_push {E : ZE} {h h' : ZH} {q : Nat × Nat} {H H1 : Heap} (hW : zWo E h H) (hl : h'.2.2 = h.2.2 ++ [q]) (k1 : ∀ a, a < h.2.2.length → h'.1 a = h.1 a) (k2 : ∀ a, a < h.2.2.length → h'.2.1 a = h.2.1 a) (hlen : h.2.2.length < 999999) (hz : H1.size = H.size + 1) (hold : ∀ q, q < H.size → H1[q]? = H[q]?) (hnew : va_at (zeD E) zCL (H.size, zel E h' h.2.2.length q) H1) : zWo E h' H1 := by
  obtain ⟨h1, h2, -⟩ := hW
  refine ⟨by rw [hl, hz, h1]; simp; omega, ?_, by rw [hl]; simp; omega⟩
  rw [zWs_push hl k1 k2]
  refine (h2.kept fun k x hx => hold x.1 ((h2 k x hx).lt)).app fun k x hx => ?_
  cases k with
  | zero =>
    cases hx
    rw [h1] at hnew
    exact hnew
  | succ k => simp at hx
theorem zmk_1 {h : ZH} {q : Nat × Nat} : ∀ a, a < h.2.2.length → (zmk h q).1 a = h.1 a := fun a ha => by unfold zmk zw; dsimp only; rw [if_neg (Nat.ne_of_lt ha)]
theorem zmk_2 {h : ZH} {q : Nat × Nat} : ∀ a, a < h.2.2.length → (zmk h q).2.1 a = h.2.1 a := fun a ha => by unfold zmk zw; dsimp only; rw [if_neg (Nat.ne_of_lt ha)]
theorem zcln_1 {h : ZH} {kd o n : Nat} : ∀ a, a < h.2.2.length → (zcln kd h o n).1 a = h.1 a := fun a ha => by unfold zcln zw; dsimp only; rw [if_neg (Nat.ne_of_lt ha)]
theorem zcln_2 {h : ZH} {kd o n : Nat} : ∀ a, a < h.2.2.length → (zcln kd h o n).2.1 a = h.2.1 a := fun a ha => by unfold zcln zw; dsimp only; rw [if_neg (Nat.ne_of_lt ha)]
theorem zS_push {E : ZE} {H0 H H1 : Heap} {locs : List Loc} (hS : va_S (zA E) H0 H locs) (hz : H1.size = H.size + 1) (hold : ∀ q, q < H.size → H1[q]? = H[q]?) : va_S (zA E) H0 H1 locs :=
  ⟨Nat.le_trans hS.1 (by omega), fun x h1 h2 => (hold x (Nat.lt_of_lt_of_le h1 hS.1)).trans (hS.2.1 x h1 h2), hS.2.2⟩
section ZQ
variable {p : Program} {l : Launch} {e : Env} {R : Room} {s : State} {m : MethodId} {args : Array Value} {below : List Frame} {meth : Method} {c : Code} {H : Heap} {locs : List Loc} {cells slots : Nat} {Q : State → Prop}
variable {cc : ByteArray} {pc : Nat} {ls : Array Slot} {rest : List Value}
theorem zp_copy {D : va_G} {cl : List vw_C} {A : Nat → Prop} {a : Nat} {tys : List (ClassId × FieldType)} {ws : va_W} {H0 : Heap} (hexec : p.tables.exec = Jvm.exec) (hb : c.code = cc) (hml : c.maxLocals = ls.size) {own : String} {index : Nat} (hown : s.vm.findClass own = some m.cls) (hlink : (Cond.methodLink own index arraycopyName).before args s = true) (hnat : (Cond.native arraycopyName).before args s = true) (hstat : (Cond.static arraycopyName).before args s = true) (hini : (Cond.initialized "java/lang/System").before args s = true)
    (hK : va_K D cl tys s) (hP : va_P D cl ws H) (hD : va_D A ws) (hS : va_S A H0 H locs) (q0 q1 t0 : Nat) {a0 : Nat} {c0 : ClassId} {n0 n1 : Nat} {f g : Nat → Int32} (ha0 : ws[q0]? = some (a0, .inl (c0, n0, .inl f))) (ha1 : ws[q1]? = some (a, .inl (c0, n1, .inl g))) {ty : FieldType} (ht0 : tys[t0]? = some (c0, ty)) (hty : ty = .int ∨ ty = .byte)
    {sp dp n : Int32} (h1 : ¬ sp < 0) (h2 : ¬ dp < 0) (h3 : ¬ n < 0) (h4 : sp.toNatClampNeg + n.toNatClampNeg ≤ n0) (h5 : dp.toNatClampNeg + n.toNatClampNeg ≤ n1) (hfit : ∀ i : Nat, i < n.toNatClampNeg → fits ty (.int (f (sp.toNatClampNeg + i))) = true)
    (hframes : 1 ≤ R.frames) (hlocals : (rest.map fun v => v.category).sum + (nativeFrameWords "java/lang/System" "arraycopy" 5 + 11) ≤ R.locals) (hdg : decode cc pc = .ok (.invokestatic index, 3))
    (kk : ∀ (H1 : Heap) (locs1 : List Loc), H1.size = H.size → va_P D cl (ws.set q1 (a, .inl (c0, n1, .inl (va_cpy f g sp.toNatClampNeg dp.toNatClampNeg n.toNatClampNeg)))) H1 → va_S A H0 H1 locs1 → W p l e R s m args below meth c H1 locs1 cells slots Q (F0 m (pc + 3) ls rest)) : W p l e R s m args below meth c H locs cells slots Q (F0 m pc ls (.int n :: .int dp :: .ref a :: .int sp :: .ref a0 :: rest)) := by
  have nn : ∀ z : Int32, ¬ z < 0 → z.toInt = (z.toNatClampNeg : Int) := by
    intro z hz
    have hz0 : (0 : Int) ≤ z.toInt := by
      have := Int32.not_lt.mp hz
      simpa using Int32.le_iff_toInt_le.mp this
    show z.toInt = ((z.toInt.toNat : Nat) : Int)
    omega
  intro T hT X
  have hc0 : H[a0]? = some (vp_cell c0 (n0, .inl f)) := hP q0 _ ha0
  have hc1 : H[a]? = some (vp_cell c0 (n1, .inl g)) := hP q1 _ ha1
  obtain ⟨-, k0, hk0, cm0, hkk0⟩ := (hK.2 t0 _ ht0).1 n0 (fun j => .int (f j))
  obtain ⟨-, k1, hk1, cm1, hkk1⟩ := (hK.2 t0 _ ht0).1 n1 (fun j => .int (g j))
  obtain ⟨vm', X', step⟩ := X.arraycopy hexec hown hlink hnat hstat hini (src := a0) (dst := a) (cs := vp_cell c0 (n0, .inl f)) (cd := vp_cell c0 (n1, .inl g)) (srcPos := sp) (destPos := dp) (n := n) (by rw [hT]; exact hc0) (by rw [hT]; exact hc1)
    (fun _ h => by cases h) (fun _ h => by cases h) (fun h => by cases h) (fun h => by cases h) hk0 hk1 hkk0 hkk1 (by rcases hty with rfl | rfl <;> simp [refKind]) h1 h2 h3
    (by rw [nn sp h1, nn n h3]; show ¬ _ > ((arrV c0 n0 (fun j => .int (f j))).slots.size : Int); rw [arrV_size]; omega)
    (by rw [nn dp h2, nn n h3]; show ¬ _ > ((arrV c0 n1 (fun j => .int (g j))).slots.size : Int); rw [arrV_size]; omega)
    (fun vm₁ _ i hi => by
      have e : (vp_cell c0 (n0, .inl f)).slots.getD (sp.toNatClampNeg + i) .null = .int (f (sp.toNatClampNeg + i)) := by
        show (arrV c0 n0 (fun j => .int (f j))).slots.getD _ _ = _
        rw [Array.getD_eq_getD_getElem?, arrV_read _ _ (by omega)]
        rfl
      refine ⟨?_, ?_⟩
      · rw [e]; exact hfit i hi
      · rw [e]; rcases hty with rfl | rfl <;> exact trivial)
    (g := F0 m pc ls (.int n :: .int dp :: .ref a :: .int sp :: .ref a0 :: rest)) rfl (by rw [hml]) (rest := rest) rfl (by rw [hb]; exact hdg) hframes (by show 2 * 0 + _ + _ ≤ _; omega)
  have e1 : copied (vp_cell c0 (n0, .inl f)) (vp_cell c0 (n1, .inl g)) sp dp n = vp_cell c0 (n1, .inl (va_cpy f g sp.toNatClampNeg dp.toNatClampNeg n.toNatClampNeg)) := va_copied (fun z => .int z) c0 c0 f g h4
  rw [e1] at X' step
  have hl : a < H.size := (Array.getElem?_eq_some_iff.mp hc1).1
  have hheap : ((T.setVm vm').setCell a (vp_cell c0 (n1, .inl (va_cpy f g sp.toNatClampNeg dp.toNatClampNeg n.toNatClampNeg)))).heap = H.setIfInBounds a (vp_cell c0 (n1, .inl (va_cpy f g sp.toNatClampNeg dp.toNatClampNeg n.toNatClampNeg))) := by rw [← hT]; rfl
  have oq : ∀ q : Nat, q ≠ a → (H.setIfInBounds a (vp_cell c0 (n1, .inl (va_cpy f g sp.toNatClampNeg dp.toNatClampNeg n.toNatClampNeg))))[q]? = H[q]? := fun q hq => by simp [Array.getElem?_setIfInBounds, Ne.symm hq]
  obtain ⟨t, a1, b1⟩ := kk _ _ (by simp) (hP.set hD ha1 (show (H.setIfInBounds a _)[a]? = some _ by simp [Array.getElem?_setIfInBounds, hl]) oq) ⟨by simp; exact hS.1, fun q g1 g2 => by
      rw [oq q (fun e => g2 (by rw [e]; exact hD.2 q1 _ ha1))]
      exact hS.2.1 q g1 g2, fun q hq => by
      rcases List.mem_append.mp hq with h | h
      · exact hS.2.2 q h
      · obtain ⟨z, -, hz⟩ := List.mem_map.mp h
        rw [← hz]
        exact hD.2 q1 _ ha1⟩ _ hheap X'
  exact ⟨t, step t a1, b1⟩
theorem zp_copyt {D : va_G} {cl : List vw_C} {A : Nat → Prop} {a : Nat} {tys : List (ClassId × FieldType)} {ws : va_W} (hexec : p.tables.exec = Jvm.exec) (hb : c.code = cc) (hml : c.maxLocals = ls.size) {own : String} {index : Nat} (hown : s.vm.findClass own = some m.cls) (hlink : (Cond.methodLink own index arraycopyName).before args s = true) (hnat : (Cond.native arraycopyName).before args s = true) (hstat : (Cond.static arraycopyName).before args s = true) (hini : (Cond.initialized "java/lang/System").before args s = true)
    (hK : va_K D cl tys s) (hP : va_P D cl ws H) (hD : va_D A ws) (hS : va_S A s.heap H locs) (q1 t0 : Nat) {a0 : Nat} {c0 : ClassId} {n0 n1 : Nat} {f g : Nat → Int32} (hX : va_T .byte a0 n0 (fun j => .int (f j)) A s s.heap) (ha1 : ws[q1]? = some (a, .inl (c0, n1, .inl g))) (ht0 : tys[t0]? = some (c0, .byte))
    {sp dp n : Int32} (h1 : ¬ sp < 0) (h2 : ¬ dp < 0) (h3 : ¬ n < 0) (h4 : sp.toNatClampNeg + n.toNatClampNeg ≤ n0) (h5 : dp.toNatClampNeg + n.toNatClampNeg ≤ n1) (hfit : ∀ i : Nat, i < n.toNatClampNeg → fits .byte (.int (f (sp.toNatClampNeg + i))) = true)
    (hframes : 1 ≤ R.frames) (hlocals : (rest.map fun v => v.category).sum + (nativeFrameWords "java/lang/System" "arraycopy" 5 + 11) ≤ R.locals) (hdg : decode cc pc = .ok (.invokestatic index, 3))
    (kk : ∀ (H1 : Heap) (locs1 : List Loc), H1.size = H.size → va_P D cl (ws.set q1 (a, .inl (c0, n1, .inl (va_cpy f g sp.toNatClampNeg dp.toNatClampNeg n.toNatClampNeg)))) H1 → va_S A s.heap H1 locs1 → W p l e R s m args below meth c H1 locs1 cells slots Q (F0 m (pc + 3) ls rest)) : W p l e R s m args below meth c H locs cells slots Q (F0 m pc ls (.int n :: .int dp :: .ref a :: .int sp :: .ref a0 :: rest)) := by
  have nn : ∀ z : Int32, ¬ z < 0 → z.toInt = (z.toNatClampNeg : Int) := by
    intro z hz
    have hz0 : (0 : Int) ≤ z.toInt := by
      have := Int32.not_lt.mp hz
      simpa using Int32.le_iff_toInt_le.mp this
    show z.toInt = ((z.toInt.toNat : Nat) : Int)
    omega
  intro T hT X
  obtain ⟨scr, hs1, hs2, hs3, hs4, -, hs5, hs7⟩ := hX
  have hc0 : H[a0]? = some scr := by rw [hS.2.1 a0 (Array.getElem?_eq_some_iff.mp hs1).1 hs7]; exact hs1
  have hc1 : H[a]? = some (vp_cell c0 (n1, .inl g)) := hP q1 _ ha1
  obtain ⟨hs6, k0, hk0, cm0, hkk0⟩ := hs2
  obtain ⟨-, k1, hk1, cm1, hkk1⟩ := (hK.2 t0 _ ht0).1 n1 (fun j => .int (g j))
  obtain ⟨vm', X', step⟩ := X.arraycopy hexec hown hlink hnat hstat hini (src := a0) (dst := a) (cs := scr) (cd := vp_cell c0 (n1, .inl g)) (srcPos := sp) (destPos := dp) (n := n) (by rw [hT]; exact hc0) (by rw [hT]; exact hc1)
    hs6 (fun _ h => by cases h) hs3 (fun h => by cases h) hk0 hk1 hkk0 hkk1 (by simp [refKind]) h1 h2 h3
    (by rw [nn sp h1, nn n h3]; omega)
    (by rw [nn dp h2, nn n h3]; show ¬ _ > ((arrV c0 n1 (fun j => .int (g j))).slots.size : Int); rw [arrV_size]; omega)
    (fun vm₁ _ i hi => by
      have e : scr.slots.getD (sp.toNatClampNeg + i) .null = .int (f (sp.toNatClampNeg + i)) := by
        rw [Array.getD_eq_getD_getElem?, hs5 _ (by omega)]
        rfl
      refine ⟨?_, ?_⟩
      · rw [e]; exact hfit i hi
      · rw [e]; exact trivial)
    (g := F0 m pc ls (.int n :: .int dp :: .ref a :: .int sp :: .ref a0 :: rest)) rfl (by rw [hml]) (rest := rest) rfl (by rw [hb]; exact hdg) hframes (by show 2 * 0 + _ + _ ≤ _; omega)
  have e1 : copied scr (vp_cell c0 (n1, .inl g)) sp dp n = vp_cell c0 (n1, .inl (va_cpy f g sp.toNatClampNeg dp.toNatClampNeg n.toNatClampNeg)) := va_copiedX (fun z => .int z) scr c0 f g hs5 h4
  rw [e1] at X' step
  have hl : a < H.size := (Array.getElem?_eq_some_iff.mp hc1).1
  have hheap : ((T.setVm vm').setCell a (vp_cell c0 (n1, .inl (va_cpy f g sp.toNatClampNeg dp.toNatClampNeg n.toNatClampNeg)))).heap = H.setIfInBounds a (vp_cell c0 (n1, .inl (va_cpy f g sp.toNatClampNeg dp.toNatClampNeg n.toNatClampNeg))) := by rw [← hT]; rfl
  have oq : ∀ q : Nat, q ≠ a → (H.setIfInBounds a (vp_cell c0 (n1, .inl (va_cpy f g sp.toNatClampNeg dp.toNatClampNeg n.toNatClampNeg))))[q]? = H[q]? := fun q hq => by simp [Array.getElem?_setIfInBounds, Ne.symm hq]
  obtain ⟨t, a1, b1⟩ := kk _ _ (by simp) (hP.set hD ha1 (show (H.setIfInBounds a _)[a]? = some _ by simp [Array.getElem?_setIfInBounds, hl]) oq) ⟨by simp; exact hS.1, fun q g1 g2 => by
      rw [oq q (fun e => g2 (by rw [e]; exact hD.2 q1 _ ha1))]
      exact hS.2.1 q g1 g2, fun q hq => by
      rcases List.mem_append.mp hq with h | h
      · exact hS.2.2 q h
      · obtain ⟨z, -, hz⟩ := List.mem_map.mp h
        rw [← hz]
        exact hD.2 q1 _ ha1⟩ _ hheap X'
  exact ⟨t, step t a1, b1⟩
theorem zp_clone {D : va_G} {cl : List vw_C} {a : Nat} {tys : List (ClassId × FieldType)} {ws : va_W} (hexec : p.tables.exec = Jvm.exec) (hb : c.code = cc) (hml : c.maxLocals = ls.size) {own ad : String} {index : Nat} (hown : s.vm.findClass own = some m.cls)
    (hlink : (Cond.methodLink own index ⟨ad, "clone", "()Ljava/lang/Object;"⟩).before args s = true) (hsame : (Cond.sameMethod ad "java/lang/Object" "clone" "()Ljava/lang/Object;").before args s = true)
    (hnat : (Cond.native ⟨"java/lang/Object", "clone", "()Ljava/lang/Object;"⟩).before args s = true) (hinst : (Cond.instanceMethod ⟨"java/lang/Object", "clone", "()Ljava/lang/Object;"⟩).before args s = true)
    (hsel : (Cond.selects ad ⟨ad, "clone", "()Ljava/lang/Object;"⟩ ⟨"java/lang/Object", "clone", "()Ljava/lang/Object;"⟩).before args s = true) (hcl : va_Nw (.castable ad "java/lang/Cloneable") s)
    (hK : va_K D cl tys s) (hP : va_P D cl ws H) (q0 t0 : Nat) {cA : ClassId} {n : Nat} {f : Nat → Int32} {ty : FieldType} (ha : ws[q0]? = some (a, .inl (cA, n, .inl f))) (ht : tys[t0]? = some (cA, ty))
    (hnm : s.vm.findClass ad = some cA) (hfit : ∀ i : Nat, i < n → fits ty (.int (f i)) = true)
    (hframes : 1 ≤ R.frames) (hlocals : (rest.map fun v => v.category).sum + 14 ≤ R.locals) (hcells : cells + 1 ≤ R.cells) (hslots : slots + n ≤ R.slots) (hdg : decode cc pc = .ok (.invokevirtual index, 3))
    (kk : ∀ (H1 : Heap), H1.size = H.size + 1 → (∀ q : Nat, q < H.size → H1[q]? = H[q]?) → H1[H.size]? = some (vp_cell cA (n, .inl f)) →
      W p l e R s m args below meth c H1 locs (cells + 1) (slots + n) Q (F0 m (pc + 3) ls (.ref H.size :: rest))) : W p l e R s m args below meth c H locs cells slots Q (F0 m pc ls (.ref a :: rest)) := by
  have hsz : (vp_cell cA (n, .inl f)).slots.size = n := arrV_size _ _ _
  obtain ⟨c0, t0', f1, f2, f3⟩ := Cond.castable_spec (va_Nw.use (A := args) rfl hcl)
  cases hnm.symm.trans f1
  intro T hT X
  have hcellT : T.heap[a]? = some (vp_cell cA (n, .inl f)) := by rw [hT]; exact hP q0 _ ha
  obtain ⟨-, kA, hkA, comp, hkind⟩ := State.isArrayOf_alike X.warmed.alike ((hK.2 t0 _ ht).1 0 (fun _ => .null))
  obtain ⟨-, kS, hkS, compS, hkindS⟩ := (hK.2 t0 _ ht).1 0 (fun _ => .null)
  obtain ⟨vm', X', st⟩ := X.cloneArray hexec hown hlink hsame hnat hinst hsel (a := a) (cell := vp_cell cA (n, .inl f)) hcellT (fun k h => by cases h) (fun h => by cases h) hnm f2 f3
    (fun i v hv => by
      have hk' : T.vm.classes[cA]? = some kA := hkA
      have hin : i < n := by
        have h9 := (Array.getElem?_eq_some_iff.mp hv).1
        rw [hsz] at h9
        exact h9
      have hv2 : v = .int (f i) := by
        have h9 : (arrV cA n (fun j => Value.int (f j))).slots[i]? = some v := hv
        rw [arrV_read _ _ hin] at h9
        exact (Option.some.inj h9).symm
      subst hv2
      have h8 := hfit i hin
      have hcls : (vp_cell cA (n, .inl f)).cls = cA := rfl
      rw [hcls]
      simpa [State.fitsSlot, State.slotType?, hk', hkind] using h8)
    (g := F0 m pc ls (.ref a :: rest)) rfl (by rw [hml]) rfl (by rw [hb]; exact hdg) hframes (by show 2 * 0 + _ + 14 ≤ _; omega) hcells (by rw [hsz]; exact hslots) (hloader := Vm.clonesLoader_of_array hkS hkindS)
  have hcellE : ({ cls := (vp_cell cA (n, .inl f)).cls, slots := (vp_cell cA (n, .inl f)).slots } : Cell) = vp_cell cA (n, .inl f) := rfl
  rw [hcellE, hsz] at X'
  generalize hH1 : H.push (vp_cell cA (n, .inl f)) = H1
  have z1 : H1.size = H.size + 1 := by rw [← hH1, Array.size_push]
  have e1 : H1[H.size]? = some (vp_cell cA (n, .inl f)) := by rw [← hH1, Array.getElem?_push_size]
  have o1 : ∀ q : Nat, q < H.size → H1[q]? = H[q]? := fun q hq => by rw [← hH1, Array.getElem?_push, if_neg (Nat.ne_of_lt hq)]
  obtain ⟨t, b1, b2⟩ := kk H1 z1 o1 e1 ((T.setVm vm').pushCell (vp_cell cA (n, .inl f))) (by rw [← hH1, ← hT]; rfl) X'
  refine ⟨t, st t ?_, b2⟩
  rw [hcellE, hT]
  exact b1
end ZQ
