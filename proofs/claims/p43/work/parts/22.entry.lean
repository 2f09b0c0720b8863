-- ===== THE ENTRY: what stands there is an environment of the plain machine =====
def zTm (i : Nat) : Term := Term.string (zcn (zSL.getD i (0, 0, "")).1) (zSL.getD i (0, 0, "")).2.1
def zNr : List Cond := flatC (Cond.and given_1 narrow_1)
set_option maxRecDepth 100000 in
set_option maxHeartbeats 4000000 in
theorem zn_ex : ∀ i ∈ List.range 23, Cond.exactly (zTm i) "java/lang/String" ∈ zNr := by decide +kernel
set_option maxRecDepth 100000 in
set_option maxHeartbeats 4000000 in
theorem zn_co : ∀ i ∈ List.range 23, Cond.eq (.field (zTm i) "java/lang/String" "coder" "B") (.int 0) ∈ zNr := by decide +kernel
set_option maxRecDepth 100000 in
set_option maxHeartbeats 4000000 in
theorem zn_ar : ∀ i ∈ List.range 23, Cond.arrayOf (.field (zTm i) "java/lang/String" "value" "[B") .byte ∈ zNr := by decide +kernel
set_option maxRecDepth 100000 in
set_option maxHeartbeats 4000000 in
theorem zn_le : ∀ i ∈ List.range 23, Cond.eq (.length (.field (zTm i) "java/lang/String" "value" "[B")) (.int (Int32.ofNat ((zSR.map List.length).getD i 0))) ∈ zNr := by decide +kernel
set_option maxRecDepth 100000 in
set_option maxHeartbeats 4000000 in
theorem zn_cs : Cond.eq (Term.static "java/lang/String" "COMPACT_STRINGS" "Z") (.int 1) ∈ zNr ∧ Cond.isRef (Term.static "jdk/internal/util/Preconditions" "SIOOBE_FORMATTER" "Ljava/util/function/BiFunction;") ∈ zNr := by decide +kernel
def zDo : Term := Term.static "java/lang/Integer" "DigitOnes" "[B"
def zDt : Term := Term.static "java/lang/Integer" "DigitTens" "[B"
set_option maxRecDepth 100000 in
set_option maxHeartbeats 4000000 in
theorem zn_dg : Cond.arrayOf zDo .byte ∈ zNr ∧ Cond.eq (.length zDo) (.int 100) ∈ zNr ∧ Cond.arrayOf zDt .byte ∈ zNr ∧ Cond.eq (.length zDt) (.int 100) ∈ zNr := by decide +kernel
def zIsDo (w : Cond) : Bool := match w with
  | .eq (.elem (.static _ "DigitOnes" _) _) _ => true
  | _ => false
def zIsDt (w : Cond) : Bool := match w with
  | .eq (.elem (.static _ "DigitTens" _) _) _ => true
  | _ => false
def zDow (j : Nat) : Cond := Cond.eq (.elem zDo (.int (Int32.ofNat j))) (.int (zDG0.getD j 0))
def zDtw (j : Nat) : Cond := Cond.eq (.elem zDt (.int (Int32.ofNat j))) (.int (zDG1.getD j 0))
set_option maxRecDepth 100000 in
set_option maxHeartbeats 4000000 in
theorem zn_do : zNr.filter zIsDo = (List.range 100).map zDow := by decide +kernel
set_option maxRecDepth 100000 in
set_option maxHeartbeats 4000000 in
theorem zn_dt : zNr.filter zIsDt = (List.range 100).map zDtw := by decide +kernel
theorem zn_dom {j : Nat} (hj : j < 100) : zDow j ∈ zNr := by
  have h : zDow j ∈ zNr.filter zIsDo := by
    rw [zn_do]
    exact List.mem_map.mpr ⟨j, List.mem_range.mpr hj, rfl⟩
  exact (List.mem_filter.mp h).1
theorem zn_dtm {j : Nat} (hj : j < 100) : zDtw j ∈ zNr := by
  have h : zDtw j ∈ zNr.filter zIsDt := by
    rw [zn_dt]
    exact List.mem_map.mpr ⟨j, List.mem_range.mpr hj, rfl⟩
  exact (List.mem_filter.mp h).1
def zIsEl (w : Cond) : Bool := match w with
  | .eq (.elem (.field _ _ _ _) _) _ => true
  | _ => false
def zIsNe (w : Cond) : Bool := match w with
  | .not (.eq _ _) => true
  | _ => false
def zElw (i j : Nat) : Cond := Cond.eq (.elem (.field (zTm i) "java/lang/String" "value" "[B") (.int (Int32.ofNat j))) (.int ((zSR.getD i []).getD j 0))
def zPm : List Nat := [1, 2, 0, 3, 4, 5, 6, 7, 8, 9, 10, 11, 12, 13, 14, 15, 16, 17, 18, 19, 20, 21, 22]
def zNp : List (Nat × Nat) := (List.range 23).flatMap fun j => (List.range j).map fun i => (zPm.getD i 0, zPm.getD j 0)
theorem zPm_all : ∀ i ∈ List.range 23, i ∈ zPm := by decide +kernel
theorem zNp_all : ∀ i ∈ List.range 23, ∀ j ∈ List.range 23, i ≠ j → (i, j) ∈ zNp ∨ (j, i) ∈ zNp := by decide +kernel
def zElL : List Cond := zPm.flatMap fun i => (List.range ((zSR.map List.length).getD i 0)).map fun j => zElw i j
def zNeL : List Cond := zNp.map fun q => Cond.not (Cond.eq (zTm q.1) (zTm q.2))
set_option maxRecDepth 100000 in
set_option maxHeartbeats 4000000 in
theorem zn_el : zNr.filter zIsEl = zElL := by decide +kernel
set_option maxRecDepth 100000 in
set_option maxHeartbeats 4000000 in
theorem zn_ne : zNr.filter zIsNe = zNeL := by decide +kernel
theorem zn_elm {i j : Nat} (hi : i < 23) (hj : j < (zSR.map List.length).getD i 0) : zElw i j ∈ zNr := by
  have h : zElw i j ∈ zNr.filter zIsEl := by
    rw [zn_el]
    exact List.mem_flatMap.mpr ⟨i, zPm_all i (List.mem_range.mpr hi), List.mem_map.mpr ⟨j, List.mem_range.mpr hj, rfl⟩⟩
  exact (List.mem_filter.mp h).1
theorem zn_nem {i j : Nat} (h : (i, j) ∈ zNp) : Cond.not (Cond.eq (zTm i) (zTm j)) ∈ zNr := by
  have h : Cond.not (Cond.eq (zTm i) (zTm j)) ∈ zNr.filter zIsNe := by
    rw [zn_ne]
    exact List.mem_map.mpr ⟨(i, j), h, rfl⟩
  exact (List.mem_filter.mp h).1
theorem zover_arr {args : Array Value} {s : State} (h : (Cond.arrayOver (.array .int)).before args s = true) : ∃ comp c k, s.vm.classes[c]? = some k ∧ k.kind = .array comp (.array .int) ∧ s.vm.findClass ("[" ++ (FieldType.array .int).toString) = some c := by
  simp only [Cond.before, Cond.holds, Cond.value, beq_iff_eq] at h
  cases hc : s.vm.findClass (FieldType.array .int).toString with
  | none => simp [hc] at h
  | some comp =>
    simp only [hc, Option.bind_some, Option.bind_eq_some_iff, Option.map_eq_some_iff] at h
    obtain ⟨c, hi, k, hk, hb⟩ := h
    obtain ⟨hlt, hp, -⟩ := Array.findIdx?_eq_some_iff_getElem.mp hi
    have hkk : s.vm.classes[c] = k := (Array.getElem?_eq_some_iff.mp hk).2
    rw [hkk] at hp
    cases hkind : k.kind with
    | array component ty =>
      rw [hkind] at hb hp
      simp at hb hp
      exact ⟨component, c, k, hk, by rw [hkind, hb.1], hb.2⟩
    | _ => rw [hkind] at hb; simp at hb
theorem zentry {s : State} {b L : Nat} {xs : Nat → Int32} (hts : ∀ w ∈ lw_tbl, w.before #[Value.ref b] s = true) (hX : va_X b L xs s s.heap) (hb : b < s.heap.size) (hn : (Cond.and given_1 narrow_1).before #[Value.ref b] s = true) : ∃ E : ZE, zeB E = s.heap.size ∧ zeX E = b ∧ zeS E = (L, xs) ∧ zSt E s s.heap := by
  have hf : ∀ w ∈ zNr, w.before #[Value.ref b] s = true := flat_of_before _ hn
  have hA : ∀ a : Nat, a < s.heap.size → ¬ (s.heap.size ≤ a) := fun a h => by omega
  -- classes
  have hcl : ∀ c : Nat, ∃ q : ClassId × (Nat → Nat), c < 14 → u_Kn s (zcn c) (zT c) (zN c) q.1 q.2 := by
    intro c
    by_cases hc : c < 14
    · obtain ⟨cC, iS, h⟩ := u_known (n := zN c) hts (fun w hw => by
        obtain ⟨k, hk, rfl⟩ := List.mem_map.mp hw
        exact List.mem_of_getElem? (zcw c (List.mem_range.mpr hc) k hk)) (hts _ (zci c (List.mem_range.mpr hc)))
      exact ⟨(cC, iS), fun _ => h⟩
    · exact ⟨(default, fun _ => 0), fun h => absurd h hc⟩
  obtain ⟨cl, hcl⟩ := Classical.axiomOfChoice hcl
  -- arrays
  obtain ⟨c0, k0, p0, a1, a2, a3⟩ := Cond.arrayClass_spec (hts _ zw_int)
  obtain ⟨c1, k1, p1, b1, b2, b3⟩ := Cond.arrayClass_spec (hts _ zw_bool)
  obtain ⟨p2, c2, k2, d1, d2, d3, d4, d5⟩ := Cond.arrayOver_spec (hts _ zw_over)
  obtain ⟨c3, k3, p3, e1, e2, e3⟩ := Cond.arrayClass_spec (hts _ zw_byte)
  obtain ⟨p4, c4, k4, i1, i2, i3⟩ := zover_arr (hts _ zw_overA)
  obtain ⟨p5, c5, k5, g1, g2, g3, g4, g5⟩ := Cond.arrayOver_spec (hts _ zw_overL)
  -- digit tables
  obtain ⟨t0, ht0, hT0⟩ := va_Tof (args := #[Value.ref b]) (s := s) (N := 100) (tm := zDo) (f := fun j => .int (zDG0.getD j 0)) (A := fun q => s.heap.size ≤ q) (by decide) (hf _ zn_dg.1) (va_eqt (hf _ zn_dg.2.1)) (fun j hj => va_eqt (hf _ (zn_dom hj))) hA
  obtain ⟨t1, ht1, hT1⟩ := va_Tof (args := #[Value.ref b]) (s := s) (N := 100) (tm := zDt) (f := fun j => .int (zDG1.getD j 0)) (A := fun q => s.heap.size ≤ q) (by decide) (hf _ zn_dg.2.2.1) (va_eqt (hf _ zn_dg.2.2.2)) (fun j hj => va_eqt (hf _ (zn_dtm hj))) hA
  have hZ0 := va_Zref (A := fun q => s.heap.size ≤ q) (hts _ zw_ls2) (hts _ zw_li2) ht0 hA
  have hZ1 := va_Zref (A := fun q => s.heap.size ≤ q) (hts _ zw_ls3) (hts _ zw_li3) ht1 hA
  -- texts
  have hlt : ∀ i < 23, (zSR.map List.length).getD i 0 < 2 ^ 31 := by decide +kernel
  obtain ⟨adK, adV, hS, hK⟩ := vk_Sof (args := #[Value.ref b]) (s := s) (N := 23) (tm := zTm) (len := zSR.map List.length) (byt := zSR) (A := fun q => s.heap.size ≤ q) hlt
    (fun i hi => hf _ (zn_ex i (List.mem_range.mpr hi))) (fun i hi => hf _ (zn_co i (List.mem_range.mpr hi))) (fun i hi => hf _ (zn_ar i (List.mem_range.mpr hi))) (fun i hi => hf _ (zn_le i (List.mem_range.mpr hi)))
    (fun i hi j hj => hf _ (zn_elm hi hj)) (fun i j hi hj hij => by
      rcases zNp_all i (List.mem_range.mpr hi) j (List.mem_range.mpr hj) hij with h | h
      · exact Or.inl (hf _ (zn_nem h))
      · exact Or.inr (hf _ (zn_nem h))) hA
  -- statics
  have hz1 := va_Zof (A := fun q => s.heap.size ≤ q) (hts _ zw_ls0) (hts _ zw_li0) (va_eqi (hf _ zn_cs.1)) hA
  have hz2 : ∃ v : Value, (v = .null ∨ ∃ t, v = .ref t) ∧ va_Z "jdk/internal/util/Preconditions" "SIOOBE_FORMATTER" "Ljava/util/function/BiFunction;" v (fun q => s.heap.size ≤ q) s s.heap := by
    rcases va_Zqof (A := fun q => s.heap.size ≤ q) (hts _ zw_ls1) (hts _ zw_li1) (hf _ zn_cs.2) hA with h | ⟨t, h⟩
    · exact ⟨_, Or.inl rfl, h⟩
    · exact ⟨_, Or.inr ⟨t, rfl⟩, h⟩
  obtain ⟨vO, hvO, hz2⟩ := hz2
  refine ⟨((fun c => (cl c).1, fun c => (cl c).2), (fun i => if i = 0 then c0 else if i = 1 then c1 else if i = 2 then c2 else if i = 3 then c3 else if i = 4 then c4 else c5), s.heap.size, b, adK, (fun i => if i < 23 then adV i else if i = 23 then t0 else t1), vO, (L, xs)), rfl, rfl, rfl, ?_⟩
  refine ⟨⟨?_, ?_⟩, hX, hb, ?_, ?_, hz1, hz2, va_AO.of (hts _ zw_over), ?_, hvO, Nat.le_refl _, va_AO.of (hts _ zw_overL), hts _ zw_overA, ?_, ?_, ?_, ?_⟩
  · intro c q hq
    obtain ⟨hc, rfl⟩ : c < 14 ∧ q = (zcn c, zT c, zN c) := by
      unfold zCL at hq
      rw [List.getElem?_map] at hq
      cases hr : (List.range 14)[c]? with
      | none => rw [hr] at hq; cases hq
      | some j =>
        rw [hr] at hq
        obtain ⟨h1, h2⟩ := List.getElem?_eq_some_iff.mp hr
        have : j = c := by simpa using h2.symm
        subst this
        cases hq
        exact ⟨by simpa using h1, rfl⟩
    exact hcl c hc
  · intro k q hq
    have hk : k = 0 ∨ k = 1 ∨ k = 2 ∨ k = 3 ∨ k = 4 ∨ k = 5 ∨ 6 ≤ k := by omega
    rcases hk with rfl | rfl | rfl | rfl | rfl | rfl | hk
    · cases hq
      exact ⟨fun N z => ⟨(fun k h => by cases h), k0, a2, p0, a3⟩, a1⟩
    · cases hq
      exact ⟨fun N z => ⟨(fun k h => by cases h), k1, b2, p1, b3⟩, b1⟩
    · cases hq
      exact ⟨fun N z => ⟨(fun k h => by cases h), k2, d3, p2, d4⟩, k2, p2, d3, d4, d1, d5⟩
    · cases hq
      exact ⟨fun N z => ⟨(fun k h => by cases h), k3, e2, p3, e3⟩, e1⟩
    · cases hq
      exact ⟨fun N z => ⟨(fun k h => by cases h), k4, i1, p4, i2⟩, i3⟩
    · cases hq
      exact ⟨fun N z => ⟨(fun k h => by cases h), k5, g3, p5, g4⟩, k5, p5, g3, g4, g1, g5⟩
    · rw [List.getElem?_eq_none (by simpa [zTys] using hk)] at hq
      cases hq
  · refine ⟨fun i hi => ?_, hS.2⟩
    have h1 := hS.1 i hi
    have h2 : i < 23 := hi
    simp only [zeV, if_pos h2]
    exact h1
  · intro i q hq
    obtain ⟨hi, hqe⟩ := List.getElem?_eq_some_iff.mp hq
    have hi : i < 23 := hi
    have h1 := zSok q (List.mem_of_getElem? hq)
    refine vk_R.of (hts _ h1) ?_
    have h2 := hK i hi
    have h3 : zTm i = Term.string (zcn q.1) q.2.1 := by
      unfold zTm
      rw [List.getD_eq_getElem?_getD, hq]
      rfl
    rw [h3] at h2
    exact h2
  · intro w hw hn
    have h := hts w hw
    cases w <;> first | (exact va_Nw.of rfl h) | (simp [zNest] at hn; done)
  · exact hZ0
  · exact hZ1
  · exact hT0
  · exact hT1
