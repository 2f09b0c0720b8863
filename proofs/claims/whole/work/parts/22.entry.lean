-- ===== THE ENTRY: what stands there is an environment of the plain machine =====
def zTm (i : Nat) : Term := Term.string (zcn (zSL.getD i (0, 0, "")).1) (zSL.getD i (0, 0, "")).2.1
def zNr : List Cond := flatC (Cond.and given_1 narrow_1)
set_option maxRecDepth 100000 in
set_option maxHeartbeats 4000000 in
theorem zn_ex : ∀ i ∈ List.range 25, Cond.exactly (zTm i) "java/lang/String" ∈ zNr := by decide +kernel
set_option maxRecDepth 100000 in
set_option maxHeartbeats 4000000 in
theorem zn_co : ∀ i ∈ List.range 25, Cond.eq (.field (zTm i) "java/lang/String" "coder" "B") (.int 0) ∈ zNr := by decide +kernel
set_option maxRecDepth 100000 in
set_option maxHeartbeats 4000000 in
theorem zn_ar : ∀ i ∈ List.range 25, Cond.arrayOf (.field (zTm i) "java/lang/String" "value" "[B") .byte ∈ zNr := by decide +kernel
set_option maxRecDepth 100000 in
set_option maxHeartbeats 4000000 in
theorem zn_le : ∀ i ∈ List.range 25, Cond.eq (.length (.field (zTm i) "java/lang/String" "value" "[B")) (.int (Int32.ofNat ((zSB.map List.length).getD i 0))) ∈ zNr := by decide +kernel
set_option maxRecDepth 100000 in
set_option maxHeartbeats 4000000 in
theorem zn_cs : Cond.eq (Term.static "java/lang/String" "COMPACT_STRINGS" "Z") (.int 1) ∈ zNr ∧ Cond.isRef (Term.static "jdk/internal/util/Preconditions" "SIOOBE_FORMATTER" "Ljava/util/function/BiFunction;") ∈ zNr := by decide +kernel
def zIsEl (w : Cond) : Bool := match w with
  | .eq (.elem _ _) _ => true
  | _ => false
def zIsNe (w : Cond) : Bool := match w with
  | .not (.eq _ _) => true
  | _ => false
def zElw (i j : Nat) : Cond := Cond.eq (.elem (.field (zTm i) "java/lang/String" "value" "[B") (.int (Int32.ofNat j))) (.int ((zSB.getD i []).getD j 0))
def zElL : List Cond := (List.range 25).flatMap fun i => (List.range ((zSB.map List.length).getD i 0)).map fun j => zElw i j
def zNeL : List Cond := (List.range 25).flatMap fun j => (List.range j).map fun i => Cond.not (Cond.eq (zTm i) (zTm j))
set_option maxRecDepth 100000 in
set_option maxHeartbeats 4000000 in
theorem zn_el : zNr.filter zIsEl = zElL := by decide +kernel
set_option maxRecDepth 100000 in
set_option maxHeartbeats 4000000 in
theorem zn_ne : zNr.filter zIsNe = zNeL := by decide +kernel
theorem zn_elm {i j : Nat} (hi : i < 25) (hj : j < (zSB.map List.length).getD i 0) : zElw i j ∈ zNr := by
  have h : zElw i j ∈ zNr.filter zIsEl := by
    rw [zn_el]
    exact List.mem_flatMap.mpr ⟨i, List.mem_range.mpr hi, List.mem_map.mpr ⟨j, List.mem_range.mpr hj, rfl⟩⟩
  exact (List.mem_filter.mp h).1
theorem zn_nem {i j : Nat} (hj : j < 25) (hi : i < j) : Cond.not (Cond.eq (zTm i) (zTm j)) ∈ zNr := by
  have h : Cond.not (Cond.eq (zTm i) (zTm j)) ∈ zNr.filter zIsNe := by
    rw [zn_ne]
    exact List.mem_flatMap.mpr ⟨j, List.mem_range.mpr hj, List.mem_map.mpr ⟨i, List.mem_range.mpr hi, rfl⟩⟩
  exact (List.mem_filter.mp h).1
theorem zw_cs : Cond.laysStatic "java/lang/String" "COMPACT_STRINGS" "Z" ∈ lw_tbl ∧ Cond.initialized "java/lang/String" ∈ lw_tbl ∧ Cond.laysStatic "jdk/internal/util/Preconditions" "SIOOBE_FORMATTER" "Ljava/util/function/BiFunction;" ∈ lw_tbl ∧ Cond.initialized "jdk/internal/util/Preconditions" ∈ lw_tbl := by decide +kernel
theorem zentry {s : State} {b L : Nat} {xs : Nat → Int32} (hts : ∀ w ∈ lw_tbl, w.before #[Value.ref b] s = true) (hX : va_X b L xs s s.heap) (hb : b < s.heap.size) (hn : (Cond.and given_1 narrow_1).before #[Value.ref b] s = true) : ∃ E : ZE, zeB E = s.heap.size ∧ zeX E = b ∧ zeS E = (L, xs) ∧ zSt E s s.heap := by
  have hf : ∀ w ∈ zNr, w.before #[Value.ref b] s = true := flat_of_before _ hn
  have hA : ∀ a : Nat, a < s.heap.size → ¬ (s.heap.size ≤ a) := fun a h => by omega
  -- classes
  have hcl : ∀ c : Nat, ∃ q : ClassId × (Nat → Nat), c < 11 → u_Kn s (zcn c) (zT c) (zN c) q.1 q.2 := by
    intro c
    by_cases hc : c < 11
    · obtain ⟨cC, iS, h⟩ := u_known (n := zN c) hts (fun w hw => by
        obtain ⟨k, hk, rfl⟩ := List.mem_map.mp hw
        exact List.mem_of_getElem? (zcw c (List.mem_range.mpr hc) k hk)) (hts _ (zci c (List.mem_range.mpr hc)))
      exact ⟨(cC, iS), fun _ => h⟩
    · exact ⟨(default, fun _ => 0), fun h => absurd h hc⟩
  obtain ⟨cl, hcl⟩ := Classical.axiomOfChoice hcl
  -- arrays
  obtain ⟨c0, k0, p0, a1, a2, a3⟩ := Cond.arrayClass_spec (hts _ zw_int)
  obtain ⟨c1, k1, p1, b1, b2, b3⟩ := Cond.arrayClass_spec (hts _ zw_bool)
  obtain ⟨p2, c2, k2, d1, d2, d3, d4, d5⟩ := Cond.arrayOver_spec (hts _ zw_over)
  -- texts
  have hlt : ∀ i < 25, (zSB.map List.length).getD i 0 < 2 ^ 31 := by decide +kernel
  obtain ⟨adK, adV, hS, hK⟩ := vk_Sof (args := #[Value.ref b]) (s := s) (N := 25) (tm := zTm) (len := zSB.map List.length) (byt := zSB) (A := fun q => s.heap.size ≤ q) hlt
    (fun i hi => hf _ (zn_ex i (List.mem_range.mpr hi))) (fun i hi => hf _ (zn_co i (List.mem_range.mpr hi))) (fun i hi => hf _ (zn_ar i (List.mem_range.mpr hi))) (fun i hi => hf _ (zn_le i (List.mem_range.mpr hi)))
    (fun i hi j hj => hf _ (zn_elm hi hj)) (fun i j hi hj hij => by
      rcases Nat.lt_or_gt_of_ne hij with h | h
      · exact Or.inl (hf _ (zn_nem hj h))
      · exact Or.inr (hf _ (zn_nem hi h))) hA
  -- statics
  have hz1 := va_Zof (A := fun q => s.heap.size ≤ q) (hts _ zw_cs.1) (hts _ zw_cs.2.1) (va_eqi (hf _ zn_cs.1)) hA
  have hz2 : ∃ v : Value, (v = .null ∨ ∃ t, v = .ref t) ∧ va_Z "jdk/internal/util/Preconditions" "SIOOBE_FORMATTER" "Ljava/util/function/BiFunction;" v (fun q => s.heap.size ≤ q) s s.heap := by
    rcases va_Zqof (A := fun q => s.heap.size ≤ q) (hts _ zw_cs.2.2.1) (hts _ zw_cs.2.2.2) (hf _ zn_cs.2) hA with h | ⟨t, h⟩
    · exact ⟨_, Or.inl rfl, h⟩
    · exact ⟨_, Or.inr ⟨t, rfl⟩, h⟩
  obtain ⟨vO, hvO, hz2⟩ := hz2
  refine ⟨((fun c => (cl c).1, fun c => (cl c).2), (fun i => if i = 0 then c0 else if i = 1 then c1 else c2), s.heap.size, b, adK, adV, vO, (L, xs)), rfl, rfl, rfl, ?_⟩
  refine ⟨⟨?_, ?_⟩, hX, hb, ?_, ?_, hz1, hz2, va_AO.of (hts _ zw_over), ?_, hvO, Nat.le_refl _⟩
  · intro c q hq
    obtain ⟨hc, rfl⟩ : c < 11 ∧ q = (zcn c, zT c, zN c) := by
      unfold zCL at hq
      rw [List.getElem?_map] at hq
      cases hr : (List.range 11)[c]? with
      | none => rw [hr] at hq; cases hq
      | some j =>
        rw [hr] at hq
        obtain ⟨h1, h2⟩ := List.getElem?_eq_some_iff.mp hr
        have : j = c := by simpa using h2.symm
        subst this
        cases hq
        exact ⟨by simpa using h1, rfl⟩
    exact hcl c hc
  · intro k q hq
    have hk : k = 0 ∨ k = 1 ∨ k = 2 ∨ 3 ≤ k := by omega
    rcases hk with rfl | rfl | rfl | hk
    · cases hq
      exact ⟨fun N z => ⟨(fun k h => by cases h), k0, a2, p0, a3⟩, a1⟩
    · cases hq
      exact ⟨fun N z => ⟨(fun k h => by cases h), k1, b2, p1, b3⟩, b1⟩
    · cases hq
      exact ⟨fun N z => ⟨(fun k h => by cases h), k2, d3, p2, d4⟩, k2, p2, d3, d4, d1, d5⟩
    · rw [List.getElem?_eq_none (by simpa [zTys] using hk)] at hq
      cases hq
  · exact hS
  · intro i q hq
    obtain ⟨hi, hqe⟩ := List.getElem?_eq_some_iff.mp hq
    have hi : i < 25 := hi
    have h1 := zSok q (List.mem_of_getElem? hq)
    refine vk_R.of (hts _ h1) ?_
    have h2 := hK i hi
    have h3 : zTm i = Term.string (zcn q.1) q.2.1 := by
      unfold zTm
      rw [List.getD_eq_getElem?_getD, hq]
      rfl
    rw [h3] at h2
    exact h2
  · intro w hw hn
    have h := hts w hw
    cases w <;> first | (exact va_Nw.of rfl h) | (simp [zNest] at hn; done)
