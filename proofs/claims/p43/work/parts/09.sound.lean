theorem zget_list {c : Nat} {k : Nat} {g : Nat → Value} (hk : k < zN c) : ((List.range (zN c)).map g)[k]? = some (g k) := by
  rw [List.getElem?_map, List.getElem?_range hk]; rfl
theorem zset_list {n k : Nat} {g g' : Nat → Value} {v : Value} (hk : g' k = v) (ho : ∀ j, j ≠ k → g' j = g j) : ((List.range n).map g).set k v = (List.range n).map g' := by
  apply List.ext_getElem?
  intro j
  by_cases hj : j = k
  · subst hj
    by_cases hn : j < n
    · rw [List.getElem?_set_self (by simpa using hn), List.getElem?_map, List.getElem?_range hn]
      simp [hk]
    · rw [List.getElem?_eq_none (by simp; omega), List.getElem?_eq_none (by simp; omega)]
  · rw [List.getElem?_set_ne (Ne.symm hj)]
    by_cases hn : j < n
    · rw [List.getElem?_map, List.getElem?_map, List.getElem?_range hn]
      simp [ho j hj]
    · rw [List.getElem?_eq_none (by simp; omega), List.getElem?_eq_none (by simp; omega)]
theorem zw_self {α : Type} (f : Nat → α) (o : Nat) (g : α) : zw f o g o = g := by unfold zw; rw [if_pos rfl]
theorem zw_ne {α : Type} (f : Nat → α) {o a : Nat} (g : α) (h : a ≠ o) : zw f o g a = f a := by unfold zw; rw [if_neg h]
theorem zsh_lt {E : ZE} {h : ZH} {H : Heap} {o : Nat} {q : Nat × Nat} (hWo : zWo E h H) (hq : h.2.2[o]? = some q) : zad E o = zeB E + o := by
  have h1 := (List.getElem?_eq_some_iff.mp hq).1
  have h2 := hWo.2.2
  exact zad_lt (by omega)
/-- the world behind a store into one cell -/
theorem zWo_set {E : ZE} {h h2 : ZH} {H H1 : Heap} {o : Nat} {q : Nat × Nat} (hWo : zWo E h H) (hq : h.2.2[o]? = some q) (hs : h2.2.2 = h.2.2) (h1 : ∀ a, a ≠ o → h2.1 a = h.1 a) (h2r : ∀ a, a ≠ o → h2.2.1 a = h.2.1 a) (hz : H1.size = H.size) (hP : va_P (zeD E) zCL ((zWs E h).set o (zeB E + o, zel E h2 o q)) H1) : zWo E h2 H1 := by
  refine ⟨by rw [hz, hWo.1, hs], ?_, by rw [hs]; exact hWo.2.2⟩
  rw [zWs_set hq hs h1 h2r]
  exact hP
/-- no field of one's own class is taken by the nest -/
theorem zFnn : ∀ q ∈ zFL, ¬ (q.1 = q.2.2.1 ∧ q.2.2.2.2 = true) := by decide +kernel
theorem zfo_spec {y c k : Nat} (h : zfo y c k = true) : (zT c k).2.2.2 = false ∨ (zkind y = 2 ∧ zown y = c) := by
  unfold zfo zfin at h
  rw [Bool.or_eq_true, Bool.and_eq_true, Bool.not_eq_true', Nat.beq_eq, Nat.beq_eq] at h
  exact h
/-- the type of a field by its kind -/
def zfy (c k : Nat) : FieldType := if zfk c k = 0 then .int else if zfk c k = 1 then .boolean else .byte
section ZSTEP2
variable {p : Program} {l : Launch} {e : Env} {R : Room} {s : State} {m : MethodId} {args : Array Value} {below : List Frame} {meth : Method} {c : Code} {H : Heap} {locs : List Loc} {cells slots : Nat} {Q : State → Prop}
theorem zs_put {E : ZE} {d y pc ix : Nat} {ls' : Array Slot} {ls : List Slot} {st : List Value} {h : ZH} {x : Nat × List Slot × List Value × ZH} (Cx : zCx E d y p R s m args meth c) (hdec : decode (zcode y) pc = .ok (.putfield ix, 3)) (hz : zput y ix pc ls st h = some (.inl x)) (hWo : zWo E h H) (hS : va_S (zA E) s.heap H locs)
    (hgo : ∀ (H1 : Heap) (locs1 : List Loc), x.2.1 = ls → x.2.2.2.2.2 = h.2.2 → zWo E x.2.2.2 H1 → va_S (zA E) s.heap H1 locs1 → W p l e R s m args below meth c H1 locs1 cells slots Q (F0 m x.1 ls' (x.2.2.1.map (zcv E)))) : W p l e R s m args below meth c H locs cells slots Q (F0 m pc ls' (st.map (zcv E))) := by
  obtain ⟨hx, hb, hml, hown, hinit, hts, hSt, hfr, hlo⟩ := Cx
  unfold zput at hz
  split at hz
  · rename_i x0 o st'
    split at hz
    · rename_i c0 k q hf hq
      split at hz
      · rename_i hc
        obtain ⟨hq1, hk, hkind⟩ := hc
        cases hz
        obtain ⟨nest, hin⟩ := zfld_spec hf
        have hc11 := zc11 hk
        obtain ⟨q1, q2⟩ := q
        dsimp only at hq1
        subst hq1
        have hg := zWs_get (E := E) hq
        rw [← zsh_lt hWo hq] at hg
        obtain ⟨ht1, ht2, ht3, ht4⟩ := zct c0 (List.mem_range.mpr hc11) k (List.mem_range.mpr hk)
        obtain ⟨hkind, hfo⟩ := hkind
        have hk2 : ¬ zfk c0 k = 2 := by rcases hkind with h | ⟨h | h, -⟩ <;> omega
        have hval : narrow (zfy c0 k) (.int x0) = .int x0 ∧ fits (zfy c0 k) (.int x0) = true ∧ parseFieldDescriptor (zT c0 k).2.2.1 = some (zfy c0 k) := by
          unfold zfy
          rcases hkind with h0 | ⟨h1 | h3, hx01⟩
          · rw [if_pos h0] at ht1 ⊢
            exact ⟨rfl, rfl, ht1⟩
          · rw [if_neg (by omega), if_pos h1] at ht1 ⊢
            rcases hx01 with rfl | rfl
            · exact ⟨by decide, by decide, ht1⟩
            · exact ⟨by decide, by decide, ht1⟩
          · rw [if_neg (by omega), if_neg (by omega), if_pos h3] at ht1
            rw [if_neg (by omega), if_neg (by omega)]
            rcases hx01 with rfl | rfl
            · exact ⟨by decide, by decide, ht1⟩
            · exact ⟨by decide, by decide, ht1⟩
        have hfin : (zT c0 k).2.2.2 = false ∨ (nest = false ∧ meth.name = "<init>" ∧ (zT c0 k).1 = zcn (zown y)) := by
          cases hf9 : (zT c0 k).2.2.2 with
          | false => exact Or.inl rfl
          | true =>
            rcases zfo_spec hfo with h9 | ⟨hkd, hyc⟩
            · rw [hf9] at h9; cases h9
            refine Or.inr ⟨?_, hinit hkd, by rw [ht3 hf9, hyc]⟩
            cases nest with
            | false => rfl
            | true => exact absurd ⟨hyc, rfl⟩ (zFnn _ hin)
        rw [zel_o hc11] at hg
        refine zp_put (host := zho (zown y)) (v := .int x0) hx hb nest (zlays hc11 hts k hk).1 (fun j hj => (zlays hc11 hts j hj).2) (zap hc11 hts hSt.1) hown hSt.1 hWo.2.1 (zWs_D E h) hS o hg (zCL_at hc11) hk (zlink (E := E) hc11 hk hin hts hSt.2.2.2.2.2.2.2.2.1) hfin hval.2.2 hval.1 hval.2.1 (by simpa using hk) hdec (fun H1 locs1 hz hP hS1 => ?_)
        refine hgo H1 locs1 rfl rfl (zWo_set hWo hq rfl (fun a ha => zw_ne _ _ ha) (fun a ha => rfl) hz ?_) hS1
        have e : (List.map (zfv E h o c0) (List.range (zN c0))).set k (Value.int x0) = List.map (zfv E (zw h.1 o (upd (h.1 o) k x0), h.2) o c0) (List.range (zN c0)) := by
          refine zset_list ?_ ?_
          · unfold zfv; rw [if_neg hk2]; dsimp only; rw [zw_self]; simp [upd]
          · intro j hj; unfold zfv; dsimp only; rw [zw_self]; simp [upd, hj]
        rw [e] at hP
        rw [← zsh_lt hWo hq, zel_o hc11]
        exact hP
      · cases hz
    · cases hz
  · rename_i r o st'
    split at hz
    · rename_i c0 k q hf hq
      split at hz
      · rename_i hc
        obtain ⟨hq1, hk, hk2, hfo, hr6⟩ := hc
        cases hz
        obtain ⟨nest, hin⟩ := zfld_spec hf
        have hc11 := zc11 hk
        obtain ⟨q1, q2⟩ := q
        dsimp only at hq1
        subst hq1
        have hg := zWs_get (E := E) hq
        rw [← zsh_lt hWo hq] at hg
        obtain ⟨ht1, ht2, ht3, ht4⟩ := zct c0 (List.mem_range.mpr hc11) k (List.mem_range.mpr hk)
        have hfin : (zT c0 k).2.2.2 = false ∨ (nest = false ∧ meth.name = "<init>" ∧ (zT c0 k).1 = zcn (zown y)) := by
          cases hf9 : (zT c0 k).2.2.2 with
          | false => exact Or.inl rfl
          | true =>
            rcases zfo_spec hfo with h9 | ⟨hkd, hyc⟩
            · rw [hf9] at h9; cases h9
            refine Or.inr ⟨?_, hinit hkd, by rw [ht3 hf9, hyc]⟩
            cases nest with
            | false => rfl
            | true => exact absurd ⟨hyc, rfl⟩ (zFnn _ hin)
        have hval : ∃ t, parseFieldDescriptor (zT c0 k).2.2.1 = some t ∧ narrow t (.ref (zad E r)) = .ref (zad E r) ∧ fits t (.ref (zad E r)) = true := by
          cases hp : parseFieldDescriptor (zT c0 k).2.2.1 with
          | none => rw [hp] at ht2; exact absurd (ht2 hk2) (by decide)
          | some t =>
            rw [hp] at ht2
            have := ht2 hk2
            refine ⟨t, rfl, ?_, ?_⟩
            · cases t <;> first | rfl | (exact absurd this (by decide))
            · cases t <;> first | rfl | (exact absurd this (by decide))
        obtain ⟨t, hv1, hv2, hv3⟩ := hval
        rw [zel_o hc11] at hg
        refine zp_put (host := zho (zown y)) (v := .ref (zad E r)) hx hb nest (zlays hc11 hts k hk).1 (fun j hj => (zlays hc11 hts j hj).2) (zap hc11 hts hSt.1) hown hSt.1 hWo.2.1 (zWs_D E h) hS o hg (zCL_at hc11) hk (zlink (E := E) hc11 hk hin hts hSt.2.2.2.2.2.2.2.2.1) hfin hv1 hv2 hv3 (by simpa using hk) hdec (fun H1 locs1 hz hP hS1 => ?_)
        refine hgo H1 locs1 rfl rfl (zWo_set hWo hq rfl (fun a ha => rfl) (fun a ha => zw_ne _ _ ha) hz ?_) hS1
        have e : (List.map (zfv E h o c0) (List.range (zN c0))).set k (Value.ref (zad E r)) = List.map (zfv E (h.1, zw h.2.1 o (zw (h.2.1 o) k (some r)), h.2.2) o c0) (List.range (zN c0)) := by
          refine zset_list ?_ ?_
          · unfold zfv; rw [if_pos hk2]; dsimp only; rw [zw_self, zw_self]; rfl
          · intro j hj; unfold zfv; dsimp only; rw [zw_self, zw_ne _ _ hj]
        rw [e] at hP
        rw [← zsh_lt hWo hq, zel_o hc11]
        exact hP
      · cases hz
    · cases hz
  · rename_i o st'
    split at hz
    · rename_i c0 k q hf hq
      split at hz
      · rename_i hc
        obtain ⟨hq1, hk, hk2, hfo⟩ := hc
        cases hz
        obtain ⟨nest, hin⟩ := zfld_spec hf
        have hc11 := zc11 hk
        obtain ⟨q1, q2⟩ := q
        dsimp only at hq1
        subst hq1
        have hg := zWs_get (E := E) hq
        rw [← zsh_lt hWo hq] at hg
        obtain ⟨ht1, ht2, ht3, ht4⟩ := zct c0 (List.mem_range.mpr hc11) k (List.mem_range.mpr hk)
        have hfin : (zT c0 k).2.2.2 = false ∨ (nest = false ∧ meth.name = "<init>" ∧ (zT c0 k).1 = zcn (zown y)) := by
          cases hf9 : (zT c0 k).2.2.2 with
          | false => exact Or.inl rfl
          | true =>
            rcases zfo_spec hfo with h9 | ⟨hkd, hyc⟩
            · rw [hf9] at h9; cases h9
            refine Or.inr ⟨?_, hinit hkd, by rw [ht3 hf9, hyc]⟩
            cases nest with
            | false => rfl
            | true => exact absurd ⟨hyc, rfl⟩ (zFnn _ hin)
        have hval : ∃ t, parseFieldDescriptor (zT c0 k).2.2.1 = some t ∧ narrow t (.null) = .null ∧ fits t (.null) = true := by
          cases hp : parseFieldDescriptor (zT c0 k).2.2.1 with
          | none => rw [hp] at ht2; exact absurd (ht2 hk2) (by decide)
          | some t =>
            rw [hp] at ht2
            have := ht2 hk2
            refine ⟨t, rfl, ?_, ?_⟩
            · cases t <;> first | rfl | (exact absurd this (by decide))
            · cases t <;> first | rfl | (exact absurd this (by decide))
        obtain ⟨t, hv1, hv2, hv3⟩ := hval
        rw [zel_o hc11] at hg
        refine zp_put (host := zho (zown y)) (v := .null) hx hb nest (zlays hc11 hts k hk).1 (fun j hj => (zlays hc11 hts j hj).2) (zap hc11 hts hSt.1) hown hSt.1 hWo.2.1 (zWs_D E h) hS o hg (zCL_at hc11) hk (zlink (E := E) hc11 hk hin hts hSt.2.2.2.2.2.2.2.2.1) hfin hv1 hv2 hv3 (by simpa using hk) hdec (fun H1 locs1 hz hP hS1 => ?_)
        refine hgo H1 locs1 rfl rfl (zWo_set hWo hq rfl (fun a ha => rfl) (fun a ha => zw_ne _ _ ha) hz ?_) hS1
        have e : (List.map (zfv E h o c0) (List.range (zN c0))).set k Value.null = List.map (zfv E (h.1, zw h.2.1 o (zw (h.2.1 o) k none), h.2.2) o c0) (List.range (zN c0)) := by
          refine zset_list ?_ ?_
          · unfold zfv; rw [if_pos hk2]; dsimp only; rw [zw_self, zw_self]; rfl
          · intro j hj; unfold zfv; dsimp only; rw [zw_self, zw_ne _ _ hj]
        rw [e] at hP
        rw [← zsh_lt hWo hq, zel_o hc11]
        exact hP
      · cases hz
    · cases hz
  · cases hz
end ZSTEP2
