set_option maxRecDepth 100000 in
theorem zw_sv : Cond.fieldLink "java/lang/String" 9 "java/lang/String" "value" "[B" ∈ lw_tbl := List.mem_append_right _ (List.mem_of_getElem? (i := 1000) (by decide +kernel))
set_option maxRecDepth 100000 in
theorem zw_sc : Cond.fieldLink "java/lang/String" 15 "java/lang/String" "coder" "B" ∈ lw_tbl := List.mem_append_right _ (List.mem_of_getElem? (i := 1001) (by decide +kernel))
theorem zld_int {i len pc : Nat} {ls : List Slot} {st : List Value} {h : ZH} {x : Nat × List Slot × List Value × ZH} (hz : zld true i len pc ls st h = some (.inl x)) : ∃ v, ls[i]? = some (.val (.int v)) ∧ x = (pc + len, ls, .int v :: st, h) := by
  unfold zld at hz
  split at hz
  · rename_i v hv
    rw [if_pos rfl] at hz
    cases hz
    exact ⟨v, hv, rfl⟩
  · simp at hz
  · simp at hz
  · cases hz
theorem zld_ref {i len pc : Nat} {ls : List Slot} {st : List Value} {h : ZH} {x : Nat × List Slot × List Value × ZH} (hz : zld false i len pc ls st h = some (.inl x)) : (∃ v, ls[i]? = some (.val (.ref v)) ∧ x = (pc + len, ls, .ref v :: st, h)) ∨ (ls[i]? = some (.val .null) ∧ x = (pc + len, ls, .null :: st, h)) := by
  unfold zld at hz
  split at hz
  · simp at hz
  · rename_i v hv
    split at hz
    · rename_i hc
      cases hz
      exact Or.inl ⟨v, hv, rfl⟩
    · cases hz
  · rename_i hv
    rw [if_pos rfl] at hz
    cases hz
    exact Or.inr ⟨hv, rfl⟩
  · cases hz
theorem zst_int {i len pc : Nat} {ls : List Slot} {st : List Value} {h : ZH} {x : Nat × List Slot × List Value × ZH} (hz : zst true i len pc ls st h = some (.inl x)) : ∃ v st', st = .int v :: st' ∧ i < ls.length ∧ x = (pc + len, ls.set i (.val (.int v)), st', h) := by
  unfold zst at hz
  split at hz
  · rename_i v st'
    split at hz
    · rename_i hc
      cases hz
      exact ⟨v, st', rfl, hc.2, rfl⟩
    · cases hz
  · simp at hz
  · simp at hz
  · cases hz
theorem zst_ref {i len pc : Nat} {ls : List Slot} {st : List Value} {h : ZH} {x : Nat × List Slot × List Value × ZH} (hz : zst false i len pc ls st h = some (.inl x)) : (∃ v st', st = .ref v :: st' ∧ i < ls.length ∧ x = (pc + len, ls.set i (.val (.ref v)), st', h)) ∨ ∃ st', st = .null :: st' ∧ i < ls.length ∧ x = (pc + len, ls.set i (.val .null), st', h) := by
  unfold zst at hz
  split at hz
  · simp at hz
  · rename_i v st'
    split at hz
    · rename_i hc
      cases hz
      exact Or.inl ⟨v, st', rfl, hc.2, rfl⟩
    · cases hz
  · rename_i st'
    split at hz
    · rename_i hc
      cases hz
      exact Or.inr ⟨st', rfl, hc.2, rfl⟩
    · cases hz
  · cases hz
theorem zbin_spec {f : Int32 → Int32 → Int32} {pc : Nat} {ls : List Slot} {st : List Value} {h : ZH} {x : Nat × List Slot × List Value × ZH} (hz : zbin f pc ls st h = some (.inl x)) : ∃ a b st', st = .int b :: .int a :: st' ∧ x = (pc + 1, ls, .int (f a b) :: st', h) := by
  unfold zbin at hz
  split at hz
  · rename_i b a st'
    cases hz
    exact ⟨a, b, st', rfl, rfl⟩
  · cases hz
theorem zto_spec {pc : Nat} {off : Int} {ls : List Slot} {st : List Value} {h : ZH} {x : Nat × List Slot × List Value × ZH} (hz : zto pc off ls st h = some (.inl x)) : ∃ tgt : Nat, (pc : Int) + off = (tgt : Int) ∧ x = (tgt, ls, st, h) := by
  unfold zto at hz
  split at hz
  · rename_i hc
    cases hz
    exact ⟨((pc : Int) + off).toNat, (Int.toNat_of_nonneg hc).symm, rfl⟩
  · cases hz
theorem zif_spec {c : Bool} {pc : Nat} {off : Int} {ls : List Slot} {st : List Value} {h : ZH} {x : Nat × List Slot × List Value × ZH} (hz : zif c pc off ls st h = some (.inl x)) : ∃ tgt : Nat, (pc : Int) + off = (tgt : Int) ∧ ((c = true ∧ x = (tgt, ls, st, h)) ∨ (c = false ∧ x = (pc + 3, ls, st, h))) := by
  unfold zif at hz
  split at hz
  · rename_i hp
    refine ⟨((pc : Int) + off).toNat, (Int.toNat_of_nonneg hp).symm, ?_⟩
    split at hz
    · rename_i hc
      cases hz
      exact Or.inl ⟨hc, rfl⟩
    · rename_i hc
      cases hz
      exact Or.inr ⟨by simpa using hc, rfl⟩
  · cases hz
theorem zfld_spec {own ix c k : Nat} (h : zfld own ix = some (c, k)) : ∃ nest, (own, ix, c, k, nest) ∈ zFL := by
  unfold zfld at h
  rw [Option.map_eq_some_iff] at h
  obtain ⟨q, h1, h2⟩ := h
  have h3 := List.find?_some h1
  simp only [Bool.and_eq_true, beq_iff_eq] at h3
  obtain ⟨a, b, c', k', nest⟩ := q
  refine ⟨nest, ?_⟩
  obtain ⟨rfl, rfl⟩ := h3
  cases h2
  exact List.mem_of_find?_eq_some h1
theorem znew_spec {own ix c : Nat} (h : znew own ix = some c) : (own, ix, c) ∈ zNL := by
  unfold znew at h
  rw [Option.map_eq_some_iff] at h
  obtain ⟨q, h1, h2⟩ := h
  have h3 := List.find?_some h1
  simp only [Bool.and_eq_true, beq_iff_eq] at h3
  obtain ⟨a, b, c'⟩ := q
  obtain ⟨rfl, rfl⟩ := h3
  cases h2
  exact List.mem_of_find?_eq_some h1
theorem zcon_spec {own ix : Nat} {v : Int32} (h : zcon own ix = some v) : (own, ix, v) ∈ zKL := by
  unfold zcon at h
  rw [Option.map_eq_some_iff] at h
  obtain ⟨q, h1, h2⟩ := h
  have h3 := List.find?_some h1
  simp only [Bool.and_eq_true, beq_iff_eq] at h3
  obtain ⟨a, b, c'⟩ := q
  obtain ⟨rfl, rfl⟩ := h3
  cases h2
  exact List.mem_of_find?_eq_some h1
theorem zstr_spec {own ix k : Nat} (h : zstr own ix = some k) : ∃ tx, zSL[k]? = some (own, ix, tx) := by
  unfold zstr at h
  obtain ⟨hl, h2, -⟩ := List.findIdx?_eq_some_iff_getElem.mp h
  simp only [Bool.and_eq_true, beq_iff_eq] at h2
  refine ⟨zSL[k].2.2, ?_⟩
  rw [List.getElem?_eq_getElem hl]
  congr 1
  obtain ⟨h3, h4⟩ := h2
  rw [← h3, ← h4]
theorem zCL_at {c : Nat} (h : c < 14) : zCL[c]? = some (zcn c, zT c, zN c) := by
  unfold zCL
  rw [List.getElem?_map, List.getElem?_range h]
  rfl
theorem zCL_len : zCL.length = 14 := by unfold zCL; simp
theorem zN_out {c : Nat} (h : 14 ≤ c) : zN c = 0 := by
  unfold zN
  rw [List.getD_eq_getElem?_getD, List.getElem?_eq_none (by have : zFD.length = 14 := by decide +kernel
                                                            omega)]
  rfl
theorem zlays {c : Nat} {args : Array Value} {s : State} (hc : c < 14) (hts : ∀ w ∈ zTB, w.before args s = true) : ∀ j, j < zN c → (u_lay (zcn c) (zT c) j).before args s = true ∧ ((Cond.lays (zcn c) (zT c j).1 (zT c j).2.1 (zT c j).2.2.1).before args s = true ∨ (Cond.laysFinal (zcn c) (zT c j).1 (zT c j).2.1 (zT c j).2.2.1).before args s = true) := by
  intro j hj
  have h1 := zcw c (List.mem_range.mpr hc) j (List.mem_range.mpr hj)
  have h2 : (u_lay (zcn c) (zT c) j).before args s = true := hts _ (zTB_in (List.mem_of_getElem? h1) (by unfold u_lay; split <;> rfl))
  refine ⟨h2, ?_⟩
  unfold u_lay at h2
  split at h2
  · exact Or.inr h2
  · exact Or.inl h2
theorem zlink {E : ZE} {own ix c k : Nat} {nest : Bool} {args : Array Value} {s : State} (hc : c < 14) (hk : k < zN c) (hin : (own, ix, c, k, nest) ∈ zFL) (hts : ∀ w ∈ zTB, w.before args s = true) (hN : ∀ w ∈ lw_tbl, zNest w = true → va_Nw w s) : (if nest = true then Cond.fieldLinkNest (zcn own) ix (zT c k).1 (zT c k).2.1 (zT c k).2.2.1 (zho own) else Cond.fieldLink (zcn own) ix (zT c k).1 (zT c k).2.1 (zT c k).2.2.1).before args s = true := by
  have h1 := zFok _ hin
  unfold zFw at h1
  dsimp only at h1
  cases nest with
  | true =>
    rw [if_pos rfl] at h1 ⊢
    exact va_Nw.use rfl (hN _ h1 rfl)
  | false =>
    simp only [Bool.false_eq_true, if_false] at h1 ⊢
    exact hts _ (zTB_in h1 rfl)
theorem zap {E : ZE} {c : Nat} {args : Array Value} {s : State} (hc : c < 14) (hts : ∀ w ∈ zTB, w.before args s = true) (hK : va_K (zeD E) zCL (zTys E) s) : ∀ x y, x < zN c → y < zN c → x ≠ y → ((zeD E).2 c) x ≠ ((zeD E).2 c) y := by
  intro x y hx hy hne
  have hKc := hK.1 c _ (zCL_at hc)
  obtain ⟨cf, kf, fi, fd, hi, he⟩ := hKc.1 x hx
  obtain ⟨cf', kf', fi', fd', hi', he'⟩ := hKc.1 y hy
  have hnm := zcd c (List.mem_range.mpr hc) x (List.mem_range.mpr hx) y (List.mem_range.mpr hy) hne
  have hap := u_apart (zlays hc hts x hx).2 (zlays hc hts y hy).2 hi hi' (by
    rw [(State.fieldFound?_type hi (zct c (List.mem_range.mpr hc) x (List.mem_range.mpr hx)).1).1, (State.fieldFound?_type hi' (zct c (List.mem_range.mpr hc) y (List.mem_range.mpr hy)).1).1]
    exact hnm)
  rw [← he, ← he']
  exact hap
theorem zup_eq {f : Nat → Nat → Int32} {o k : Nat} {x : Int32} : zw f o (upd (f o) k x) o = upd (f o) k x := by unfold zw; simp
theorem zcv_rf {E : ZE} (r : Option Nat) : zcv E (va_rf r) = va_rf (r.map (zad E)) := by cases r <;> rfl
theorem zad_lt {E : ZE} {o : Nat} (h : o < 1000000) : zad E o = zeB E + o := by unfold zad; rw [if_pos h]
theorem zfv_cv {E : ZE} {h : ZH} {o c k : Nat} : zfv E h o c k = zcv E (if zfk c k = 2 then va_rf (h.2.1 o k) else .int (h.1 o k)) := by
  unfold zfv
  split
  · rw [zcv_rf]
  · rfl
theorem zc11 {c k : Nat} (hk : k < zN c) : c < 14 := by
  rcases Nat.lt_or_ge c 14 with q | q
  · exact q
  · rw [zN_out q] at hk; omega
theorem zSR_len : zSR.length = 23 := by decide +kernel
theorem zSL_len : zSL.length = 23 := by decide +kernel
theorem zad_txt {E : ZE} {o : Nat} (h1 : 2000000 ≤ o) (h2 : o < 2000000 + zSR.length) : zad E o = zeK E (o - 2000000) ∧ zad E (o + 1000000) = zeV E (o - 2000000) ∧ o - 2000000 < zSR.length := by
  rw [zSR_len] at h2
  refine ⟨?_, ?_, ?_⟩
  · unfold zad
    rw [if_neg (by omega), if_neg (by omega), if_pos (by omega)]
  · unfold zad
    rw [if_neg (by omega), if_neg (by omega), if_neg (by omega), show o + 1000000 - 3000000 = o - 2000000 by omega]
  · rw [zSR_len]; omega
theorem zBY_len : zBY.length = 25 := by decide +kernel
theorem zad_byt {E : ZE} {o : Nat} (h1 : 3000000 ≤ o) (h2 : o < 3000000 + zBY.length) : zad E o = zeV E (o - 3000000) ∧ o - 3000000 < zBY.length := by
  rw [zBY_len] at h2 ⊢
  unfold zad
  rw [if_neg (by omega), if_neg (by omega), if_neg (by omega)]
  exact ⟨rfl, by omega⟩
theorem zSRmap (k : Nat) : (zSR.map List.length).getD k 0 = (zSR.getD k []).length := by
  rw [List.getD_eq_getElem?_getD, List.getD_eq_getElem?_getD, List.getElem?_map]
  cases zSR[k]? <;> rfl
theorem zBY_lo {i : Nat} (h : i < 23) : zBY.getD i [] = zSR.getD i [] := by
  unfold zBY
  rw [List.getD_eq_getElem?_getD, List.getD_eq_getElem?_getD, List.getElem?_append_left (by rw [zSR_len]; exact h)]
theorem zBY_hi : zBY.getD 23 [] = zDG0 ∧ zBY.getD 24 [] = zDG1 ∧ zDG0.length = 100 ∧ zDG1.length = 100 := by decide +kernel
/-- the bytes that stand outside -/
theorem zbyT {E : ZE} {s : State} (hSt : zSt E s s.heap) {i : Nat} (hi : i < zBY.length) : va_T .byte (zeV E i) (zBY.getD i []).length (fun j => .int ((zBY.getD i []).getD j 0)) (zA E) s s.heap := by
  rw [zBY_len] at hi
  by_cases h23 : i < 23
  · obtain ⟨-, -, -, hT⟩ := hSt.2.2.2.1.1 i (by rw [zSR_len]; exact h23)
    rw [zBY_lo h23, ← zSRmap]
    exact hT
  · obtain ⟨-, -, -, -, c5, c6⟩ := hSt.2.2.2.2.2.2.2.2.2.2.2
    rw [zSR_len] at c5 c6
    obtain ⟨e1, e2, e3, e4⟩ := zBY_hi
    rcases (by omega : i = 23 ∨ i = 24) with rfl | rfl
    · rw [e1, e3]; exact c5
    · rw [e2, e4]; exact c6
section ZSTEP
variable {p : Program} {l : Launch} {e : Env} {R : Room} {s : State} {m : MethodId} {args : Array Value} {below : List Frame} {meth : Method} {c : Code} {H : Heap} {locs : List Loc} {cells slots : Nat} {Q : State → Prop}
theorem zs_get {E : ZE} {d y pc ix : Nat} {ls' : Array Slot} {ls : List Slot} {st : List Value} {h : ZH} {x : Nat × List Slot × List Value × ZH} (Cx : zCx E d y p R s m args meth c) (hdec : decode (zcode y) pc = .ok (.getfield ix, 3)) (hz : zget y ix pc ls st h = some (.inl x)) (hWo : zWo E h H) (hS : va_S (zA E) s.heap H locs)
    (hgo : x.2.1 = ls → x.2.2.2 = h → W p l e R s m args below meth c H locs cells slots Q (F0 m x.1 ls' (x.2.2.1.map (zcv E)))) : W p l e R s m args below meth c H locs cells slots Q (F0 m pc ls' (st.map (zcv E))) := by
  obtain ⟨hx, hb, hml, hown, hinit, hts, hSt, hfr, hlo⟩ := Cx
  unfold zget at hz
  split at hz
  · rename_i o st'
    split at hz
    · rename_i hom
      split at hz
      · rename_i c0 k q hf hq
        split at hz
        · rename_i hc
          obtain ⟨hq1, hk⟩ := hc
          cases hz
          have hgo := hgo rfl rfl
          obtain ⟨nest, hin⟩ := zfld_spec hf
          have hc11 := zc11 hk
          obtain ⟨q1, q2⟩ := q
          dsimp only at hq1
          subst hq1
          have hg := zWs_get (E := E) hq
          rw [← zad_lt hom] at hg
          rw [zel_o hc11] at hg
          refine zp_get (host := zho (zown y)) hx hb nest (fun j hj => (zlays hc11 hts j hj).2) hown hSt.1 hWo.2.1 o hg (zCL_at hc11) hk (zlink (E := E) hc11 hk hin hts hSt.2.2.2.2.2.2.2.2.1) (v := zfv E h o c0 k) ?_ hdec ?_
          · rw [List.getElem?_map, List.getElem?_range hk]; rfl
          · rw [zfv_cv]
            exact hgo
        · cases hz
      · cases hz
    · rename_i hom
      split at hz
      · rename_i hoT
        have hcn : ∀ j, zjf (zown y) ix = some j → zcn (zown y) = "java/lang/String" ∧ ((ix = 9 ∧ j = 0) ∨ (ix = 15 ∧ j = 1)) := by
          intro j hj
          unfold zjf at hj
          split at hj
          · rename_i hs1
            refine ⟨hs1, ?_⟩
            split at hj
            · rename_i h9; cases hj; exact Or.inl ⟨h9, rfl⟩
            · split at hj
              · rename_i h15; cases hj; exact Or.inr ⟨h15, rfl⟩
              · cases hj
          · cases hj
        obtain ⟨hadK, hadV, hlt⟩ := zad_txt (E := E) hoT.1 hoT.2
        obtain ⟨-, v1, v2, -⟩ := hSt.2.2.2.1.1 (o - 2000000) hlt
        split at hz
        · rename_i hj
          obtain ⟨hs1, hj2⟩ := hcn _ hj
          rcases hj2 with ⟨rfl, -⟩ | ⟨-, hj2⟩
          · cases hz
            have hgo := hgo rfl rfl
            have hl2 : (Cond.fieldLink (zcn (zown y)) 9 "java/lang/String" "value" "[B").before args s = true := by rw [hs1]; exact hts _ (zTB_in zw_sv rfl)
            refine vk_getf (q := zad E o) hx hb (v := .ref (zad E (o + 1000000))) ?_ hS hown hl2 (fun _ z => z) hdec hgo
            rw [hadK]
            rw [hadV]
            exact v2
          · cases hj2
        · rename_i hj
          obtain ⟨hs1, hj2⟩ := hcn _ hj
          rcases hj2 with ⟨-, hj2⟩ | ⟨rfl, -⟩
          · cases hj2
          · cases hz
            have hgo := hgo rfl rfl
            have hl2 : (Cond.fieldLink (zcn (zown y)) 15 "java/lang/String" "coder" "B").before args s = true := by rw [hs1]; exact hts _ (zTB_in zw_sc rfl)
            refine vk_getf (q := zad E o) hx hb (v := .int 0) ?_ hS hown hl2 (fun _ z => z) hdec hgo
            rw [hadK]
            exact v1
        · cases hz
      · cases hz
  · cases hz
end ZSTEP
