set_option maxRecDepth 100000 in
theorem zw_mxs : Cond.static Lib.Math.max.name ∈ lw_tbl := List.mem_append_right _ (List.mem_of_getElem? (i := 492) (by decide +kernel))
set_option maxRecDepth 100000 in
theorem zw_mns : Cond.static Lib.Math.min.name ∈ lw_tbl := List.mem_append_right _ (List.mem_of_getElem? (i := 481) (by decide +kernel))
set_option maxRecDepth 100000 in
theorem zw_mi : Cond.initialized "java/lang/Math" ∈ lw_tbl := List.mem_append_right _ (List.mem_of_getElem? (i := 13) (by decide +kernel))
set_option maxRecDepth 100000 in
theorem zw_mxc : Cond.code Lib.Math.max.name Lib.Math.max.code 2 (some .int) ∈ lw_tbl := List.mem_append_right _ (List.mem_of_getElem? (i := 493) (by decide +kernel))
set_option maxRecDepth 100000 in
theorem zw_mnc : Cond.code Lib.Math.min.name Lib.Math.min.code 2 (some .int) ∈ lw_tbl := List.mem_append_right _ (List.mem_of_getElem? (i := 482) (by decide +kernel))
set_option maxRecDepth 100000 in
theorem zw_oc : Cond.code objectInit ⟨#[0xb1]⟩ 1 none ∈ lw_tbl := List.mem_append_right _ (List.mem_of_getElem? (i := 26) (by decide +kernel))
/-- what lies outside the nest is not called by the nest -/
theorem zMnn : ∀ q ∈ zML, 267 ≤ q.2.2.1 → q.2.2.2 ≠ true := by decide +kernel
section ZSTEP4
variable {p : Program} {l : Launch} {e : Env} {R : Room} {s : State} {m : MethodId} {args : Array Value} {below : List Frame} {meth : Method} {c : Code} {H : Heap} {locs : List Loc} {cells slots : Nat} {Q : State → Prop}
theorem zad_new {E : ZE} {h : ZH} {H : Heap} (hWo : zWo E h H) (hl : h.2.2.length < 999999) : zad E h.2.2.length = H.size := by
  rw [zad_lt (by omega), hWo.1]
theorem zs_mka {E : ZE} {kd d y pc : Nat} {at9 : ArrayType} {ls' : Array Slot} {ls : List Slot} {st : List Value} {h : ZH} {x : Nat × List Slot × List Value × ZH} (Cx : zCx E d y p R s m args meth c) (hkd : (kd = 0 ∧ at9 = .int) ∨ (kd = 1 ∧ at9 = .boolean)) (hdec : decode (zcode y) pc = .ok (.newarray at9, 2)) (hz : zmka kd 2 pc ls st h = some (.inl x)) (hWo : zWo E h H) (hS : va_S (zA E) s.heap H locs)
    (hc1 : cells + x.2.2.2.2.2.length ≤ R.cells + h.2.2.length) (hs1 : slots + zsl x.2.2.2 ≤ R.slots + zsl h)
    (hgo : ∀ (H1 : Heap) (c1 s1 : Nat), x.2.1 = ls → c1 + h.2.2.length = cells + x.2.2.2.2.2.length → s1 + zsl h = slots + zsl x.2.2.2 → zWo E x.2.2.2 H1 → va_S (zA E) s.heap H1 locs → W p l e R s m args below meth c H1 locs c1 s1 Q (F0 m x.1 ls' (x.2.2.1.map (zcv E)))) : W p l e R s m args below meth c H locs cells slots Q (F0 m pc ls' (st.map (zcv E))) := by
  obtain ⟨hx, hb, hml, hown, hinit, hts, hSt, hfr, hlo⟩ := Cx
  unfold zmka at hz
  split at hz
  · rename_i n st'
    split at hz
    · rename_i hc
      obtain ⟨hn, hN, hlen⟩ := hc
      cases hz
      have e1 : (zmk h (kd, n.toNatClampNeg)).2.2.length = h.2.2.length + 1 := by unfold zmk; simp
      have e2 : zsl (zmk h (kd, n.toNatClampNeg)) = zsl h + n.toNatClampNeg := by unfold zsl zmk; simp
      dsimp only at hc1 hs1 hgo
      rw [e1] at hc1
      rw [e2] at hs1
      have hty : (Cond.arrayClass (newarray.typeOf at9)).before args s = true := by
        rcases hkd with ⟨-, rfl⟩ | ⟨-, rfl⟩
        · exact hts _ (zTB_in zw_int rfl)
        · exact hts _ (zTB_in zw_bool rfl)
      refine va_newaK hx hb hty rfl hdec rfl hn rfl ?_ (by omega) (by omega) rfl (fun H1 cA g1 g2 g3 g4 g5 => ?_)
      · rcases hkd with ⟨-, rfl⟩ | ⟨-, rfl⟩
        · show n.toNatClampNeg * 4 ≤ 536870912; omega
        · show n.toNatClampNeg * 1 ≤ 536870912; omega
      · have hcA : cA = zeC E kd := by
          rcases hkd with ⟨rfl, rfl⟩ | ⟨rfl, rfl⟩
          · have := (hSt.1.2 0 _ rfl).2
            exact Option.some.inj (g5.symm.trans this)
          · have := (hSt.1.2 1 _ rfl).2
            exact Option.some.inj (g5.symm.trans this)
        subst hcA
        have hW2 : zWo E (zmk h (kd, n.toNatClampNeg)) H1 := by
          refine zWo_push hWo hlen g2 g3 ?_
          rcases hkd with ⟨rfl, rfl⟩ | ⟨rfl, rfl⟩
          · show H1[H.size]? = some (vp_cell (zeC E 0) (n.toNatClampNeg, .inl ((zmk h (0, n.toNatClampNeg)).1 h.2.2.length)))
            rw [g1, vp_cell_i]
            unfold zmk
            dsimp only
            rw [zw_self]
            rfl
          · show H1[H.size]? = some (vp_cell (zeC E 1) (n.toNatClampNeg, .inl ((zmk h (1, n.toNatClampNeg)).1 h.2.2.length)))
            rw [g1, vp_cell_i]
            unfold zmk
            dsimp only
            rw [zw_self]
            rfl
        have hfin := hgo H1 (cells + 1) (slots + n.toNatClampNeg) rfl (by rw [e1]; omega) (by rw [e2]; omega) hW2 (zS_push hS g2 g3)
        have hst : (Value.ref h.2.2.length :: st').map (zcv E) = .ref H.size :: st'.map (zcv E) := by
          rw [← zad_new hWo hlen]; rfl
        rw [hst] at hfin
        exact hfin
    · cases hz
  · cases hz
theorem zs_mkq {E : ZE} {d y pc ix : Nat} {ls' : Array Slot} {ls : List Slot} {st : List Value} {h : ZH} {x : Nat × List Slot × List Value × ZH} (Cx : zCx E d y p R s m args meth c) (hnw : znew (zown y) ix = some 2) (hdec : decode (zcode y) pc = .ok (.anewarray ix, 3)) (hz : zmka 2 3 pc ls st h = some (.inl x)) (hWo : zWo E h H) (hS : va_S (zA E) s.heap H locs)
    (hc1 : cells + x.2.2.2.2.2.length ≤ R.cells + h.2.2.length) (hs1 : slots + zsl x.2.2.2 ≤ R.slots + zsl h)
    (hgo : ∀ (H1 : Heap) (c1 s1 : Nat), x.2.1 = ls → c1 + h.2.2.length = cells + x.2.2.2.2.2.length → s1 + zsl h = slots + zsl x.2.2.2 → zWo E x.2.2.2 H1 → va_S (zA E) s.heap H1 locs → W p l e R s m args below meth c H1 locs c1 s1 Q (F0 m x.1 ls' (x.2.2.1.map (zcv E)))) : W p l e R s m args below meth c H locs cells slots Q (F0 m pc ls' (st.map (zcv E))) := by
  obtain ⟨hx, hb, hml, hown, hinit, hts, hSt, hfr, hlo⟩ := Cx
  unfold zmka at hz
  split at hz
  · rename_i n st'
    split at hz
    · rename_i hc
      obtain ⟨hn, hN, hlen⟩ := hc
      cases hz
      have e1 : (zmk h (2, n.toNatClampNeg)).2.2.length = h.2.2.length + 1 := by unfold zmk; simp
      have e2 : zsl (zmk h (2, n.toNatClampNeg)) = zsl h + n.toNatClampNeg := by unfold zsl zmk; simp
      dsimp only at hc1 hs1 hgo
      rw [e1] at hc1
      rw [e2] at hs1
      have hcl : (Cond.classLink (zcn (zown y)) ix (zcn 2)).before args s = true := hts _ (zTB_in (zNok _ (znew_spec hnw)) rfl)
      refine W.anew hx hb hown hcl (va_AO.use hSt.2.2.2.2.2.2.2.1) rfl hdec rfl hn (by omega) (by omega) (by omega) (fun cA kA comp f1 f2 f3 f4 => ?_)
      have hcA : cA = zeC E 2 := by
        obtain ⟨kA2, comp2, -, -, -, k4⟩ := (hSt.1.2 2 _ rfl).2
        exact Option.some.inj (f1.symm.trans k4)
      subst hcA
      generalize hH1 : H.push ({ cls := zeC E 2, slots := Array.replicate n.toNatClampNeg .null, vm := .none } : Cell) = H1
      have z1 : H1.size = H.size + 1 := by rw [← hH1, Array.size_push]
      have g1 : H1[H.size]? = some (arrV (zeC E 2) n.toNatClampNeg (fun _ => .null)) := by rw [← hH1, Array.getElem?_push_size, ← arrV_new]
      have o1 : ∀ q : Nat, q < H.size → H1[q]? = H[q]? := fun q hq => by rw [← hH1, Array.getElem?_push, if_neg (Nat.ne_of_lt hq)]
      have hW2 : zWo E (zmk h (2, n.toNatClampNeg)) H1 := by
        refine zWo_push hWo hlen z1 o1 ?_
        show H1[H.size]? = some (vp_cell (zeC E 2) (n.toNatClampNeg, .inr (.inr (.inr (.inr fun j => ((zmk h (2, n.toNatClampNeg)).2.1 h.2.2.length j).map (zad E))))))
        rw [g1, vp_cell_q]
        unfold zmk
        dsimp only
        rw [zw_self]
        rfl
      have hfin := hgo H1 (cells + 1) (slots + n.toNatClampNeg) rfl (by rw [e1]; omega) (by rw [e2]; omega) hW2 (zS_push hS z1 o1)
      have hst : (Value.ref h.2.2.length :: st').map (zcv E) = .ref H.size :: st'.map (zcv E) := by
        rw [← zad_new hWo hlen]; rfl
      rw [hst] at hfin
      exact hfin
    · cases hz
  · cases hz
theorem zs_mko {E : ZE} {d y pc ix : Nat} {ls' : Array Slot} {ls : List Slot} {st : List Value} {h : ZH} {x : Nat × List Slot × List Value × ZH} (Cx : zCx E d y p R s m args meth c) (hdec : decode (zcode y) pc = .ok (.new ix, 3)) (hz : zmko y ix pc ls st h = some (.inl x)) (hWo : zWo E h H) (hS : va_S (zA E) s.heap H locs)
    (hc1 : cells + x.2.2.2.2.2.length ≤ R.cells + h.2.2.length) (hs1 : slots + zsl x.2.2.2 ≤ R.slots + zsl h)
    (hgo : ∀ (H1 : Heap) (c1 s1 : Nat), x.2.1 = ls → c1 + h.2.2.length = cells + x.2.2.2.2.2.length → s1 + zsl h = slots + zsl x.2.2.2 → zWo E x.2.2.2 H1 → va_S (zA E) s.heap H1 locs → W p l e R s m args below meth c H1 locs c1 s1 Q (F0 m x.1 ls' (x.2.2.1.map (zcv E)))) : W p l e R s m args below meth c H locs cells slots Q (F0 m pc ls' (st.map (zcv E))) := by
  obtain ⟨hx, hb, hml, hown, hinit, hts, hSt, hfr, hlo⟩ := Cx
  unfold zmko at hz
  split at hz
  · rename_i c0 hnw
    split at hz
    · rename_i hc
      obtain ⟨hc0, hlen⟩ := hc
      rw [zCL_len] at hc0
      cases hz
      have e1 : (zmk h (3 + c0, zN c0)).2.2.length = h.2.2.length + 1 := by unfold zmk; simp
      have e2 : zsl (zmk h (3 + c0, zN c0)) = zsl h + zN c0 := by unfold zsl zmk; simp
      dsimp only at hc1 hs1 hgo
      rw [e1] at hc1
      rw [e2] at hs1
      have hcl : (Cond.classLink (zcn (zown y)) ix (zcn c0)).before args s = true := hts _ (zTB_in (zNok _ (znew_spec hnw)) rfl)
      have hin : (Cond.instantiable (zcn c0) (zN c0)).before args s = true := hts _ (zTB_in (zci c0 (List.mem_range.mpr hc0)) rfl)
      have hini : (Cond.initialized (zcn c0)).before args s = true := hts _ (zTB_in (zcj c0 (List.mem_range.mpr hc0)) rfl)
      have hKn := hSt.1.1 c0 _ (zCL_at hc0)
      refine W.newcK hx hb hown hcl hin hini rfl hdec (by omega) (by omega) hKn.2.1 rfl (fun H1 kC hkC g1 g2 g3 => ?_)
      have hus : ∀ w ∈ u_ws (zcn c0) (zT c0) (zN c0), w ∈ zTB := by
        intro w hw
        obtain ⟨j, hj, rfl⟩ := List.mem_map.mp hw
        have h1 := zcw c0 (List.mem_range.mpr hc0) j hj
        exact zTB_in (List.mem_of_getElem? h1) (by unfold u_lay; split <;> rfl)
      have hW2 : zWo E (zmk h (3 + c0, zN c0)) H1 := by
        refine zWo_push hWo hlen g2 g3 ?_
        have hel : zel E (zmk h (3 + c0, zN c0)) h.2.2.length (3 + c0, zN c0) = .inr (c0, (List.range (zN c0)).map (zfv E (zmk h (3 + c0, zN c0)) h.2.2.length c0)) := by
          rw [show 3 + c0 = c0 + 3 from Nat.add_comm 3 c0]
          rfl
        rw [hel]
        refine ⟨_, zCL_at hc0, (u_born (fun k => match parseFieldDescriptor (zT c0 k).2.2.1 with | some t => t | none => .int) hts hus hKn hkC g1 (fun k hk => ?_)).to (fun k hk => ?_)⟩
        · have ht := (zct c0 (List.mem_range.mpr hc0) k (List.mem_range.mpr hk)).1
          rw [ht]
        · obtain ⟨ht1, ht2, -, -⟩ := zct c0 (List.mem_range.mpr hc0) k (List.mem_range.mpr hk)
          have hf := (zcfin c0 (List.mem_range.mpr hc0) k (List.mem_range.mpr hk)).1
          have e3 : vp_V ((List.range (zN c0)).map (zfv E (zmk h (3 + c0, zN c0)) h.2.2.length c0)) k = zfv E (zmk h (3 + c0, zN c0)) h.2.2.length c0 k := by
            unfold vp_V
            rw [List.getD_eq_getElem?_getD, zget_list hk]
            rfl
          rw [e3]
          unfold zfv zmk
          dsimp only
          rw [zw_self, zw_self]
          rcases hf with h0 | h1 | h2
          · rw [if_pos h0] at ht1
            rw [ht1, if_neg (by omega)]
            rfl
          · rw [if_neg (by omega), if_pos h1] at ht1
            rw [ht1, if_neg (by omega)]
            rfl
          · rw [if_pos h2]
            have := ht2 h2
            cases hp : parseFieldDescriptor (zT c0 k).2.2.1 with
            | none => rw [hp] at this; cases this
            | some t =>
              rw [hp] at this
              cases t <;> first | rfl | (exact absurd this (by decide))
      have hfin := hgo H1 (cells + 1) (slots + zN c0) rfl (by rw [e1]; omega) (by rw [e2]; omega) hW2 (zS_push hS g2 g3)
      have hst : (Value.ref h.2.2.length :: st).map (zcv E) = .ref H.size :: st.map (zcv E) := by
        rw [← zad_new hWo hlen]; rfl
      rw [hst] at hfin
      exact hfin
    · cases hz
  · cases hz
theorem zs_cpy {E : ZE} {d y pc ix : Nat} {ls' : Array Slot} {ls : List Slot} {st : List Value} {h : ZH} {x : Nat × List Slot × List Value × ZH} (Cx : zCx E d y p R s m args meth c) (hlsz : ls'.size = zml y) (hres : zres (zown y) ix = some 1000) (hdec : decode (zcode y) pc = .ok (.invokestatic ix, 3)) (hz : zcpy pc ls st h = some (.inl x)) (hWo : zWo E h H) (hS : va_S (zA E) s.heap H locs)
    (hgo : ∀ (H1 : Heap) (locs1 : List Loc), x.2.1 = ls → x.2.2.2.2.2 = h.2.2 → zWo E x.2.2.2 H1 → va_S (zA E) s.heap H1 locs1 → W p l e R s m args below meth c H1 locs1 cells slots Q (F0 m x.1 ls' (x.2.2.1.map (zcv E)))) : W p l e R s m args below meth c H locs cells slots Q (F0 m pc ls' (st.map (zcv E))) := by
  obtain ⟨hx, hb, hml, hown, hinit, hts, hSt, hfr, hlo⟩ := Cx
  have hO := hSt.2.2.2.2.2.2.2.2.2.1
  unfold zcpy at hz
  split at hz
  · rename_i n dp a sp b st'
    split at hz
    · rename_i qb qa hqb hqa
      split at hz
      · rename_i hc
        obtain ⟨hb1, ha1, h1, h2, h3, h4, h5, h6⟩ := hc
        cases hz
        obtain ⟨qb1, qb2⟩ := qb
        obtain ⟨qa1, qa2⟩ := qa
        dsimp only at hb1 ha1 h4 h5
        subst hb1
        subst ha1
        have hgb := zWs_get (E := E) hqb
        rw [← zsh_lt hWo hqb] at hgb
        have hga := zWs_get (E := E) hqa
        rw [← zsh_lt hWo hqa] at hga
        obtain ⟨nest, hin⟩ := zres_spec hres
        have hlinkw := zMok _ hin
        have hnest : nest = false := by
          cases nest with
          | false => rfl
          | true => exact absurd rfl (zMnn _ hin (show (267 : Nat) ≤ 1000 by decide))
        subst hnest
        unfold zMw at hlinkw
        simp only [Bool.false_eq_true, if_false] at hlinkw
        have hcal : zcal 1000 = arraycopyName := by unfold zcal; rw [if_pos rfl]
        rw [hcal] at hlinkw
        have hlink := hts _ (zTB_in hlinkw rfl)
        have hsum : ((st'.map (zcv E)).map fun v => v.category).sum ≤ 8 := by rw [zcv_cats hO]; exact Nat.le_of_ble_eq_true h6
        refine zp_copy hx hb (hml.trans hlsz.symm) hown hlink (hts _ (zTB_in zw_acn rfl)) (hts _ (zTB_in zw_acs rfl)) (hts _ (zTB_in zw_aci rfl)) hSt.1 hWo.2.1 (zWs_D E h) hS b a 0 hgb hga rfl h1 h2 h3 h4 h5 (by omega) ?_ hdec (fun H1 locs1 hz hP hS1 => ?_)
        · have : nativeFrameWords "java/lang/System" "arraycopy" 5 = 7 := by decide
          rw [this]
          omega
        · refine hgo H1 locs1 rfl rfl (zWo_set hWo hqa rfl (fun a ha => zw_ne _ _ ha) (fun a ha => rfl) hz ?_) hS1
          rw [← zsh_lt hWo hqa]
          have e : zel E (zw h.1 a (va_cpy (h.1 b) (h.1 a) sp.toNatClampNeg dp.toNatClampNeg n.toNatClampNeg), h.2) a (0, qa2) = .inl (zeC E 0, qa2, .inl (va_cpy (h.1 b) (h.1 a) sp.toNatClampNeg dp.toNatClampNeg n.toNatClampNeg)) := by
            unfold zel; dsimp only; rw [zw_self]
          rw [e]
          exact hP
      · cases hz
    · cases hz
  · cases hz
end ZSTEP4
