set_option maxRecDepth 100000 in
theorem zMnn : ∀ q ∈ zML, zNM ≤ q.2.2.1 → q.2.2.2 ≠ true := by decide +kernel
theorem zft_fit {x : Int32} (h : zft x = true) : fits .byte (.int x) = true := by
  have h := of_decide_eq_true h
  have e : vp_nar .byte x = x.toInt8.toInt32 := rfl
  rw [e] at h
  have h8 : (-128 : Int32) ≤ x ∧ x ≤ 127 := by
    rw [← h]
    refine ⟨Int32.le_iff_toInt_le.mpr ?_, Int32.le_iff_toInt_le.mpr ?_⟩
    · rw [Int8.toInt_toInt32]; exact Int8.le_toInt _
    · rw [Int8.toInt_toInt32]; exact Int8.toInt_le _
  simpa [fits] using h8
theorem zBY_fits : (zBY.all fun r => r.all zft) = true := by decide +kernel
theorem zBY_fit {i j : Nat} (hi : i < zBY.length) (hj : j < (zBY.getD i []).length) : fits .byte (.int ((zBY.getD i []).getD j 0)) = true := by
  have hr : zBY.getD i [] ∈ zBY := by
    rw [List.getD_eq_getElem?_getD, List.getElem?_eq_getElem hi]
    exact List.getElem_mem hi
  have h1 := List.all_eq_true.mp zBY_fits _ hr
  generalize zBY.getD i [] = r at hj h1 ⊢
  have hm : r.getD j 0 ∈ r := by
    rw [List.getD_eq_getElem?_getD, List.getElem?_eq_getElem hj]
    exact List.getElem_mem hj
  exact zft_fit (List.all_eq_true.mp h1 _ hm)
section ZSTEP4
variable {p : Program} {l : Launch} {e : Env} {R : Room} {s : State} {m : MethodId} {args : Array Value} {below : List Frame} {meth : Method} {c : Code} {H : Heap} {locs : List Loc} {cells slots : Nat} {Q : State → Prop}
theorem zad_new {E : ZE} {h : ZH} {H : Heap} (hWo : zWo E h H) (hl : h.2.2.length < 999999) : zad E h.2.2.length = H.size := by
  rw [zad_lt (by omega), hWo.1]
theorem zs_mka {E : ZE} {kd d y pc : Nat} {at9 : ArrayType} {ls' : Array Slot} {ls : List Slot} {st : List Value} {h : ZH} {x : Nat × List Slot × List Value × ZH} (Cx : zCx E d y p R s m args meth c) (hkd : (kd = 0 ∧ at9 = .int) ∨ (kd = 1 ∧ at9 = .boolean) ∨ (kd = 50 ∧ at9 = .byte)) (hdec : decode (zcode y) pc = .ok (.newarray at9, 2)) (hz : zmka kd 2 pc ls st h = some (.inl x)) (hWo : zWo E h H) (hS : va_S (zA E) s.heap H locs)
    (hc1 : cells + x.2.2.2.2.2.length ≤ R.cells + h.2.2.length) (hs1 : slots + zsl x.2.2.2 ≤ R.slots + zsl h)
    (hgo : ∀ (H1 : Heap) (c1 s1 : Nat), x.2.1 = ls → c1 + h.2.2.length = cells + x.2.2.2.2.2.length → s1 + zsl h = slots + zsl x.2.2.2 → zWo E x.2.2.2 H1 → va_S (zA E) s.heap H1 locs → W p l e R s m args below meth c H1 locs c1 s1 Q (F0 m x.1 ls' (x.2.2.1.map (zcv E)))) : W p l e R s m args below meth c H locs cells slots Q (F0 m pc ls' (st.map (zcv E))) := by
  obtain ⟨hx, hb, hml, hown, hinit, hts, hSt, hfr, hlo⟩ := Cx
  unfold zmka at hz
  split at hz
  · rename_i n st'
    split at hz
    · rename_i hc
      obtain ⟨hn, hN, hlen⟩ := hc
      cases hz
      have e1 : (zmk h (kd, n.toNatClampNeg)).2.2.length = h.2.2.length + 1 := by unfold zmk; simp
      have e2 : zsl (zmk h (kd, n.toNatClampNeg)) = zsl h + n.toNatClampNeg := by unfold zsl zmk; simp
      dsimp only at hc1 hs1 hgo
      rw [e1] at hc1
      rw [e2] at hs1
      have hty : (Cond.arrayClass (newarray.typeOf at9)).before args s = true := by
        rcases hkd with ⟨-, rfl⟩ | ⟨-, rfl⟩ | ⟨-, rfl⟩
        · exact hts _ (zTB_in zw_int rfl)
        · exact hts _ (zTB_in zw_bool rfl)
        · exact hts _ (zTB_in zw_byte rfl)
      obtain ⟨t, ht1, ht2⟩ : ∃ t, zak kd = some t ∧ (t = 0 ∨ t = 1 ∨ t = 3) := by
        rcases hkd with ⟨rfl, -⟩ | ⟨rfl, -⟩ | ⟨rfl, -⟩
        · exact ⟨0, rfl, by decide⟩
        · exact ⟨1, rfl, by decide⟩
        · exact ⟨3, rfl, by decide⟩
      refine va_newaK hx hb hty rfl hdec rfl hn rfl ?_ (by omega) (by omega) rfl (fun H1 cA g1 g2 g3 g4 g5 => ?_)
      · rcases hkd with ⟨-, rfl⟩ | ⟨-, rfl⟩ | ⟨-, rfl⟩
        · show n.toNatClampNeg * 4 ≤ 536870912; omega
        · show n.toNatClampNeg * 1 ≤ 536870912; omega
        · show n.toNatClampNeg * 1 ≤ 536870912; omega
      · have hcA : cA = zeC E t := by
          rcases hkd with ⟨rfl, rfl⟩ | ⟨rfl, rfl⟩ | ⟨rfl, rfl⟩
          · cases ht1
            exact Option.some.inj (g5.symm.trans (hSt.1.2 0 _ rfl).2)
          · cases ht1
            exact Option.some.inj (g5.symm.trans (hSt.1.2 1 _ rfl).2)
          · cases ht1
            exact Option.some.inj (g5.symm.trans (hSt.1.2 3 _ rfl).2)
        subst hcA
        have hW2 : zWo E (zmk h (kd, n.toNatClampNeg)) H1 := by
          refine zWo_push hWo rfl zmk_1 zmk_2 hlen g2 g3 ?_
          rw [zel_i ht1 ht2]
          show H1[H.size]? = some (vp_cell (zeC E t) (n.toNatClampNeg, .inl ((zmk h (kd, n.toNatClampNeg)).1 h.2.2.length)))
          rw [g1, vp_cell_i]
          unfold zmk
          dsimp only
          rw [zw_self]
          rcases hkd with ⟨-, rfl⟩ | ⟨-, rfl⟩ | ⟨-, rfl⟩ <;> rfl
        have hfin := hgo H1 (cells + 1) (slots + n.toNatClampNeg) rfl (by rw [e1]; omega) (by rw [e2]; omega) hW2 (zS_push hS g2 g3)
        have hst : (Value.ref h.2.2.length :: st').map (zcv E) = .ref H.size :: st'.map (zcv E) := by
          rw [← zad_new hWo hlen]; rfl
        rw [hst] at hfin
        exact hfin
    · cases hz
  · cases hz
theorem zacl_spec {own ix c : Nat} (h : zacl own ix = some c) : (own, ix, c) ∈ zAL := by
  unfold zacl at h
  rw [Option.map_eq_some_iff] at h
  obtain ⟨q, h1, h2⟩ := h
  have h3 := List.find?_some h1
  simp only [Bool.and_eq_true, beq_iff_eq] at h3
  obtain ⟨a, b, c'⟩ := q
  obtain ⟨rfl, rfl⟩ := h3
  cases h2
  exact List.mem_of_find?_eq_some h1
theorem zs_mkq {E : ZE} {kd ci d y pc ix : Nat} {ls' : Array Slot} {ls : List Slot} {st : List Value} {h : ZH} {x : Nat × List Slot × List Value × ZH} (Cx : zCx E d y p R s m args meth c) (hkd : (kd = 2 ∧ ci = 2) ∨ (kd = 52 ∧ ci = 10)) (hnw : znew (zown y) ix = some ci) (hdec : decode (zcode y) pc = .ok (.anewarray ix, 3)) (hz : zmka kd 3 pc ls st h = some (.inl x)) (hWo : zWo E h H) (hS : va_S (zA E) s.heap H locs)
    (hc1 : cells + x.2.2.2.2.2.length ≤ R.cells + h.2.2.length) (hs1 : slots + zsl x.2.2.2 ≤ R.slots + zsl h)
    (hgo : ∀ (H1 : Heap) (c1 s1 : Nat), x.2.1 = ls → c1 + h.2.2.length = cells + x.2.2.2.2.2.length → s1 + zsl h = slots + zsl x.2.2.2 → zWo E x.2.2.2 H1 → va_S (zA E) s.heap H1 locs → W p l e R s m args below meth c H1 locs c1 s1 Q (F0 m x.1 ls' (x.2.2.1.map (zcv E)))) : W p l e R s m args below meth c H locs cells slots Q (F0 m pc ls' (st.map (zcv E))) := by
  obtain ⟨hx, hb, hml, hown, hinit, hts, hSt, hfr, hlo⟩ := Cx
  unfold zmka at hz
  split at hz
  · rename_i n st'
    split at hz
    · rename_i hc
      obtain ⟨hn, hN, hlen⟩ := hc
      cases hz
      have e1 : (zmk h (kd, n.toNatClampNeg)).2.2.length = h.2.2.length + 1 := by unfold zmk; simp
      have e2 : zsl (zmk h (kd, n.toNatClampNeg)) = zsl h + n.toNatClampNeg := by unfold zsl zmk; simp
      dsimp only at hc1 hs1 hgo
      rw [e1] at hc1
      rw [e2] at hs1
      have hcl : (Cond.classLink (zcn (zown y)) ix (zcn ci)).before args s = true := hts _ (zTB_in (zNok _ (znew_spec hnw)) rfl)
      obtain ⟨t, ty, ht1, ht2, ht3, hAO⟩ : ∃ t ty, zak kd = some t ∧ ¬ (t = 0 ∨ t = 1 ∨ t = 3) ∧ (zTys E)[t]? = some (zeC E t, .object (zcn ci)) ∧ va_AO (zcn ci) s := by
        rcases hkd with ⟨rfl, rfl⟩ | ⟨rfl, rfl⟩
        · exact ⟨2, 2, rfl, by decide, rfl, hSt.2.2.2.2.2.2.2.1⟩
        · exact ⟨5, 5, rfl, by decide, rfl, hSt.2.2.2.2.2.2.2.2.2.2.2.1⟩
      refine W.anew hx hb hown hcl (va_AO.use hAO) rfl hdec rfl hn (by omega) (by omega) (by omega) (fun cA kA comp f1 f2 f3 f4 => ?_)
      have hcA : cA = zeC E t := by
        obtain ⟨kA2, comp2, -, -, -, k4⟩ := (hSt.1.2 t _ ht3).2
        exact Option.some.inj (f1.symm.trans k4)
      subst hcA
      generalize hH1 : H.push ({ cls := zeC E t, slots := Array.replicate n.toNatClampNeg .null, vm := .none } : Cell) = H1
      have z1 : H1.size = H.size + 1 := by rw [← hH1, Array.size_push]
      have g1 : H1[H.size]? = some (arrV (zeC E t) n.toNatClampNeg (fun _ => .null)) := by rw [← hH1, Array.getElem?_push_size, ← arrV_new]
      have o1 : ∀ q : Nat, q < H.size → H1[q]? = H[q]? := fun q hq => by rw [← hH1, Array.getElem?_push, if_neg (Nat.ne_of_lt hq)]
      have hW2 : zWo E (zmk h (kd, n.toNatClampNeg)) H1 := by
        refine zWo_push hWo rfl zmk_1 zmk_2 hlen z1 o1 ?_
        rw [zel_r ht1 ht2]
        show H1[H.size]? = some (vp_cell (zeC E t) (n.toNatClampNeg, .inr (.inr (.inr (.inr fun j => ((zmk h (kd, n.toNatClampNeg)).2.1 h.2.2.length j).map (zad E))))))
        rw [g1, vp_cell_q]
        unfold zmk
        dsimp only
        rw [zw_self]
        rfl
      have hfin := hgo H1 (cells + 1) (slots + n.toNatClampNeg) rfl (by rw [e1]; omega) (by rw [e2]; omega) hW2 (zS_push hS z1 o1)
      have hst : (Value.ref h.2.2.length :: st').map (zcv E) = .ref H.size :: st'.map (zcv E) := by
        rw [← zad_new hWo hlen]; rfl
      rw [hst] at hfin
      exact hfin
    · cases hz
  · cases hz
theorem zs_mkQ {E : ZE} {d y pc ix : Nat} {ls' : Array Slot} {ls : List Slot} {st : List Value} {h : ZH} {x : Nat × List Slot × List Value × ZH} (Cx : zCx E d y p R s m args meth c) (hnw : zacl (zown y) ix = some 0) (hdec : decode (zcode y) pc = .ok (.anewarray ix, 3)) (hz : zmka 51 3 pc ls st h = some (.inl x)) (hWo : zWo E h H) (hS : va_S (zA E) s.heap H locs)
    (hc1 : cells + x.2.2.2.2.2.length ≤ R.cells + h.2.2.length) (hs1 : slots + zsl x.2.2.2 ≤ R.slots + zsl h)
    (hgo : ∀ (H1 : Heap) (c1 s1 : Nat), x.2.1 = ls → c1 + h.2.2.length = cells + x.2.2.2.2.2.length → s1 + zsl h = slots + zsl x.2.2.2 → zWo E x.2.2.2 H1 → va_S (zA E) s.heap H1 locs → W p l e R s m args below meth c H1 locs c1 s1 Q (F0 m x.1 ls' (x.2.2.1.map (zcv E)))) : W p l e R s m args below meth c H locs cells slots Q (F0 m pc ls' (st.map (zcv E))) := by
  obtain ⟨hx, hb, hml, hown, hinit, hts, hSt, hfr, hlo⟩ := Cx
  unfold zmka at hz
  split at hz
  · rename_i n st'
    split at hz
    · rename_i hc
      obtain ⟨hn, hN, hlen⟩ := hc
      cases hz
      have e1 : (zmk h (51, n.toNatClampNeg)).2.2.length = h.2.2.length + 1 := by unfold zmk; simp
      have e2 : zsl (zmk h (51, n.toNatClampNeg)) = zsl h + n.toNatClampNeg := by unfold zsl zmk; simp
      dsimp only at hc1 hs1 hgo
      rw [e1] at hc1
      rw [e2] at hs1
      have hcl : (Cond.classLink (zcn (zown y)) ix (FieldType.array .int).toString).before args s = true := by
        have h9 := zAok _ (zacl_spec hnw)
        unfold zAw at h9
        rw [if_pos rfl] at h9
        exact hts _ (zTB_in h9 rfl)
      refine W.anewA hx hb hown hcl (zAOA.use hSt.2.2.2.2.2.2.2.2.2.2.2.2.1) rfl hdec rfl hn (by omega) (by omega) (by omega) (fun cA kA comp f1 f2 f3 f4 => ?_)
      have hcA : cA = zeC E 4 := Option.some.inj (f1.symm.trans (hSt.1.2 4 _ rfl).2)
      subst hcA
      generalize hH1 : H.push ({ cls := zeC E 4, slots := Array.replicate n.toNatClampNeg .null, vm := .none } : Cell) = H1
      have z1 : H1.size = H.size + 1 := by rw [← hH1, Array.size_push]
      have g1 : H1[H.size]? = some (arrV (zeC E 4) n.toNatClampNeg (fun _ => .null)) := by rw [← hH1, Array.getElem?_push_size, ← arrV_new]
      have o1 : ∀ q : Nat, q < H.size → H1[q]? = H[q]? := fun q hq => by rw [← hH1, Array.getElem?_push, if_neg (Nat.ne_of_lt hq)]
      have hW2 : zWo E (zmk h (51, n.toNatClampNeg)) H1 := by
        refine zWo_push hWo rfl zmk_1 zmk_2 hlen z1 o1 ?_
        rw [zel_r (t := 4) rfl (by decide)]
        show H1[H.size]? = some (vp_cell (zeC E 4) (n.toNatClampNeg, .inr (.inr (.inr (.inr fun j => ((zmk h (51, n.toNatClampNeg)).2.1 h.2.2.length j).map (zad E))))))
        rw [g1, vp_cell_q]
        unfold zmk
        dsimp only
        rw [zw_self]
        rfl
      have hfin := hgo H1 (cells + 1) (slots + n.toNatClampNeg) rfl (by rw [e1]; omega) (by rw [e2]; omega) hW2 (zS_push hS z1 o1)
      have hst : (Value.ref h.2.2.length :: st').map (zcv E) = .ref H.size :: st'.map (zcv E) := by
        rw [← zad_new hWo hlen]; rfl
      rw [hst] at hfin
      exact hfin
    · cases hz
  · cases hz
theorem zs_mko {E : ZE} {d y pc ix : Nat} {ls' : Array Slot} {ls : List Slot} {st : List Value} {h : ZH} {x : Nat × List Slot × List Value × ZH} (Cx : zCx E d y p R s m args meth c) (hdec : decode (zcode y) pc = .ok (.new ix, 3)) (hz : zmko y ix pc ls st h = some (.inl x)) (hWo : zWo E h H) (hS : va_S (zA E) s.heap H locs)
    (hc1 : cells + x.2.2.2.2.2.length ≤ R.cells + h.2.2.length) (hs1 : slots + zsl x.2.2.2 ≤ R.slots + zsl h)
    (hgo : ∀ (H1 : Heap) (c1 s1 : Nat), x.2.1 = ls → c1 + h.2.2.length = cells + x.2.2.2.2.2.length → s1 + zsl h = slots + zsl x.2.2.2 → zWo E x.2.2.2 H1 → va_S (zA E) s.heap H1 locs → W p l e R s m args below meth c H1 locs c1 s1 Q (F0 m x.1 ls' (x.2.2.1.map (zcv E)))) : W p l e R s m args below meth c H locs cells slots Q (F0 m pc ls' (st.map (zcv E))) := by
  obtain ⟨hx, hb, hml, hown, hinit, hts, hSt, hfr, hlo⟩ := Cx
  unfold zmko at hz
  split at hz
  · rename_i c0 hnw
    split at hz
    · rename_i hc
      obtain ⟨hc0, hlen⟩ := hc
      rw [zCL_len] at hc0
      cases hz
      have e1 : (zmk h (3 + c0, zN c0)).2.2.length = h.2.2.length + 1 := by unfold zmk; simp
      have e2 : zsl (zmk h (3 + c0, zN c0)) = zsl h + zN c0 := by unfold zsl zmk; simp
      dsimp only at hc1 hs1 hgo
      rw [e1] at hc1
      rw [e2] at hs1
      have hcl : (Cond.classLink (zcn (zown y)) ix (zcn c0)).before args s = true := hts _ (zTB_in (zNok _ (znew_spec hnw)) rfl)
      have hin : (Cond.instantiable (zcn c0) (zN c0)).before args s = true := hts _ (zTB_in (zci c0 (List.mem_range.mpr hc0)) rfl)
      have hini : (Cond.initialized (zcn c0)).before args s = true := hts _ (zTB_in (zcj c0 (List.mem_range.mpr hc0)) rfl)
      have hKn := hSt.1.1 c0 _ (zCL_at hc0)
      refine W.newcK hx hb hown hcl hin hini rfl hdec (by omega) (by omega) hKn.2.1 rfl (fun H1 kC hkC g1 g2 g3 => ?_)
      have hus : ∀ w ∈ u_ws (zcn c0) (zT c0) (zN c0), w ∈ zTB := by
        intro w hw
        obtain ⟨j, hj, rfl⟩ := List.mem_map.mp hw
        have h1 := zcw c0 (List.mem_range.mpr hc0) j hj
        exact zTB_in (List.mem_of_getElem? h1) (by unfold u_lay; split <;> rfl)
      have hW2 : zWo E (zmk h (3 + c0, zN c0)) H1 := by
        refine zWo_push hWo rfl zmk_1 zmk_2 hlen g2 g3 ?_
        have hel : zel E (zmk h (3 + c0, zN c0)) h.2.2.length (3 + c0, zN c0) = .inr (c0, (List.range (zN c0)).map (zfv E (zmk h (3 + c0, zN c0)) h.2.2.length c0)) := by
          rw [show 3 + c0 = c0 + 3 from Nat.add_comm 3 c0]
          exact zel_o hc0
        rw [hel]
        refine ⟨_, zCL_at hc0, (u_born (fun k => match parseFieldDescriptor (zT c0 k).2.2.1 with | some t => t | none => .int) hts hus hKn hkC g1 (fun k hk => ?_)).to (fun k hk => ?_)⟩
        · have ht := (zct c0 (List.mem_range.mpr hc0) k (List.mem_range.mpr hk)).1
          rw [ht]
        · obtain ⟨ht1, ht2, -, -⟩ := zct c0 (List.mem_range.mpr hc0) k (List.mem_range.mpr hk)
          have hf := (zct c0 (List.mem_range.mpr hc0) k (List.mem_range.mpr hk)).2.2.2
          have e3 : vp_V ((List.range (zN c0)).map (zfv E (zmk h (3 + c0, zN c0)) h.2.2.length c0)) k = zfv E (zmk h (3 + c0, zN c0)) h.2.2.length c0 k := by
            unfold vp_V
            rw [List.getD_eq_getElem?_getD, zget_list hk]
            rfl
          rw [e3]
          unfold zfv zmk
          dsimp only
          rw [zw_self, zw_self]
          rcases hf with h0 | h1 | h2 | h3
          · rw [if_pos h0] at ht1
            rw [ht1, if_neg (by omega)]
            rfl
          · rw [if_neg (by omega), if_pos h1] at ht1
            rw [ht1, if_neg (by omega)]
            rfl
          · rw [if_pos h2]
            have := ht2 h2
            cases hp : parseFieldDescriptor (zT c0 k).2.2.1 with
            | none => rw [hp] at this; cases this
            | some t =>
              rw [hp] at this
              cases t <;> first | rfl | (exact absurd this (by decide))
          · rw [if_neg (by omega), if_neg (by omega), if_pos h3] at ht1
            rw [ht1, if_neg (by omega)]
            rfl
      have hfin := hgo H1 (cells + 1) (slots + zN c0) rfl (by rw [e1]; omega) (by rw [e2]; omega) hW2 (zS_push hS g2 g3)
      have hst : (Value.ref h.2.2.length :: st).map (zcv E) = .ref H.size :: st.map (zcv E) := by
        rw [← zad_new hWo hlen]; rfl
      rw [hst] at hfin
      exact hfin
    · cases hz
  · cases hz
theorem zs_cpy {E : ZE} {d y pc ix : Nat} {ls' : Array Slot} {ls : List Slot} {st : List Value} {h : ZH} {x : Nat × List Slot × List Value × ZH} (Cx : zCx E d y p R s m args meth c) (hlsz : ls'.size = zml y) (hres : zres (zown y) ix = some 1000) (hdec : decode (zcode y) pc = .ok (.invokestatic ix, 3)) (hz : zcpy pc ls st h = some (.inl x)) (hWo : zWo E h H) (hS : va_S (zA E) s.heap H locs)
    (hgo : ∀ (H1 : Heap) (locs1 : List Loc), x.2.1 = ls → x.2.2.2.2.2 = h.2.2 → zWo E x.2.2.2 H1 → va_S (zA E) s.heap H1 locs1 → W p l e R s m args below meth c H1 locs1 cells slots Q (F0 m x.1 ls' (x.2.2.1.map (zcv E)))) : W p l e R s m args below meth c H locs cells slots Q (F0 m pc ls' (st.map (zcv E))) := by
  obtain ⟨hx, hb, hml, hown, hinit, hts, hSt, hfr, hlo⟩ := Cx
  have hO := hSt.2.2.2.2.2.2.2.2.2.1
  unfold zcpy at hz
  split at hz
  · rename_i n dp a sp b st'
    obtain ⟨nest, hin⟩ := zres_spec hres
    have hlinkw := zMok _ hin
    have hnest : nest = false := by
      cases nest with
      | false => rfl
      | true => exact absurd rfl (zMnn _ hin (show (152 : Nat) ≤ 1000 by decide))
    subst hnest
    unfold zMw at hlinkw
    simp only [Bool.false_eq_true, if_false] at hlinkw
    have hcal : zcal 1000 = arraycopyName := by unfold zcal; rw [if_pos rfl]
    rw [hcal] at hlinkw
    have hlink := hts _ (zTB_in hlinkw rfl)
    have h7 : nativeFrameWords "java/lang/System" "arraycopy" 5 = 7 := by decide
    split at hz
    · rename_i hbm
      split at hz
      · rename_i qb qa hqb hqa
        split at hz
        · rename_i hc
          obtain ⟨hk, h1, h2, h3, h4, h5, h6⟩ := hc
          cases hz
          obtain ⟨qb1, qb2⟩ := qb
          obtain ⟨qa1, qa2⟩ := qa
          dsimp only at hk h4 h5
          have hgb := zWs_get (E := E) hqb
          rw [← zsh_lt hWo hqb] at hgb
          have hga := zWs_get (E := E) hqa
          rw [← zsh_lt hWo hqa] at hga
          have hsum : ((st'.map (zcv E)).map fun v => v.category).sum ≤ 8 := by rw [zcv_cats hO]; exact Nat.le_of_ble_eq_true h6
          have fin : ∀ (t : Nat) (H1 : Heap) (locs1 : List Loc), zak qa1 = some t → (t = 0 ∨ t = 1 ∨ t = 3) → H1.size = H.size → va_P (zeD E) zCL ((zWs E h).set a (zad E a, .inl (zeC E t, qa2, .inl (va_cpy (h.1 b) (h.1 a) sp.toNatClampNeg dp.toNatClampNeg n.toNatClampNeg)))) H1 → va_S (zA E) s.heap H1 locs1 → W p l e R s m args below meth c H1 locs1 cells slots Q (F0 m (pc + 3) ls' (st'.map (zcv E))) := by
            intro t H1 locs1 ht1 ht2 hz hP hS1
            refine hgo H1 locs1 rfl rfl (zWo_set hWo hqa rfl (fun a ha => zw_ne _ _ ha) (fun a ha => rfl) hz ?_) hS1
            rw [← zsh_lt hWo hqa, zel_i ht1 ht2]
            dsimp only
            rw [zw_self]
            exact hP
          rcases hk with ⟨rfl, rfl⟩ | ⟨rfl, rfl, hfit⟩
          · exact zp_copy hx hb (hml.trans hlsz.symm) hown hlink (hts _ (zTB_in zw_acn rfl)) (hts _ (zTB_in zw_acs rfl)) (hts _ (zTB_in zw_aci rfl)) hSt.1 hWo.2.1 (zWs_D E h) hS b a 0 hgb hga rfl (Or.inl rfl) h1 h2 h3 h4 h5 (fun _ _ => rfl) (by omega) (by rw [h7]; omega) hdec (fun H1 locs1 hz hP hS1 => fin 0 H1 locs1 rfl (by decide) hz hP hS1)
          · exact zp_copy hx hb (hml.trans hlsz.symm) hown hlink (hts _ (zTB_in zw_acn rfl)) (hts _ (zTB_in zw_acs rfl)) (hts _ (zTB_in zw_aci rfl)) hSt.1 hWo.2.1 (zWs_D E h) hS b a 3 hgb hga rfl (Or.inr rfl) h1 h2 h3 h4 h5 (fun i hi => zft_fit (List.all_eq_true.mp hfit i (List.mem_range.mpr hi))) (by omega) (by rw [h7]; omega) hdec (fun H1 locs1 hz hP hS1 => fin 3 H1 locs1 rfl (by decide) hz hP hS1)
        · cases hz
      · cases hz
    · split at hz
      · rename_i hbx
        split at hz
        · rename_i qa hqa
          split at hz
          · rename_i hc
            obtain ⟨ha1, h1, h2, h3, h4, h5, h6⟩ := hc
            cases hz
            obtain ⟨qa1, qa2⟩ := qa
            dsimp only at ha1 h5
            subst ha1
            have hga := zWs_get (E := E) hqa
            rw [← zsh_lt hWo hqa] at hga
            have hsum : ((st'.map (zcv E)).map fun v => v.category).sum ≤ 8 := by rw [zcv_cats hO]; exact Nat.le_of_ble_eq_true h6
            have hbB : b < 3000000 + zBY.length := by
              have h9 := hbx.2
              rw [zSR_len] at h9
              rw [zBY_len]
              exact Nat.lt_of_lt_of_le h9 (by decide)
            obtain ⟨e1, e2⟩ := zad_byt (E := E) hbx.1 hbB
            have hT := zbyT hSt e2
            show W p l e R s m args below meth c H locs cells slots Q (F0 m pc ls' (.int n :: .int dp :: .ref (zad E a) :: .int sp :: .ref (zad E b) :: st'.map (zcv E)))
            rw [e1]
            refine zp_copyt hx hb (hml.trans hlsz.symm) hown hlink (hts _ (zTB_in zw_acn rfl)) (hts _ (zTB_in zw_acs rfl)) (hts _ (zTB_in zw_aci rfl)) hSt.1 hWo.2.1 (zWs_D E h) hS a 3 hT hga rfl h1 h2 h3 h4 h5 (fun i hi => zBY_fit e2 (by omega)) (by omega) (by rw [h7]; omega) hdec (fun H1 locs1 hz hP hS1 => ?_)
            refine hgo H1 locs1 rfl rfl (zWo_set hWo hqa rfl (fun a ha => zw_ne _ _ ha) (fun a ha => rfl) hz ?_) hS1
            rw [← zsh_lt hWo hqa, zel_i (t := 3) rfl (by decide)]
            dsimp only
            rw [zw_self]
            exact hP
          · cases hz
        · cases hz
      · cases hz
  · cases hz
/-- an array is made again -/
theorem zs_clone {E : ZE} {kd d y pc ix : Nat} {ls' : Array Slot} {ls : List Slot} {st : List Value} {h : ZH} {x : Nat × List Slot × List Value × ZH} (Cx : zCx E d y p R s m args meth c) (hlsz : ls'.size = zml y) (hkd : (kd = 0 ∧ zres (zown y) ix = some 1004) ∨ (kd = 50 ∧ zres (zown y) ix = some 1005)) (hdec : decode (zcode y) pc = .ok (.invokevirtual ix, 3)) (hz : zclone kd pc ls st h = some (.inl x)) (hWo : zWo E h H) (hS : va_S (zA E) s.heap H locs)
    (hc1 : cells + x.2.2.2.2.2.length ≤ R.cells + h.2.2.length) (hs1 : slots + zsl x.2.2.2 ≤ R.slots + zsl h)
    (hgo : ∀ (H1 : Heap) (c1 s1 : Nat), x.2.1 = ls → c1 + h.2.2.length = cells + x.2.2.2.2.2.length → s1 + zsl h = slots + zsl x.2.2.2 → zWo E x.2.2.2 H1 → va_S (zA E) s.heap H1 locs → W p l e R s m args below meth c H1 locs c1 s1 Q (F0 m x.1 ls' (x.2.2.1.map (zcv E)))) : W p l e R s m args below meth c H locs cells slots Q (F0 m pc ls' (st.map (zcv E))) := by
  obtain ⟨hx, hb, hml, hown, hinit, hts, hSt, hfr, hlo⟩ := Cx
  have hO := hSt.2.2.2.2.2.2.2.2.2.1
  unfold zclone at hz
  split at hz
  · rename_i o st'
    split at hz
    · rename_i q hq
      split at hz
      · rename_i hc
        obtain ⟨hq1, h6, hlen, hfit⟩ := hc
        cases hz
        obtain ⟨q1, q2⟩ := q
        dsimp only at hq1 hfit hc1 hs1 hgo
        subst hq1
        have e1 : (zcln q1 h o q2).2.2.length = h.2.2.length + 1 := by unfold zcln; simp
        have e2 : zsl (zcln q1 h o q2) = zsl h + q2 := by unfold zsl zcln; simp
        rw [e1] at hc1
        rw [e2] at hs1
        have hg := zWs_get (E := E) hq
        rw [← zsh_lt hWo hq] at hg
        have hsum : ((st'.map (zcv E)).map fun v => v.category).sum ≤ 8 := by rw [zcv_cats hO]; exact Nat.le_of_ble_eq_true h6
        have hst : (Value.ref h.2.2.length :: st').map (zcv E) = .ref H.size :: st'.map (zcv E) := by
          rw [← zad_new hWo hlen]; rfl
        have fin : ∀ (t : Nat) (H1 : Heap), zak q1 = some t → (t = 0 ∨ t = 1 ∨ t = 3) → H1.size = H.size + 1 → (∀ q : Nat, q < H.size → H1[q]? = H[q]?) → H1[H.size]? = some (vp_cell (zeC E t) (q2, .inl (h.1 o))) → W p l e R s m args below meth c H1 locs (cells + 1) (slots + q2) Q (F0 m (pc + 3) ls' (.ref H.size :: st'.map (zcv E))) := by
          intro t H1 ht1 ht2 z1 o1 g1
          have hW2 : zWo E (zcln q1 h o q2) H1 := by
            refine zWo_push hWo rfl zcln_1 zcln_2 hlen z1 o1 ?_
            rw [zel_i ht1 ht2]
            show H1[H.size]? = some (vp_cell (zeC E t) (q2, .inl ((zcln q1 h o q2).1 h.2.2.length)))
            rw [g1]
            unfold zcln
            dsimp only
            rw [zw_self]
          have hfin := hgo H1 (cells + 1) (slots + q2) rfl (by rw [e1]; omega) (by rw [e2]; omega) hW2 (zS_push hS z1 o1)
          rw [hst] at hfin
          exact hfin
        rcases hkd with ⟨rfl, hres⟩ | ⟨rfl, hres⟩
        · obtain ⟨nest, hin⟩ := zres_spec hres
          have hlinkw := zMok _ hin
          have hnest : nest = false := by
            cases nest with
            | false => rfl
            | true => exact absurd rfl (zMnn _ hin (show (152 : Nat) ≤ 1004 by decide))
          subst hnest
          unfold zMw at hlinkw
          simp only [Bool.false_eq_true, if_false] at hlinkw
          rw [show zcal 1004 = ⟨"[I", "clone", "()Ljava/lang/Object;"⟩ by unfold zcal; rfl] at hlinkw
          exact zp_clone hx hb (hml.trans hlsz.symm) hown (hts _ (zTB_in hlinkw rfl)) (hts _ (zTB_in zw_csI rfl)) (hts _ (zTB_in zw_cln rfl)) (hts _ (zTB_in zw_cli rfl)) (hts _ (zTB_in zw_cqI rfl)) (hSt.2.2.2.2.2.2.2.2.1 _ zw_ccI rfl) hSt.1 hWo.2.1 o 0 hg rfl (hSt.1.2 0 _ rfl).2 (fun _ _ => rfl) (by omega) (by omega) (by omega) (by omega) hdec (fun H1 z1 o1 g1 => fin 0 H1 rfl (by decide) z1 o1 g1)
        · obtain ⟨nest, hin⟩ := zres_spec hres
          have hlinkw := zMok _ hin
          have hnest : nest = false := by
            cases nest with
            | false => rfl
            | true => exact absurd rfl (zMnn _ hin (show (152 : Nat) ≤ 1005 by decide))
          subst hnest
          unfold zMw at hlinkw
          simp only [Bool.false_eq_true, if_false] at hlinkw
          rw [show zcal 1005 = ⟨"[B", "clone", "()Ljava/lang/Object;"⟩ by unfold zcal; rfl] at hlinkw
          have hft : ∀ i, i < q2 → fits .byte (.int (h.1 o i)) = true := by
            rcases hfit with h0 | ⟨-, hfit⟩
            · exact absurd h0 (by decide)
            · exact fun i hi => zft_fit (List.all_eq_true.mp hfit i (List.mem_range.mpr hi))
          exact zp_clone hx hb (hml.trans hlsz.symm) hown (hts _ (zTB_in hlinkw rfl)) (hts _ (zTB_in zw_csB rfl)) (hts _ (zTB_in zw_cln rfl)) (hts _ (zTB_in zw_cli rfl)) (hts _ (zTB_in zw_cqB rfl)) (hSt.2.2.2.2.2.2.2.2.1 _ zw_ccB rfl) hSt.1 hWo.2.1 o 3 hg rfl (hSt.1.2 3 _ rfl).2 hft (by omega) (by omega) (by omega) (by omega) hdec (fun H1 z1 o1 g1 => fin 3 H1 rfl (by decide) z1 o1 g1)
      · cases hz
    · cases hz
  · cases hz
end ZSTEP4
