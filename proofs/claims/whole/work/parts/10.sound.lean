theorem zSBmap (k : Nat) : (zSB.map List.length).getD k 0 = (zSB.getD k []).length := by
  rw [List.getD_eq_getElem?_getD, List.getD_eq_getElem?_getD, List.getElem?_map]
  cases zSB[k]? <;> rfl
section ZSTEP3
variable {p : Program} {l : Launch} {e : Env} {R : Room} {s : State} {m : MethodId} {args : Array Value} {below : List Frame} {meth : Method} {c : Code} {H : Heap} {locs : List Loc} {cells slots : Nat} {Q : State → Prop}
theorem zs_ald {E : ZE} {kd d y pc : Nat} {ls' : Array Slot} {ls : List Slot} {st : List Value} {h : ZH} {x : Nat × List Slot × List Value × ZH} (Cx : zCx E d y p R s m args meth c) (hdec : (kd = 0 ∧ decode (zcode y) pc = .ok (.iaload, 1)) ∨ (kd = 1 ∧ decode (zcode y) pc = .ok (.baload, 1)) ∨ (kd = 2 ∧ decode (zcode y) pc = .ok (.aaload, 1))) (hz : zald kd (zeS E) pc ls st h = some (.inl x)) (hWo : zWo E h H) (hS : va_S (zA E) s.heap H locs)
    (hgo : x.2.1 = ls → x.2.2.2 = h → W p l e R s m args below meth c H locs cells slots Q (F0 m x.1 ls' (x.2.2.1.map (zcv E)))) : W p l e R s m args below meth c H locs cells slots Q (F0 m pc ls' (st.map (zcv E))) := by
  obtain ⟨hx, hb, hml, hown, hinit, hts, hSt, hfr, hlo⟩ := Cx
  unfold zald at hz
  split at hz
  · rename_i i o st'
    split at hz
    · rename_i ho
      split at hz
      · rename_i hc
        obtain ⟨rfl, hin⟩ := hc
        cases hz
        subst ho
        have hgo := hgo rfl rfl
        rcases hdec with ⟨-, hdec⟩ | ⟨h0, -⟩ | ⟨h0, -⟩
        · have hbl : zeX E < s.heap.size := by
            obtain ⟨scr, b1, -⟩ := hSt.2.1
            exact (Array.getElem?_eq_some_iff.mp b1).1
          have eX : zad E 1000000 = zeX E := by unfold zad; rw [if_neg (by decide), if_pos rfl]
          show W p l e R s m args below meth c H locs cells slots Q (F0 m pc ls' (.int i :: .ref (zad E 1000000) :: st'.map (zcv E)))
          rw [eX]
          exact va_sld hx hb hSt.2.1 hbl (Nat.not_le.mpr hSt.2.2.1) hS hin hdec hgo
        · omega
        · omega
      · cases hz
    · split at hz
      · rename_i hom
        split at hz
        · rename_i q hq
          split at hz
          · rename_i hc
            obtain ⟨hq1, hin⟩ := hc
            cases hz
            have hgo := hgo rfl rfl
            obtain ⟨q1, q2⟩ := q
            dsimp only at hq1
            subst hq1
            have hg := zWs_get (E := E) hq
            rw [← zsh_lt hWo hq] at hg
            rcases hdec with ⟨rfl, hdec⟩ | ⟨rfl, hdec⟩ | ⟨rfl, hdec⟩
            · exact va_iald hx hb hSt.1 hWo.2.1 o 0 hg rfl hin hdec hgo
            · exact va_zald hx hb hSt.1 hWo.2.1 o 1 hg rfl hin hdec hgo
            · refine va_aldq hx hb hSt.1 hWo.2.1 o 2 hg rfl hin hdec ?_
              rw [if_pos rfl, List.map_cons, zcv_rf] at hgo
              exact hgo
          · cases hz
        · cases hz
      · split at hz
        · rename_i hc
          obtain ⟨rfl, h3, h4, hin⟩ := hc
          cases hz
          have hgo := hgo rfl rfl
          rcases hdec with ⟨h0, -⟩ | ⟨-, hdec⟩ | ⟨h0, -⟩
          · omega
          · obtain ⟨e1, e2⟩ := zad_byt (E := E) h3 h4
            obtain ⟨-, -, -, hT⟩ := hSt.2.2.2.1.1 (o - 3000000) e2
            show W p l e R s m args below meth c H locs cells slots Q (F0 m pc ls' (.int i :: .ref (zad E o) :: st'.map (zcv E)))
            rw [e1]
            exact va_tb hx hb hT hS (by rw [zSBmap]; exact hin) rfl hdec hgo
          · omega
        · cases hz
  · cases hz
theorem zs_len {E : ZE} {d y pc : Nat} {ls' : Array Slot} {ls : List Slot} {st : List Value} {h : ZH} {x : Nat × List Slot × List Value × ZH} (Cx : zCx E d y p R s m args meth c) (hdec : decode (zcode y) pc = .ok (.arraylength, 1)) (hz : zlen (zeS E) pc ls st h = some (.inl x)) (hWo : zWo E h H) (hS : va_S (zA E) s.heap H locs)
    (hgo : x.2.1 = ls → x.2.2.2 = h → W p l e R s m args below meth c H locs cells slots Q (F0 m x.1 ls' (x.2.2.1.map (zcv E)))) : W p l e R s m args below meth c H locs cells slots Q (F0 m pc ls' (st.map (zcv E))) := by
  obtain ⟨hx, hb, hml, hown, hinit, hts, hSt, hfr, hlo⟩ := Cx
  unfold zlen at hz
  split at hz
  · rename_i o st'
    split at hz
    · rename_i ho
      cases hz
      subst ho
      have hgo := hgo rfl rfl
      have hbl : zeX E < s.heap.size := by
        obtain ⟨scr, b1, -⟩ := hSt.2.1
        exact (Array.getElem?_eq_some_iff.mp b1).1
      have eX : zad E 1000000 = zeX E := by unfold zad; rw [if_neg (by decide), if_pos rfl]
      show W p l e R s m args below meth c H locs cells slots Q (F0 m pc ls' (.ref (zad E 1000000) :: st'.map (zcv E)))
      rw [eX]
      exact va_slen hx hb hSt.2.1 hbl (Nat.not_le.mpr hSt.2.2.1) hS hdec hgo
    · split at hz
      · rename_i hom
        split at hz
        · rename_i q hq
          split at hz
          · rename_i hc
            cases hz
            have hgo := hgo rfl rfl
            obtain ⟨q1, q2⟩ := q
            dsimp only at hc
            have hg := zWs_get (E := E) hq
            rw [← zsh_lt hWo hq] at hg
            rcases (by omega : q1 = 0 ∨ q1 = 1 ∨ q1 = 2) with rfl | rfl | rfl
            · exact va_alen hx hb hSt.1 hWo.2.1 o 0 hg rfl rfl hdec hgo
            · exact va_alen hx hb hSt.1 hWo.2.1 o 1 hg rfl rfl hdec hgo
            · exact va_alen hx hb hSt.1 hWo.2.1 o 2 hg rfl rfl hdec hgo
          · cases hz
        · cases hz
      · split at hz
        · rename_i hc
          cases hz
          have hgo := hgo rfl rfl
          obtain ⟨e1, e2⟩ := zad_byt (E := E) hc.1 hc.2
          obtain ⟨-, -, -, hT⟩ := hSt.2.2.2.1.1 (o - 3000000) e2
          show W p l e R s m args below meth c H locs cells slots Q (F0 m pc ls' (.ref (zad E o) :: st'.map (zcv E)))
          rw [e1]
          exact va_tlen hx hb hT hS (by rw [zSBmap]) hdec hgo
        · cases hz
  · cases hz
theorem zs_ast {E : ZE} {kd d y pc : Nat} {ls' : Array Slot} {ls : List Slot} {st : List Value} {h : ZH} {x : Nat × List Slot × List Value × ZH} (Cx : zCx E d y p R s m args meth c) (hdec : (kd = 0 ∧ decode (zcode y) pc = .ok (.iastore, 1)) ∨ (kd = 1 ∧ decode (zcode y) pc = .ok (.bastore, 1)) ∨ (kd = 2 ∧ decode (zcode y) pc = .ok (.aastore, 1))) (hz : zast kd pc ls st h = some (.inl x)) (hWo : zWo E h H) (hS : va_S (zA E) s.heap H locs)
    (hgo : ∀ (H1 : Heap) (locs1 : List Loc), x.2.1 = ls → x.2.2.2.2.2 = h.2.2 → zWo E x.2.2.2 H1 → va_S (zA E) s.heap H1 locs1 → W p l e R s m args below meth c H1 locs1 cells slots Q (F0 m x.1 ls' (x.2.2.1.map (zcv E)))) : W p l e R s m args below meth c H locs cells slots Q (F0 m pc ls' (st.map (zcv E))) := by
  obtain ⟨hx, hb, hml, hown, hinit, hts, hSt, hfr, hlo⟩ := Cx
  unfold zast at hz
  split at hz
  · rename_i x0 i o st'
    split at hz
    · rename_i q hq
      split at hz
      · rename_i hc
        obtain ⟨hq1, hkd, hin⟩ := hc
        cases hz
        obtain ⟨q1, q2⟩ := q
        dsimp only at hq1
        subst hq1
        have hg := zWs_get (E := E) hq
        rw [← zsh_lt hWo hq] at hg
        have fin : ∀ (xv : Int32) (H1 : Heap) (locs1 : List Loc), xv = (if q1 = 1 then vp_nar .boolean x0 else x0) → H1.size = H.size → va_P (zeD E) zCL ((zWs E h).set o (zad E o, .inl (zeC E q1, q2, .inl (upd (h.1 o) i.toNatClampNeg xv)))) H1 → va_S (zA E) s.heap H1 locs1 → W p l e R s m args below meth c H1 locs1 cells slots Q (F0 m (pc + 1) ls' (st'.map (zcv E))) := by
          intro xv H1 locs1 hxv hz hP hS1
          subst hxv
          refine hgo H1 locs1 rfl rfl (zWo_set hWo hq rfl (fun a ha => zw_ne _ _ ha) (fun a ha => rfl) hz ?_) hS1
          rw [← zsh_lt hWo hq]
          have e : zel E (zw h.1 o (upd (h.1 o) i.toNatClampNeg (if q1 = 1 then vp_nar .boolean x0 else x0)), h.2) o (q1, q2) = .inl (zeC E q1, q2, .inl (upd (h.1 o) i.toNatClampNeg (if q1 = 1 then vp_nar .boolean x0 else x0))) := by
            rcases (by omega : q1 = 0 ∨ q1 = 1) with rfl | rfl
            · unfold zel; dsimp only; rw [zw_self]
            · unfold zel; dsimp only; rw [zw_self]
          rw [e]
          exact hP
        rcases hdec with ⟨rfl, hdec⟩ | ⟨rfl, hdec⟩ | ⟨rfl, hdec⟩
        · exact zp_iast hx hb hSt.1 hWo.2.1 (zWs_D E h) hS o 0 hg rfl hin hdec (fun H1 locs1 hz hP hS1 => fin _ H1 locs1 rfl hz hP hS1)
        · exact zp_zast hx hb hSt.1 hWo.2.1 (zWs_D E h) hS o 1 hg rfl hin hdec (fun H1 locs1 hz hP hS1 => fin _ H1 locs1 rfl hz hP hS1)
        · omega
      · cases hz
    · cases hz
  · rename_i v i o st'
    split at hz
    · rename_i q qv hq hqv
      split at hz
      · rename_i hc
        obtain ⟨hq1, hkd, hqv1, hin⟩ := hc
        cases hz
        obtain ⟨q1, q2⟩ := q
        obtain ⟨v1, v2⟩ := qv
        dsimp only at hq1 hqv1
        subst hq1
        subst hqv1
        have hg := zWs_get (E := E) hq
        rw [← zsh_lt hWo hq] at hg
        have hgv := zWs_get (E := E) hqv
        rw [← zsh_lt hWo hqv] at hgv
        rcases hdec with ⟨h0, -⟩ | ⟨h0, -⟩ | ⟨-, hdec⟩
        · omega
        · omega
        · refine zp_aast (r := (zcn 2, zT 2, zN 2)) hx hb hSt.1 hWo.2.1 (zWs_D E h) hS o 2 v 2 hg rfl hgv (zCL_at (by decide)) hin hdec (fun H1 locs1 hz hP hS1 => ?_)
          refine hgo H1 locs1 rfl rfl (zWo_set hWo hq rfl (fun a ha => rfl) (fun a ha => zw_ne _ _ ha) hz ?_) hS1
          rw [← zsh_lt hWo hq]
          have e : zel E (h.1, zw h.2.1 o (zw (h.2.1 o) i.toNatClampNeg (some v)), h.2.2) o (2, q2) = .inl (zeC E 2, q2, .inr (.inr (.inr (.inr (va_up (fun j => (h.2.1 o j).map (zad E)) i.toNatClampNeg (some (zad E v))))))) := by
            unfold zel; dsimp only; rw [zw_self]
            congr 7
            funext j
            unfold va_up zw
            split <;> rfl
          rw [e]
          exact hP
      · cases hz
    · cases hz
  · cases hz
end ZSTEP3
