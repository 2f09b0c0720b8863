theorem zopk0 {kd : Nat} (h : zopk 0 kd = true) : kd = 0 := by simpa [zopk] using h
theorem zopk1 {kd : Nat} (h : zopk 1 kd = true) : kd = 1 ∨ kd = 50 := by simpa [zopk] using h
theorem zopk2 {kd : Nat} (h : zopk 2 kd = true) : kd = 2 ∨ kd = 51 ∨ kd = 52 := by simpa [zopk, or_assoc] using h
theorem zarr_spec {kd : Nat} (h : zarr kd = true) : kd = 0 ∨ kd = 1 ∨ kd = 2 ∨ kd = 50 ∨ kd = 51 ∨ kd = 52 := by
  simp [zarr, Nat.blt_eq] at h
  omega
section ZSTEP3
variable {p : Program} {l : Launch} {e : Env} {R : Room} {s : State} {m : MethodId} {args : Array Value} {below : List Frame} {meth : Method} {c : Code} {H : Heap} {locs : List Loc} {cells slots : Nat} {Q : State → Prop}
theorem zp_aldA {cc : ByteArray} {pc : Nat} {ls : Array Slot} {rest : List Value} {D : va_G} {cl : List vw_C} {a : Nat} {tys : List (ClassId × FieldType)} {ws : va_W} (hexec : p.tables.exec = Jvm.exec) (hb : c.code = cc) (hK : va_K D cl tys s) (hP : va_P D cl ws H) (q0 t0 : Nat) {cA : ClassId} {ty : FieldType} (hty : ty.isReference = true) {n : Nat} {f : Nat → Option Nat} (ha : ws[q0]? = some (a, .inl (cA, n, .inr (.inr (.inr (.inr f)))))) (ht : tys[t0]? = some (cA, ty)) {i : Int32} (hin : vp_in i n) (hdg : decode cc pc = .ok (.aaload, 1))
    (kk : W p l e R s m args below meth c H locs cells slots Q (F0 m (pc + 1) ls (va_rf (f i.toNatClampNeg) :: rest))) : W p l e R s m args below meth c H locs cells slots Q (F0 m pc ls (.int i :: .ref a :: rest)) := by
  have hlt : i.toNatClampNeg < n := Nat.not_le.mp fun q => hin (Or.inr q)
  exact W.aald (v := va_rf (f i.toNatClampNeg)) (ty := ty) hexec hb (hP q0 _ ha) ((hK.2 t0 _ ht).1 n (fun j => va_rf (f j))) hty (fun q => by cases q) (by show ¬ (i < 0 ∨ (arrV _ _ _).slots.size ≤ _); rw [arrV_size]; exact hin) (by show (arrV _ _ _).slots[_]? = _; rw [arrV_read _ _ hlt]) rfl rfl hdg kk
theorem zs_ald {E : ZE} {op d y pc : Nat} {ls' : Array Slot} {ls : List Slot} {st : List Value} {h : ZH} {x : Nat × List Slot × List Value × ZH} (Cx : zCx E d y p R s m args meth c) (hdec : (op = 0 ∧ decode (zcode y) pc = .ok (.iaload, 1)) ∨ (op = 1 ∧ decode (zcode y) pc = .ok (.baload, 1)) ∨ (op = 2 ∧ decode (zcode y) pc = .ok (.aaload, 1))) (hz : zald op (zeS E) pc ls st h = some (.inl x)) (hWo : zWo E h H) (hS : va_S (zA E) s.heap H locs)
    (hgo : x.2.1 = ls → x.2.2.2 = h → W p l e R s m args below meth c H locs cells slots Q (F0 m x.1 ls' (x.2.2.1.map (zcv E)))) : W p l e R s m args below meth c H locs cells slots Q (F0 m pc ls' (st.map (zcv E))) := by
  obtain ⟨hx, hb, hml, hown, hinit, hts, hSt, hfr, hlo⟩ := Cx
  unfold zald at hz
  split at hz
  · rename_i i o st'
    split at hz
    · rename_i ho
      split at hz
      · rename_i hc
        obtain ⟨rfl, hin⟩ := hc
        cases hz
        subst ho
        have hgo := hgo rfl rfl
        rcases hdec with ⟨-, hdec⟩ | ⟨h0, -⟩ | ⟨h0, -⟩
        · have hbl : zeX E < s.heap.size := by
            obtain ⟨scr, b1, -⟩ := hSt.2.1
            exact (Array.getElem?_eq_some_iff.mp b1).1
          have eX : zad E 1000000 = zeX E := by unfold zad; rw [if_neg (by decide), if_pos rfl]
          show W p l e R s m args below meth c H locs cells slots Q (F0 m pc ls' (.int i :: .ref (zad E 1000000) :: st'.map (zcv E)))
          rw [eX]
          exact va_sld hx hb hSt.2.1 hbl (Nat.not_le.mpr hSt.2.2.1) hS hin hdec hgo
        · omega
        · omega
      · cases hz
    · split at hz
      · rename_i hom
        split at hz
        · rename_i q hq
          split at hz
          · rename_i hc
            obtain ⟨hq1, hin⟩ := hc
            cases hz
            have hgo := hgo rfl rfl
            obtain ⟨q1, q2⟩ := q
            dsimp only at hq1 hin
            have hg := zWs_get (E := E) hq
            rw [← zsh_lt hWo hq] at hg
            rcases hdec with ⟨rfl, hdec⟩ | ⟨rfl, hdec⟩ | ⟨rfl, hdec⟩
            · have := zopk0 hq1
              subst this
              exact va_iald hx hb hSt.1 hWo.2.1 o 0 hg rfl hin hdec hgo
            · rcases zopk1 hq1 with rfl | rfl
              · exact va_zald hx hb hSt.1 hWo.2.1 o 1 hg rfl hin hdec hgo
              · exact va_bald hx hb hSt.1 hWo.2.1 o 3 hg rfl hin hdec hgo
            · rw [if_pos rfl, List.map_cons, zcv_rf] at hgo
              rcases zopk2 hq1 with rfl | rfl | rfl
              · exact va_aldq hx hb hSt.1 hWo.2.1 o 2 hg rfl hin hdec hgo
              · exact zp_aldA (ty := .array .int) hx hb hSt.1 hWo.2.1 o 4 rfl hg rfl hin hdec hgo
              · exact va_aldq hx hb hSt.1 hWo.2.1 o 5 hg rfl hin hdec hgo
          · cases hz
        · cases hz
      · split at hz
        · rename_i hc
          obtain ⟨rfl, h3, h4, hin⟩ := hc
          cases hz
          have hgo := hgo rfl rfl
          rcases hdec with ⟨h0, -⟩ | ⟨-, hdec⟩ | ⟨h0, -⟩
          · omega
          · obtain ⟨e1, e2⟩ := zad_byt (E := E) h3 h4
            have hT := zbyT hSt e2
            show W p l e R s m args below meth c H locs cells slots Q (F0 m pc ls' (.int i :: .ref (zad E o) :: st'.map (zcv E)))
            rw [e1]
            exact va_tb hx hb hT hS hin rfl hdec hgo
          · omega
        · cases hz
  · cases hz
theorem zs_len {E : ZE} {d y pc : Nat} {ls' : Array Slot} {ls : List Slot} {st : List Value} {h : ZH} {x : Nat × List Slot × List Value × ZH} (Cx : zCx E d y p R s m args meth c) (hdec : decode (zcode y) pc = .ok (.arraylength, 1)) (hz : zlen (zeS E) pc ls st h = some (.inl x)) (hWo : zWo E h H) (hS : va_S (zA E) s.heap H locs)
    (hgo : x.2.1 = ls → x.2.2.2 = h → W p l e R s m args below meth c H locs cells slots Q (F0 m x.1 ls' (x.2.2.1.map (zcv E)))) : W p l e R s m args below meth c H locs cells slots Q (F0 m pc ls' (st.map (zcv E))) := by
  obtain ⟨hx, hb, hml, hown, hinit, hts, hSt, hfr, hlo⟩ := Cx
  unfold zlen at hz
  split at hz
  · rename_i o st'
    split at hz
    · rename_i ho
      cases hz
      subst ho
      have hgo := hgo rfl rfl
      have hbl : zeX E < s.heap.size := by
        obtain ⟨scr, b1, -⟩ := hSt.2.1
        exact (Array.getElem?_eq_some_iff.mp b1).1
      have eX : zad E 1000000 = zeX E := by unfold zad; rw [if_neg (by decide), if_pos rfl]
      show W p l e R s m args below meth c H locs cells slots Q (F0 m pc ls' (.ref (zad E 1000000) :: st'.map (zcv E)))
      rw [eX]
      exact va_slen hx hb hSt.2.1 hbl (Nat.not_le.mpr hSt.2.2.1) hS hdec hgo
    · split at hz
      · rename_i hom
        split at hz
        · rename_i q hq
          split at hz
          · rename_i hc
            cases hz
            have hgo := hgo rfl rfl
            obtain ⟨q1, q2⟩ := q
            dsimp only at hc
            have hg := zWs_get (E := E) hq
            rw [← zsh_lt hWo hq] at hg
            rcases zarr_spec hc with rfl | rfl | rfl | rfl | rfl | rfl
            · exact va_alen hx hb hSt.1 hWo.2.1 o 0 hg rfl rfl hdec hgo
            · exact va_alen hx hb hSt.1 hWo.2.1 o 1 hg rfl rfl hdec hgo
            · exact va_alen hx hb hSt.1 hWo.2.1 o 2 hg rfl rfl hdec hgo
            · exact va_alen hx hb hSt.1 hWo.2.1 o 3 hg rfl rfl hdec hgo
            · exact va_alen hx hb hSt.1 hWo.2.1 o 4 hg rfl rfl hdec hgo
            · exact va_alen hx hb hSt.1 hWo.2.1 o 5 hg rfl rfl hdec hgo
          · cases hz
        · cases hz
      · split at hz
        · rename_i hc
          cases hz
          have hgo := hgo rfl rfl
          obtain ⟨e1, e2⟩ := zad_byt (E := E) hc.1 hc.2
          have hT := zbyT hSt e2
          show W p l e R s m args below meth c H locs cells slots Q (F0 m pc ls' (.ref (zad E o) :: st'.map (zcv E)))
          rw [e1]
          exact va_tlen hx hb hT hS rfl hdec hgo
        · cases hz
  · cases hz
theorem zs_ast {E : ZE} {op d y pc : Nat} {ls' : Array Slot} {ls : List Slot} {st : List Value} {h : ZH} {x : Nat × List Slot × List Value × ZH} (Cx : zCx E d y p R s m args meth c) (hdec : (op = 0 ∧ decode (zcode y) pc = .ok (.iastore, 1)) ∨ (op = 1 ∧ decode (zcode y) pc = .ok (.bastore, 1)) ∨ (op = 2 ∧ decode (zcode y) pc = .ok (.aastore, 1))) (hz : zast op pc ls st h = some (.inl x)) (hWo : zWo E h H) (hS : va_S (zA E) s.heap H locs)
    (hgo : ∀ (H1 : Heap) (locs1 : List Loc), x.2.1 = ls → x.2.2.2.2.2 = h.2.2 → zWo E x.2.2.2 H1 → va_S (zA E) s.heap H1 locs1 → W p l e R s m args below meth c H1 locs1 cells slots Q (F0 m x.1 ls' (x.2.2.1.map (zcv E)))) : W p l e R s m args below meth c H locs cells slots Q (F0 m pc ls' (st.map (zcv E))) := by
  obtain ⟨hx, hb, hml, hown, hinit, hts, hSt, hfr, hlo⟩ := Cx
  unfold zast at hz
  split at hz
  · rename_i x0 i o st'
    split at hz
    · rename_i q hq
      split at hz
      · rename_i hc
        obtain ⟨hq1, hkd, hin⟩ := hc
        cases hz
        obtain ⟨q1, q2⟩ := q
        dsimp only at hq1 hin
        have hg := zWs_get (E := E) hq
        rw [← zsh_lt hWo hq] at hg
        have fin : ∀ (t : Nat) (xv : Int32) (H1 : Heap) (locs1 : List Loc), zak q1 = some t → (t = 0 ∨ t = 1 ∨ t = 3) → xv = znw q1 x0 → H1.size = H.size → va_P (zeD E) zCL ((zWs E h).set o (zad E o, .inl (zeC E t, q2, .inl (upd (h.1 o) i.toNatClampNeg xv)))) H1 → va_S (zA E) s.heap H1 locs1 → W p l e R s m args below meth c H1 locs1 cells slots Q (F0 m (pc + 1) ls' (st'.map (zcv E))) := by
          intro t xv H1 locs1 ht1 ht2 hxv hz hP hS1
          subst hxv
          refine hgo H1 locs1 rfl rfl (zWo_set hWo hq rfl (fun a ha => zw_ne _ _ ha) (fun a ha => rfl) hz ?_) hS1
          rw [← zsh_lt hWo hq, zel_i ht1 ht2]
          dsimp only
          rw [zw_self]
          exact hP
        rcases hdec with ⟨rfl, hdec⟩ | ⟨rfl, hdec⟩ | ⟨rfl, hdec⟩
        · have := zopk0 hq1
          subst this
          exact zp_iast hx hb hSt.1 hWo.2.1 (zWs_D E h) hS o 0 hg rfl hin hdec (fun H1 locs1 hz hP hS1 => fin 0 _ H1 locs1 rfl (by decide) rfl hz hP hS1)
        · rcases zopk1 hq1 with rfl | rfl
          · exact zp_zast hx hb hSt.1 hWo.2.1 (zWs_D E h) hS o 1 hg rfl hin hdec (fun H1 locs1 hz hP hS1 => fin 1 _ H1 locs1 rfl (by decide) rfl hz hP hS1)
          · exact zp_bast hx hb hSt.1 hWo.2.1 (zWs_D E h) hS o 3 hg rfl hin hdec (fun H1 locs1 hz hP hS1 => fin 3 _ H1 locs1 rfl (by decide) rfl hz hP hS1)
        · omega
      · cases hz
    · cases hz
  · rename_i v i o st'
    split at hz
    · rename_i q qv hq hqv
      split at hz
      · rename_i hc
        obtain ⟨hq1, hkd, hqv1, hin⟩ := hc
        cases hz
        obtain ⟨q1, q2⟩ := q
        obtain ⟨v1, v2⟩ := qv
        dsimp only at hq1 hqv1 hin
        have hg := zWs_get (E := E) hq
        rw [← zsh_lt hWo hq] at hg
        have hgv := zWs_get (E := E) hqv
        rw [← zsh_lt hWo hqv] at hgv
        have fin : ∀ (t : Nat) (H1 : Heap) (locs1 : List Loc), zak q1 = some t → ¬ (t = 0 ∨ t = 1 ∨ t = 3) → H1.size = H.size → va_P (zeD E) zCL ((zWs E h).set o (zad E o, .inl (zeC E t, q2, .inr (.inr (.inr (.inr (va_up (fun j => (h.2.1 o j).map (zad E)) i.toNatClampNeg (some (zad E v))))))))) H1 → va_S (zA E) s.heap H1 locs1 → W p l e R s m args below meth c H1 locs1 cells slots Q (F0 m (pc + 1) ls' (st'.map (zcv E))) := by
          intro t H1 locs1 ht1 ht2 hz hP hS1
          refine hgo H1 locs1 rfl rfl (zWo_set hWo hq rfl (fun a ha => rfl) (fun a ha => zw_ne _ _ ha) hz ?_) hS1
          rw [← zsh_lt hWo hq, zel_r ht1 ht2]
          dsimp only
          rw [zw_self]
          have e : (fun j => (zw (h.2.1 o) i.toNatClampNeg (some v) j).map (zad E)) = va_up (fun j => (h.2.1 o j).map (zad E)) i.toNatClampNeg (some (zad E v)) := by
            funext j
            unfold va_up zw
            split <;> rfl
          rw [e]
          exact hP
        rcases hdec with ⟨h0, -⟩ | ⟨h0, -⟩ | ⟨-, hdec⟩
        · omega
        · omega
        · subst hkd
          rcases zopk2 hq1 with rfl | rfl | rfl
          · have hv1 : v1 = 2 + 3 := hqv1
            subst hv1
            rw [zel_o (by decide)] at hgv
            exact zp_aast (r := (zcn 2, zT 2, zN 2)) hx hb hSt.1 hWo.2.1 (zWs_D E h) hS o 2 v 2 hg rfl hgv (zCL_at (by decide)) hin hdec (fun H1 locs1 hz hP hS1 => fin 2 H1 locs1 rfl (by decide) hz hP hS1)
          · have hv1 : v1 = 0 := hqv1
            subst hv1
            exact zp_aastA hx hb hSt.1 (zAOA.use hSt.2.2.2.2.2.2.2.2.2.2.2.2.1) hWo.2.1 (zWs_D E h) hS o 4 v 0 hg rfl hgv rfl hin hdec (fun H1 locs1 hz hP hS1 => fin 4 H1 locs1 rfl (by decide) hz hP hS1)
          · have hv1 : v1 = 10 + 3 := hqv1
            subst hv1
            rw [zel_o (by decide)] at hgv
            exact zp_aast (r := (zcn 10, zT 10, zN 10)) hx hb hSt.1 hWo.2.1 (zWs_D E h) hS o 5 v 10 hg rfl hgv (zCL_at (by decide)) hin hdec (fun H1 locs1 hz hP hS1 => fin 5 H1 locs1 rfl (by decide) hz hP hS1)
      · cases hz
    · cases hz
  · cases hz
end ZSTEP3
