section ZGO
variable {p : Program} {l : Launch} {e : Env} {R : Room} {s : State} {m : MethodId} {args : Array Value} {below : List Frame} {meth : Method} {c : Code} {H : Heap} {locs : List Loc} {cells slots : Nat} {Q : State → Prop}
theorem z_go {E : ZE} {h1 : ZH} {v : Option Value} {mc ms pc : Nat} {ls : Array Slot} {st0 rest : List Value} {a : Array Value} (hr : va_Run p l e R s m args below meth c H locs cells slots mc ms (F0 m pc ls st0) rest (zQc E h1 v a) (zA E)) (hS : va_S (zA E) s.heap H locs)
    (kk : ∀ (H1 : Heap) (locs1 : List Loc), zWo E h1 H1 → va_S (zA E) s.heap H1 locs1 → W p l e R s m args below meth c H1 locs1 (cells + mc) (slots + ms) Q (F0 m (pc + 3) ls ((v.map (zcv E)).toList ++ rest))) : W p l e R s m args below meth c H locs cells slots Q (F0 m pc ls st0) := by
  intro T hT X
  obtain ⟨w, st₀, t, T', L, h0, X', hL, e1, e2, ⟨hv, hW, hz, hk⟩, st⟩ := hr T hT X
  cases hv
  rw [h0] at hz hk
  obtain ⟨t2, a1, b1⟩ := kk T'.heap (locs ++ L) (by rw [e1]; exact hW) ⟨Nat.le_trans hS.1 (by rw [e1]; exact hz), fun q h1 h2 => by rw [e1, hk q (Nat.lt_of_lt_of_le h1 hS.1) h2]; exact hS.2.1 q h1 h2, fun q hq => by
      rcases List.mem_append.mp hq with h | h
      · exact hS.2.2 q h
      · exact hL q h⟩ T' rfl X'
  exact ⟨t2, st t2 a1, b1⟩
end ZGO
theorem zpre_blind {E : ZE} {h : ZH} {av : List Value} : FrameBlind (va_Pc av (zPre E h)) := by
  intro a U g mk hq
  obtain ⟨h1, ⟨b1, b2, b3, b4, b5, b6, b7, b8, b9, b10, b11, c1, c2, c3, c4, c5, c6⟩, h3⟩ := hq
  refine ⟨h1, ⟨va_K.moved (u := U) (Vm.Alike.refl U.vm) b1, va_X.moved (u := U) (Vm.Alike.refl U.vm) b2, b3, vk_S.moved (u := U) (Vm.Alike.refl U.vm) b4, fun i q hq => vk_R.same (u := U) rfl (b5 i q hq), va_Z.moved (u := U) (Vm.Alike.refl U.vm) b6, va_Z.moved (u := U) (Vm.Alike.refl U.vm) b7, va_AO.moved (u := U) (Vm.Alike.refl U.vm) b8, fun w hw hn => va_Nw.same (u := U) (by cases w <;> first | rfl | (simp [zNest] at hn; done)) rfl (b9 w hw hn), b10, b11, va_AO.moved (u := U) (Vm.Alike.refl U.vm) c1, zAOA.moved (u := U) (Vm.Alike.refl U.vm) c2, va_Z.moved (u := U) (Vm.Alike.refl U.vm) c3, va_Z.moved (u := U) (Vm.Alike.refl U.vm) c4, va_T.moved (u := U) (Vm.Alike.refl U.vm) c5, va_T.moved (u := U) (Vm.Alike.refl U.vm) c6⟩, h3⟩
theorem zpre_use {E : ZE} {h : ZH} {as : List Value} {s : State} {H : Heap} {locs : List Loc} (hSt : zSt E s s.heap) (hS : va_S (zA E) s.heap H locs) (hWo : zWo E h H) : ∀ U : State, U.heap = H → s.WarmedH U.vm → va_Pc (as.map (zcv E)) (zPre E h) (as.map (zcv E)).toArray U := by
  intro U hU hW
  refine ⟨rfl, ?_, ?_⟩
  · rw [hU]; exact hSt.use hW hS
  · rw [hU]; exact hWo
theorem zres_spec {own ix k : Nat} (h : zres own ix = some k) : ∃ nest, (own, ix, k, nest) ∈ zML := by
  unfold zres at h
  rw [Option.map_eq_some_iff] at h
  obtain ⟨q, h1, h2⟩ := h
  have h3 := List.find?_some h1
  simp only [Bool.and_eq_true, beq_iff_eq] at h3
  obtain ⟨a, b, k', nest⟩ := q
  refine ⟨nest, ?_⟩
  obtain ⟨rfl, rfl⟩ := h3
  cases h2
  exact List.mem_of_find?_eq_some h1
theorem zcal_lt {k : Nat} (h : k < zNM) : zcal k = zname k := by
  unfold zcal
  have h : k < 152 := h
  rw [if_neg (by omega), if_neg (by omega), if_neg (by omega), if_neg (by omega), if_neg (by omega), if_neg (by omega)]
theorem zcats_mem {st : List Value} (h : zcats st = true) : ∀ w ∈ st, w.category = 1 := by
  intro w hw
  have := List.all_eq_true.mp h w hw
  exact Nat.eq_of_beq_eq_true this
section ZCALL
variable {p : Program} {l : Launch} {e : Env} {R : Room} {s : State} {m : MethodId} {args : Array Value} {below : List Frame} {meth : Method} {c : Code} {H : Heap} {locs : List Loc} {cells slots : Nat} {Q : State → Prop}
/-- a call of a method of the table: static, of an object, or of a constructor -/
theorem z_call {E : ZE} {n : Nat} (IH : zSound l E n) {d y pc ix k : Nat} {ls' : Array Slot} {as rest : List Value} {h h1 : ZH} {v : Option Value} {stk : List Value} (Cx : zCx E (d + 1) y p R s m args meth c) (hk : k < zNM) (hres : zres (zown y) ix = some k)
    (hrun : zrun (zeS E) n d k 0 (zent (zml k) as) [] h = some (v, h1)) (hlen : as.length ≤ zml k) (hcat : ∀ w ∈ as, w.category = 1) (hrest : zroom rest = true) (hsz : ls'.size = zml y) (hWo : zWo E h H) (hS : va_S (zA E) s.heap H locs) (hc : cells + (h1.2.2.length - h.2.2.length) ≤ R.cells) (hs : slots + (zsl h1 - zsl h) ≤ R.slots)
    (hform : (zkind k = 0 ∧ decode (zcode y) pc = .ok (.invokestatic ix, 3) ∧ as.length = znar k ∧ stk = as.reverse ++ rest) ∨
      (∃ o a2, as = .ref o :: a2 ∧ a2.length = znar k ∧ stk = a2.reverse ++ .ref o :: rest ∧ ((zkind k = 1 ∧ decode (zcode y) pc = .ok (.invokevirtual ix, 3) ∧ zrecv h k (.ref o) = true ∧ zdir k = true) ∨ (zkind k = 2 ∧ decode (zcode y) pc = .ok (.invokespecial ix, 3)))))
    (kk : ∀ (H1 : Heap) (locs1 : List Loc), zWo E h1 H1 → va_S (zA E) s.heap H1 locs1 → W p l e R s m args below meth c H1 locs1 (cells + (h1.2.2.length - h.2.2.length)) (slots + (zsl h1 - zsl h)) Q (F0 m (pc + 3) ls' ((v.map (zcv E)).toList ++ rest.map (zcv E)))) :
    W p l e R s m args below meth c H locs cells slots Q (F0 m pc ls' (stk.map (zcv E))) := by
  obtain ⟨hx, hb, hml, hown, hinit, hts, hSt, hfr, hlo⟩ := Cx
  have hO := hSt.2.2.2.2.2.2.2.2.2.1
  have hM := z_met IH hO hk hrun hlen hcat
  obtain ⟨nest, hin⟩ := zres_spec hres
  have hlinkw := zMok _ hin
  obtain ⟨h51, h52, h53, h54, h55, h56, h57, -⟩ := zc5 _ (zM_in hk)
  have hini : (Cond.initialized (zname k).cls).before args s = true := hts _ (zTB_in (zc2 _ (zM_in hk)) rfl)
  have hR : (zrm d (h1.2.2.length - h.2.2.length) (zsl h1 - zsl h)).frames + 1 ≤ R.frames ∧ 8 + (zml k + 11) + (zrm d (h1.2.2.length - h.2.2.length) (zsl h1 - zsl h)).locals ≤ R.locals := by
    refine ⟨?_, ?_⟩
    · show 2 * d + 2 + 1 ≤ _; omega
    · show 8 + ((zM k).2.2.1 + 11) + (d + 1) * 100 ≤ _; omega
  have hW : 2 * (F0 m pc ls' (stk.map (zcv E))).monitorRoom + ((rest.map (zcv E)).map fun v => v.category).sum ≤ 8 := lv_room (by rw [zcv_cats hO]; exact Nat.le_of_ble_eq_true hrest)
  have hd3 : (zname k).cls ≠ "java/lang/invoke/MethodHandle" ∧ (zname k).cls ≠ "java/lang/invoke/VarHandle" ∧ (parseMethodDescriptor (zname k).desc).map (fun d => d.parameters.length) = some (znar k) := ⟨h53, h54, h55⟩
  have hk3 := zc3 _ (zM_in hk)
  have hk4 := zc4 _ (zM_in hk)
  have hfix : CallFix p m c (zcode y) (zml y) s args zTB (zcn (zown y)) := ⟨hx, hb, hml, hown, hts⟩
  have hG := zws_good hk
  have hcal := zcal_lt hk
  have hlink : (nest = false → (Cond.methodLink (zcn (zown y)) ix (zname k)).before args s = true) ∧ (nest = true → va_Nw (.methodLinkNest (zcn (zown y)) ix (zname k) (zho (zown y))) s) := by
    refine ⟨fun hn => ?_, fun hn => ?_⟩
    · subst hn
      have h := hlinkw
      unfold zMw at h
      simp only [Bool.false_eq_true, if_false] at h
      rw [hcal] at h
      exact hts _ (zTB_in h rfl)
    · subst hn
      have h := hlinkw
      unfold zMw at h
      rw [if_pos rfl] at h
      rw [hcal] at h
      exact hSt.2.2.2.2.2.2.2.2.1 _ h rfl
  rcases hform with ⟨hk0, hdg, hn, rfl⟩ | ⟨o, a2, rfl, hn, rfl, hform⟩
  · have hst : (Cond.static (zname k)).before args s = true := by
      unfold zkind at hk0
      rw [if_pos hk0] at hk3
      exact hts _ (zTB_in hk3 rfl)
    have hstk : ((as.reverse ++ rest).map (zcv E)) = (as.map (zcv E)).reverse ++ rest.map (zcv E) := by simp
    rw [hstk] at hW ⊢
    cases nest with
    | false => exact z_go (va_runS (g := F0 m pc ls' _) hfix hM ⟨callB_of (znar k) hts hG rfl rfl rfl hini (hlink.1 rfl) hd3 hR, hst⟩ ⟨zpre_blind, zpre_use hSt hS hWo⟩ rfl (by simpa using hn) hsz rfl hW hdg ⟨hc, hs⟩) hS kk
    | true => exact z_go (va_runSN (g := F0 m pc ls' _) hfix hM ⟨va_cnB (znar k) hts hG rfl rfl rfl (hlink.2 rfl) hini hd3 hR, hst, trivial⟩ ⟨zpre_blind, zpre_use hSt hS hWo⟩ rfl (by simpa using hn) hsz rfl hW hdg ⟨hc, hs⟩) hS kk
  · have hkn : ¬ zkind k = 0 := by rcases hform with ⟨z, -⟩ | ⟨z, -⟩ <;> omega
    have hinst : (Cond.instanceMethod (zname k)).before args s = true := by
      unfold zkind at hkn
      rw [if_neg hkn] at hk3
      exact hts _ (zTB_in hk3 rfl)
    have hro : zcv E (.ref o) = .ref (zad E o) := rfl
    have hstk : ((a2.reverse ++ .ref o :: rest).map (zcv E)) = (a2.map (zcv E)).reverse ++ .ref (zad E o) :: rest.map (zcv E) := by simp [hro]
    have hpre := zpre_use (as := .ref o :: a2) hSt hS hWo
    rw [List.map_cons, hro] at hpre hM
    rw [hstk] at hW ⊢
    rcases hform with ⟨hk1, hdg, hrv, hdir⟩ | ⟨hk2, hdg⟩
    · have hsel : (Cond.selects (zname k).cls (zname k) (zname k)).before args s = true := by
        unfold zkind at hk1
        have hdir := of_decide_eq_true hdir
        rw [if_pos (show (zM k).2.2.2.2.1 = 1 ∧ (zM k).1.cls ≠ "java/lang/AbstractStringBuilder" ∧ ¬ ((zM k).1.cls = "java/lang/StringBuilder" ∧ (zM k).1.name = "length") from ⟨hk1, hdir.1, hdir.2⟩)] at hk4
        exact hts _ (zTB_in hk4 rfl)
      have hcell : ∃ cellB : Cell, H[zad E o]? = some cellB ∧ cellB.vm.isStatics = false ∧ s.vm.findClass (zname k).cls = some cellB.cls := by
        unfold zrecv at hrv
        dsimp only at hrv
        by_cases hom : o < 1000000
        · rw [if_pos hom] at hrv
          cases hq : h.2.2[o]? with
          | none => rw [hq] at hrv; cases hrv
          | some q =>
            rw [hq] at hrv
            have hrv := of_decide_eq_true hrv
            obtain ⟨hq1, hcl⟩ := hrv
            obtain ⟨q1, q2⟩ := q
            dsimp only at hq1
            subst hq1
            have hg := zWs_get (E := E) hq
            rw [zel_o (show zown k < 14 by have := hcl; rw [show zCL.length = 14 by unfold zCL; simp] at this; exact this)] at hg
            have hcl2 : zCL[zown k]? = some (zcn (zown k), zT (zown k), zN (zown k)) := by
              unfold zCL at hcl ⊢
              rw [List.length_map, List.length_range] at hcl
              rw [List.getElem?_map, List.getElem?_range hcl]
              rfl
            obtain ⟨cell, g1, g2, g3⟩ := va_recv hSt.1 hWo.2.1 hcl2 hg
            refine ⟨cell, ?_, g2, ?_⟩
            · unfold zad; rw [if_pos hom]; exact g1
            · show s.vm.findClass (zM k).1.cls = _
              rw [h56]; exact g3
        · rw [if_neg hom] at hrv
          have hrv := of_decide_eq_true hrv
          obtain ⟨ha, hb2, hc2⟩ := hrv
          have hlt : o - 2000000 < zSR.length := Nat.sub_lt_left_of_lt_add ha hb2
          obtain ⟨cell, g1, g2, g3⟩ := vk_recv (i := o - 2000000) hSt.2.2.2.1 hlt hS
          refine ⟨cell, ?_, g2, ?_⟩
          · unfold zad
            have hz : zSR.length = 23 := by decide +kernel
            rw [if_neg hom, if_neg (show ¬ o = 1000000 from fun q => by subst q; exact absurd ha (by decide)), if_pos (show o < 3000000 from Nat.lt_of_lt_of_le hb2 (by rw [hz]; decide))]
            exact g1
          · show s.vm.findClass (zM k).1.cls = _
            rw [h56]
            unfold zown at hc2
            rw [hc2]
            exact g3
      cases nest with
      | false => exact z_go (va_runV (g := F0 m pc ls' _) (C := (zname k).cls) hfix hM ⟨callB_of (znar k) hts hG rfl rfl rfl hini (hlink.1 rfl) hd3 hR, hinst, hsel⟩ ⟨zpre_blind, hcell, hpre⟩ rfl (by simpa using hn) hsz rfl hW hdg ⟨hc, hs⟩) hS kk
      | true => exact z_go (va_runVN (g := F0 m pc ls' _) (C := (zname k).cls) hfix hM ⟨va_cnB (znar k) hts hG rfl rfl rfl (hlink.2 rfl) hini hd3 hR, hinst, hsel⟩ ⟨zpre_blind, hcell, hpre⟩ rfl (by simpa using hn) hsz rfl hW hdg ⟨hc, hs⟩) hS kk
    · obtain ⟨hname, hret⟩ := h51 hk2
      have hret2 : zret k = none := hret
      have hG2 := hG
      unfold zws at hM hG2
      rw [hret2] at hM hG2
      cases nest with
      | false => exact z_go (va_runI (g := F0 m pc ls' _) hfix hM ⟨callB_of (znar k) hts hG2 rfl rfl rfl hini (hlink.1 rfl) hd3 hR, hname, hinst⟩ ⟨zpre_blind, hpre⟩ rfl (by simpa using hn) hsz rfl hW hdg ⟨hc, hs⟩) hS kk
      | true => exact z_go (va_runIN (g := F0 m pc ls' _) hfix hM ⟨va_cnB (znar k) hts hG2 rfl rfl rfl (hlink.2 rfl) hini hd3 hR, hname, hinst⟩ ⟨zpre_blind, hpre⟩ rfl (by simpa using hn) hsz rfl hW hdg ⟨hc, hs⟩) hS kk
theorem zsel_priv {C : String} {y z : MethodName} (hy : y.cls ≠ "java/lang/invoke/MethodHandle" ∧ y.cls ≠ "java/lang/invoke/VarHandle") (hz : z.cls = y.cls) (hsel : (Cond.selects C z z).before args s = true) (hz2 : (Cond.instanceMethod z).before args s = true) (hpriv : (Cond.privateMethod y).before args s = true) (hinst : (Cond.instanceMethod y).before args s = true) : (Cond.selects C y y).before args s = true := by
  obtain ⟨mk, methM, hnamed, hmethM, -, -⟩ := Cond.instanceMethod_spec hinst
  obtain ⟨mz, methZ, hnamedz, hmethZ, -, -⟩ := Cond.instanceMethod_spec hz2
  have hfound : s.methodFound? y.cls y.name y.desc = some mk := State.methodFound?_of_named hnamed hy
  have hfoundz : s.methodFound? z.cls z.name z.desc = some mz := State.methodFound?_of_named hnamedz (by rw [hz]; exact hy)
  have hcc : mk.cls = mz.cls := by
    have h1 := findClass_of_methodNamed hnamed
    have h2 := findClass_of_methodNamed hnamedz
    rw [hz] at h2
    exact Option.some.inj (h1.symm.trans h2)
  cases hc : s.vm.findClass C with
  | none => simp [Cond.before, Cond.holds, Cond.value, hc] at hsel
  | some c =>
    have hsm : selectMethod {} s.vm c mk = .method mk := selectMethod_private hmethM (Cond.privateMethod_at hpriv mk methM hnamed hmethM)
    have hany : (s.vm.classes[mz.cls]?).any (fun k => !k.isInterface) = true := by
      simp only [Cond.before, Cond.holds, Cond.value, hc, hfoundz, hnamedz] at hsel
      cases hq : selectMethod {} s.vm c mz with
      | method m' =>
        rw [hq] at hsel
        simp only [beq_iff_eq, Option.some.injEq, Bool.and_eq_true] at hsel
        exact hsel.2
      | _ => rw [hq] at hsel; simp at hsel
    simp only [Cond.before, Cond.holds, Cond.value, hc, hfound, hnamed, hsm, hcc, hany]
    simp
theorem zvir_spec {k1 k : Nat} {pv : Bool} (h : zvir k1 = some (k, pv)) : (k1, k, pv) ∈ zVL := by
  unfold zvir at h
  rw [Option.map_eq_some_iff] at h
  obtain ⟨q, h1, h2⟩ := h
  have h3 := List.find?_some h1
  obtain ⟨a, b, c⟩ := q
  simp only [beq_iff_eq] at h3
  subst h3
  cases h2
  exact List.mem_of_find?_eq_some h1
theorem zVnn : ∀ q ∈ zML, q.2.2.2 = true → ¬ ((zname q.2.2.1).cls = "java/lang/AbstractStringBuilder") := by decide +kernel
theorem zSBN : (zname 126).cls = "java/lang/AbstractStringBuilder" ∧ zkind 126 = 1 ∧ (126, 126, false) ∈ zVL ∧ zcn zSBC = "java/lang/StringBuilder" := by decide +kernel
/-- the cell of an object of a class -/
theorem z_cellB {E : ZE} {h : ZH} {o c0 n0 : Nat} (hc : c0 < 14) (hom : o < 1000000) (hSt : zSt E s s.heap) (hWo : zWo E h H) (hq : h.2.2[o]? = some (c0 + 3, n0)) : ∃ cellB : Cell, H[zad E o]? = some cellB ∧ cellB.vm.isStatics = false ∧ s.vm.findClass (zcn c0) = some cellB.cls := by
  have hg := zWs_get (E := E) hq
  rw [zel_o hc] at hg
  have hcl2 : zCL[c0]? = some (zcn c0, zT c0, zN c0) := by
    unfold zCL
    rw [List.getElem?_map, List.getElem?_range hc]
    rfl
  obtain ⟨cell, g1, g2, g3⟩ := va_recv hSt.1 hWo.2.1 hcl2 hg
  refine ⟨cell, ?_, g2, g3⟩
  unfold zad; rw [if_pos hom]; exact g1
/-- an inherited method, called on a StringBuilder -/
theorem z_callU {E : ZE} {n : Nat} (IH : zSound l E n) {d y pc ix k1 k o n0 : Nat} {pv : Bool} {ls' : Array Slot} {a2 rest : List Value} {h h1 : ZH} {v : Option Value} (Cx : zCx E (d + 1) y p R s m args meth c) (hres : zres (zown y) ix = some k1) (hvir : zvir k1 = some (k, pv)) (hom : o < 1000000) (hq : h.2.2[o]? = some (zSBC + 3, n0)) (hdg : decode (zcode y) pc = .ok (.invokevirtual ix, 3))
    (hrun : zrun (zeS E) n d k 0 (zent (zml k) (.ref o :: a2)) [] h = some (v, h1)) (hlen : a2.length + 1 ≤ zml k) (hcat : ∀ w ∈ a2, w.category = 1) (hn : a2.length = znar k1) (hrest : zroom rest = true) (hsz : ls'.size = zml y) (hWo : zWo E h H) (hS : va_S (zA E) s.heap H locs) (hc : cells + (h1.2.2.length - h.2.2.length) ≤ R.cells) (hs : slots + (zsl h1 - zsl h) ≤ R.slots)
    (kk : ∀ (H1 : Heap) (locs1 : List Loc), zWo E h1 H1 → va_S (zA E) s.heap H1 locs1 → W p l e R s m args below meth c H1 locs1 (cells + (h1.2.2.length - h.2.2.length)) (slots + (zsl h1 - zsl h)) Q (F0 m (pc + 3) ls' ((v.map (zcv E)).toList ++ rest.map (zcv E)))) :
    W p l e R s m args below meth c H locs cells slots Q (F0 m pc ls' ((a2.reverse ++ .ref o :: rest).map (zcv E))) := by
  obtain ⟨hx, hb, hml, hown, hinit, hts, hSt, hfr, hlo⟩ := Cx
  have hO := hSt.2.2.2.2.2.2.2.2.2.1
  have hV := zvir_spec hvir
  obtain ⟨f1, f2, f3, f4, f5, f6, f7, f8⟩ := zVfact _ hV
  dsimp only at f1 f2 f3 f4 f5 f6 f7 f8
  have hM := z_met IH hO (as := .ref o :: a2) f2 hrun (by simpa using hlen) (fun w hw => by
    rcases List.mem_cons.mp hw with rfl | hw
    · rfl
    · exact hcat w hw)
  obtain ⟨nest, hin⟩ := zres_spec hres
  have hlinkw := zMok _ hin
  have hnest : nest = false := by
    cases nest with
    | false => rfl
    | true => exact absurd f3 (zVnn _ hin rfl)
  subst hnest
  unfold zMw at hlinkw
  simp only [Bool.false_eq_true, if_false] at hlinkw
  rw [zcal_lt f1] at hlinkw
  obtain ⟨h51, h52, h53, h54, h55, h56, h57, -⟩ := zc5 _ (zM_in f2)
  obtain ⟨j51, j52, j53, j54, j55, j56, j57, -⟩ := zc5 _ (zM_in f1)
  have hini : (Cond.initialized (zname k).cls).before args s = true := hts _ (zTB_in (zc2 _ (zM_in f2)) rfl)
  have hR : (zrm d (h1.2.2.length - h.2.2.length) (zsl h1 - zsl h)).frames + 1 ≤ R.frames ∧ 8 + (zml k + 11) + (zrm d (h1.2.2.length - h.2.2.length) (zsl h1 - zsl h)).locals ≤ R.locals := by
    refine ⟨?_, ?_⟩
    · show 2 * d + 2 + 1 ≤ _; omega
    · show 8 + ((zM k).2.2.1 + 11) + (d + 1) * 100 ≤ _; omega
  have hG := zws_good f2
  have hin1 : ∀ {j : Nat}, j < zNM → zkind j = 1 → (Cond.instanceMethod (zname j)).before args s = true := by
    intro j hj hkj
    have hk3 := zc3 _ (zM_in hj)
    rw [if_neg (show ¬ (zM j).2.2.2.2.1 = 0 from by unfold zkind at hkj; omega)] at hk3
    exact hts _ (zTB_in hk3 rfl)
  have hcode1 : (Cond.code (zname k1) (zcode k1) (zml k1) (zret k1)).before args s = true := hts _ (zTB_in (zc1 _ (zM_in f1)) rfl)
  have hcode : (Cond.code (zname k) (zcode k) (zml k) (zret k)).before args s = true := hts _ (zTB_in (zc1 _ (zM_in f2)) rfl)
  have hnm : (⟨"java/lang/AbstractStringBuilder", (zname k1).name, (zname k1).desc⟩ : MethodName) = zname k1 := by rw [← f3]
  have hsame : (Cond.sameMethod (zname k1).cls "java/lang/AbstractStringBuilder" (zname k1).name (zname k1).desc).before args s = true := hts _ (zTB_in (zVtok _ hV) rfl)
  have hsel : (Cond.selects "java/lang/StringBuilder" (zname k1) (zname k)).before args s = true := by
    cases pv with
    | false =>
      have hw := zVok _ hV
      unfold zVw at hw
      rw [if_neg (show ¬ (false = true) by decide)] at hw
      exact hts _ (zTB_in hw rfl)
    | true => exact hts _ (zTB_x (List.mem_map.mpr ⟨_, List.mem_filter.mpr ⟨hV, rfl⟩, rfl⟩) rfl)
  have hW : 2 * (F0 m pc ls' ((a2.reverse ++ .ref o :: rest).map (zcv E))).monitorRoom + ((rest.map (zcv E)).map fun v => v.category).sum ≤ 8 := lv_room (by rw [zcv_cats hO]; exact Nat.le_of_ble_eq_true hrest)
  have hro : zcv E (.ref o) = .ref (zad E o) := rfl
  have hstk : ((a2.reverse ++ .ref o :: rest).map (zcv E)) = (a2.map (zcv E)).reverse ++ .ref (zad E o) :: rest.map (zcv E) := by simp [hro]
  have hpre := zpre_use (as := .ref o :: a2) hSt hS hWo
  rw [List.map_cons, hro] at hpre hM
  rw [hstk] at hW ⊢
  have hcell := z_cellB (c0 := zSBC) (by decide) hom hSt hWo hq
  rw [zSBN.2.2.2] at hcell
  have hfix : CallFix p m c (zcode y) (zml y) s args zTB (zcn (zown y)) := ⟨hx, hb, hml, hown, hts⟩
  have hdesc : ∀ sig, parseMethodDescriptor (zname k1).desc = some sig → znar k1 = sig.parameters.length := by
    intro sig hsig
    have h9 : (parseMethodDescriptor (zname k1).desc).map (fun d => d.parameters.length) = some (znar k1) := j55
    rw [hsig] at h9
    exact (Option.some.inj h9).symm
  have cw : va_CU R s args (zcn (zown y)) "java/lang/StringBuilder" "java/lang/AbstractStringBuilder" ix (zname k1) (zname k) (zcode k) (zml k) (zret k) (zws k) (zrm d (h1.2.2.length - h.2.2.length) (zsl h1 - zsl h)) (h1.2.2.length - h.2.2.length) (zsl h1 - zsl h) (znar k1) :=
    ⟨⟨rfl, rfl, hR.1, hR.2, pay_in hts hG, List.mem_cons_self⟩, hcode, hini, ⟨by decide, by decide⟩, hdesc, hts _ (zTB_in hlinkw rfl), hsame, by rw [hnm]; exact va_Decl.of (hin1 f1 f5) hcode1, hsel, hin1 f2 f6⟩
  exact z_go (va_runU (g := F0 m pc ls' _) hfix hM cw ⟨zpre_blind, hcell, hpre⟩ rfl (by simpa using hn) hsz rfl hW hdg ⟨hc, hs⟩) hS kk
/-- a method called by super on a StringBuilder -/
theorem z_callSU {E : ZE} {n : Nat} (IH : zSound l E n) {d y pc ix k o n0 : Nat} {ls' : Array Slot} {a2 rest : List Value} {h h1 : ZH} {v : Option Value} (Cx : zCx E (d + 1) y p R s m args meth c) (hres : zres (zown y) ix = some k) (hsul : zSUL.contains k = true) (hy : zown y = zSBC) (hom : o < 1000000) (hq : h.2.2[o]? = some (zSBC + 3, n0)) (hdg : decode (zcode y) pc = .ok (.invokespecial ix, 3))
    (hrun : zrun (zeS E) n d k 0 (zent (zml k) (.ref o :: a2)) [] h = some (v, h1)) (hlen : a2.length + 1 ≤ zml k) (hcat : ∀ w ∈ a2, w.category = 1) (hn : a2.length = znar k) (hrest : zroom rest = true) (hsz : ls'.size = zml y) (hWo : zWo E h H) (hS : va_S (zA E) s.heap H locs) (hc : cells + (h1.2.2.length - h.2.2.length) ≤ R.cells) (hs : slots + (zsl h1 - zsl h) ≤ R.slots)
    (kk : ∀ (H1 : Heap) (locs1 : List Loc), zWo E h1 H1 → va_S (zA E) s.heap H1 locs1 → W p l e R s m args below meth c H1 locs1 (cells + (h1.2.2.length - h.2.2.length)) (slots + (zsl h1 - zsl h)) Q (F0 m (pc + 3) ls' ((v.map (zcv E)).toList ++ rest.map (zcv E)))) :
    W p l e R s m args below meth c H locs cells slots Q (F0 m pc ls' ((a2.reverse ++ .ref o :: rest).map (zcv E))) := by
  obtain ⟨hx, hb, hml, hown, hinit, hts, hSt, hfr, hlo⟩ := Cx
  have hO := hSt.2.2.2.2.2.2.2.2.2.1
  have hmem : k ∈ zSUL := List.contains_iff_mem.mp hsul
  obtain ⟨f2, f3, f4, f6⟩ := zSUfact _ hmem
  have hM := z_met IH hO (as := .ref o :: a2) f2 hrun (by simpa using hlen) (fun w hw => by
    rcases List.mem_cons.mp hw with rfl | hw
    · rfl
    · exact hcat w hw)
  obtain ⟨nest, hin⟩ := zres_spec hres
  have hlinkw := zMok _ hin
  have hnest : nest = false := by
    cases nest with
    | false => rfl
    | true => exact absurd f3 (zVnn _ hin rfl)
  subst hnest
  unfold zMw at hlinkw
  simp only [Bool.false_eq_true, if_false] at hlinkw
  rw [zcal_lt f2] at hlinkw
  obtain ⟨h51, h52, h53, h54, h55, h56, h57, -⟩ := zc5 _ (zM_in f2)
  have hini : (Cond.initialized (zname k).cls).before args s = true := hts _ (zTB_in (zc2 _ (zM_in f2)) rfl)
  have hR : (zrm d (h1.2.2.length - h.2.2.length) (zsl h1 - zsl h)).frames + 1 ≤ R.frames ∧ 8 + (zml k + 11) + (zrm d (h1.2.2.length - h.2.2.length) (zsl h1 - zsl h)).locals ≤ R.locals := by
    refine ⟨?_, ?_⟩
    · show 2 * d + 2 + 1 ≤ _; omega
    · show 8 + ((zM k).2.2.1 + 11) + (d + 1) * 100 ≤ _; omega
  have hG := zws_good f2
  have hcode : (Cond.code (zname k) (zcode k) (zml k) (zret k)).before args s = true := hts _ (zTB_in (zc1 _ (zM_in f2)) rfl)
  have hinst : (Cond.instanceMethod (zname k)).before args s = true := by
    have hk3 := zc3 _ (zM_in f2)
    rw [if_neg (show ¬ (zM k).2.2.2.2.1 = 0 from by unfold zkind at f6; omega)] at hk3
    exact hts _ (zTB_in hk3 rfl)
  have hW : 2 * (F0 m pc ls' ((a2.reverse ++ .ref o :: rest).map (zcv E))).monitorRoom + ((rest.map (zcv E)).map fun v => v.category).sum ≤ 8 := lv_room (by rw [zcv_cats hO]; exact Nat.le_of_ble_eq_true hrest)
  have hro : zcv E (.ref o) = .ref (zad E o) := rfl
  have hstk : ((a2.reverse ++ .ref o :: rest).map (zcv E)) = (a2.map (zcv E)).reverse ++ .ref (zad E o) :: rest.map (zcv E) := by simp [hro]
  have hpre := zpre_use (as := .ref o :: a2) hSt hS hWo
  rw [List.map_cons, hro] at hpre hM
  rw [hstk] at hW ⊢
  have hcell := z_cellB (c0 := zSBC) (by decide) hom hSt hWo hq
  have hfix : CallFix p m c (zcode y) (zml y) s args zTB (zcn (zown y)) := ⟨hx, hb, hml, hown, hts⟩
  have hsup : (Cond.superclass (zcn (zown y)) (zname k).cls).before args s = true := by rw [hy, f3, zSBN.2.2.2]; exact hts _ (zTB_in zw_sup rfl)
  have hat : ClassAt s (zcn zSBC) ((zeD E).1 zSBC) := by
    have h9 := hSt.1.1 zSBC (zcn zSBC, zT zSBC, zN zSBC) (by unfold zCL; rw [List.getElem?_map, List.getElem?_range (by decide)]; rfl)
    exact h9.2
  have hdesc : ∀ sig, parseMethodDescriptor (zname k).desc = some sig → znar k = sig.parameters.length := by
    intro sig hsig
    have h9 : (parseMethodDescriptor (zname k).desc).map (fun d => d.parameters.length) = some (znar k) := h55
    rw [hsig] at h9
    exact (Option.some.inj h9).symm
  exact z_go (va_runSU (g := F0 m pc ls' _) (C := zcn zSBC) hat hfix hM ⟨⟨rfl, rfl, hR.1, hR.2, pay_in hts hG, List.mem_cons_self⟩, hts _ (zTB_in hlinkw rfl), hts _ (zTB_in (zSUok _ hmem) rfl), hsup, hinst, hini, hcode, f4, hdesc⟩ ⟨zpre_blind, hcell, hpre⟩ rfl (by simpa using hn) hsz rfl hW hdg ⟨hc, hs⟩) hS kk
end ZCALL
