theorem zW_widen {p : Program} {l : Launch} {e : Env} {R : Room} {s : State} {m : MethodId} {args : Array Value} {below : List Frame} {meth : Method} {c : Code} {H : Heap} {locs : List Loc} {cells slots : Nat} {Q : State → Prop} {g : JFrame} (h : W p l e R s m args below meth c H locs cells slots Q g) : W p l e R s m args below meth c H locs cells slots Q g := h
set_option maxHeartbeats 4000000 in
/-- WHAT THE PLAIN MACHINE DOES, THE REAL ONE DOES -/
theorem zsound (l : Launch) (E : ZE) : ∀ n, zSound l E n := by
  intro n
  induction n with
  | zero =>
    intro d y pc ls st h r h' hrun
    cases hrun
  | succ n IH =>
    intro d y pc ls st h r h' hrun p e R s m args below meth c Q X Y Cx Fin hX hY H locs cells slots ls' hL hlen hWo hS hc hs
    obtain ⟨hx, hb, hml, hown, hinit, hts, hSt, hfr, hlo⟩ := id Cx
    have hO := hSt.2.2.2.2.2.2.2.2.2.1
    unfold zrun at hrun
    split at hrun
    · cases hrun
    · rename_i ins len hd
      have hdec := zdec_spec hd
      split at hrun
      · cases hrun
      · rename_i pc' ls2 st2 h2 hz
        have hmo := zrun_mono _ _ _ _ _ _ _ _ _ hrun
        refine z_next Cx hdec hz hL hlen hWo hS (by dsimp only; omega) (by dsimp only; omega) (fun H1 locs1 c1 s1 ls1 hL1 hlen1 hc1 hs1 hW1 hS1 => ?_)
        dsimp only at hL1 hlen1 hc1 hs1 hW1
        exact IH d y pc' ls2 st2 h2 r h' hrun p e R s m args below meth c Q X Y Cx Fin hX hY H1 locs1 c1 s1 ls1 hL1 hlen1 hW1 hS1 (by omega) (by omega)
      · rename_i v hz
        cases hrun
        have hc1 : cells ≤ X := by omega
        have hs1 : slots ≤ Y := by omega
        obtain ⟨F1, F2, F3⟩ := Fin
        cases ins
        case newarray a9 =>
          exfalso
          cases a9 <;> simp only [zstep, zmka, zn] at hz <;> (repeat' (split at hz)) <;> first | (cases hz; done) | (simp at hz; done)
        all_goals simp only [zstep, zld, zst, zbin, zto, zif, zget, zput, zald, zast, zlen, zmka, zmko, zcpy, zclone, zcallS, zcallV, zcallI, zn] at hz
        case ireturn =>
          split at hz
          · rename_i hl
            subst hl
            split at hz
            · rename_i v0
              split at hz
              · rename_i ht
                cases hz
                exact F1 pc v0 H locs ls' cells slots hdec rfl ⟨_, ht, rfl⟩ hWo hS hc1 hs1
              · rename_i t ht
                split at hz
                · rename_i hn
                  cases hz
                  exact F1 pc v0 H locs ls' cells slots hdec rfl ⟨_, ht, hn⟩ hWo hS hc1 hs1
                · cases hz
              · cases hz
            · cases hz
          · cases hz
        case areturn =>
          split at hz
          · rename_i hl
            subst hl
            split at hz
            · split at hz
              · rename_i v0 ht
                cases hz
                exact F3 pc (.ref v0) H locs ls' cells slots hdec (Or.inr ⟨v0, rfl⟩) rfl ht hWo hS hc1 hs1
              · cases hz
            · split at hz
              · rename_i ht
                cases hz
                exact F3 pc .null H locs ls' cells slots hdec (Or.inl rfl) rfl ht hWo hS hc1 hs1
              · cases hz
            · cases hz
          · cases hz
        case return_ =>
          split at hz
          · rename_i hl
            obtain ⟨hl, hr, hst⟩ := hl
            subst hl; subst hst
            cases hz
            exact F2 pc H locs ls' cells slots hdec rfl hr hWo hS hc1 hs1
          · cases hz
        all_goals (repeat' (split at hz))
        all_goals first | (cases hz; done) | (simp at hz; done)
      · rename_i k as rest hz
        split at hrun
        · cases hrun
        · rename_i d'
          split at hrun
          · rename_i hal
            split at hrun
            · cases hrun
            · rename_i v h1 hcall
              have hmo1 := zrun_mono _ _ _ _ _ _ _ _ _ hcall
              have hmo2 := zrun_mono _ _ _ _ _ _ _ _ _ hrun
              have cont : ∀ (H1 : Heap) (locs1 : List Loc), zWo E h1 H1 → va_S (zA E) s.heap H1 locs1 → W p l e R s m args below meth c H1 locs1 (cells + (h1.2.2.length - h.2.2.length)) (slots + (zsl h1 - zsl h)) Q (F0 m (pc + 3) ls' ((v.map (zcv E)).toList ++ rest.map (zcv E))) := by
                intro H1 locs1 hW1 hS1
                have := IH (d' + 1) y (pc + 3) ls (v.toList ++ rest) h1 r h' hrun p e R s m args below meth c Q X Y Cx Fin hX hY H1 locs1 (cells + (h1.2.2.length - h.2.2.length)) (slots + (zsl h1 - zsl h)) ls' hL hlen hW1 hS1 (by omega) (by omega)
                rw [List.map_append] at this
                cases v <;> exact this
              have hcc : cells + (h1.2.2.length - h.2.2.length) ≤ R.cells := by omega
              have hss : slots + (zsl h1 - zsl h) ≤ R.slots := by omega
              have hsz : ls'.size = zml y := hL.2.1.trans hlen
              cases ins
              case newarray a9 =>
                exfalso
                cases a9 <;> simp only [zstep, zmka, zn] at hz <;> (repeat' (split at hz)) <;> first | (cases hz; done) | (simp at hz; done)
              all_goals simp only [zstep] at hz
              case invokestatic ix =>
                split at hz
                · rename_i hl
                  subst hl
                  unfold zcallS at hz
                  split at hz
                  · cases hz
                  · rename_i k0 hres
                    split at hz
                    · exfalso
                      simp only [zcpy, zn] at hz
                      (repeat' (split at hz))
                      all_goals cases hz
                    · split at hz
                      · exfalso
                        simp only [zn] at hz
                        (repeat' (split at hz))
                        all_goals cases hz
                      · split at hz
                        · exfalso
                          simp only [zn] at hz
                          (repeat' (split at hz))
                          all_goals cases hz
                        · split at hz
                          · rename_i hcnd
                            obtain ⟨hk, hk0, hnl, hcat, hroom⟩ := hcnd
                            cases hz
                            have hcm := zcats_mem hcat
                            refine z_call IH Cx hk hres hcall hal (fun w hw => hcm w (List.mem_of_mem_take (List.mem_reverse.mp hw))) hroom hsz hWo hS hcc hss (Or.inl ⟨hk0, hdec, by simp; omega, ?_⟩) cont
                            rw [List.reverse_reverse, List.take_append_drop]
                          · cases hz
                · cases hz
              case invokevirtual ix =>
                split at hz
                · rename_i hl
                  subst hl
                  unfold zcallV at hz
                  split at hz
                  · cases hz
                  · rename_i k0 hres
                    split at hz
                    · exfalso
                      simp only [zclone, zn] at hz
                      (repeat' (split at hz))
                      all_goals cases hz
                    · split at hz
                      · exfalso
                        simp only [zclone, zn] at hz
                        (repeat' (split at hz))
                        all_goals cases hz
                      · split at hz
                        · rename_i hk
                          split at hz
                          · rename_i w rest0 hdrop
                            split at hz
                            · rename_i k2 hinh
                              split at hz
                              · rename_i hcnd
                                obtain ⟨hcat, hroom⟩ := hcnd
                                cases hz
                                have hcm := zcats_mem hcat
                                unfold zinh at hinh
                                split at hinh
                                · rename_i o
                                  split at hinh
                                  · rename_i hom
                                    split at hinh
                                    · rename_i q hq
                                      split at hinh
                                      · rename_i hq1
                                        obtain ⟨q1, q2⟩ := q
                                        dsimp only at hq1
                                        subst hq1
                                        rw [Option.map_eq_some_iff] at hinh
                                        obtain ⟨⟨k3, pv⟩, hv1, hv2⟩ := hinh
                                        dsimp only at hv2
                                        subst hv2
                                        have hst : st = st.take (znar k0) ++ .ref o :: rest := by rw [← hdrop, List.take_append_drop]
                                        have hnl : (st.take (znar k0)).length = znar k0 := by
                                          have := congrArg List.length hdrop
                                          simp at this
                                          simp
                                          omega
                                        have e2 : st.map (zcv E) = ((((st.take (znar k0)).reverse).reverse ++ .ref o :: rest)).map (zcv E) := by rw [List.reverse_reverse, ← hst]
                                        rw [e2]
                                        exact z_callU IH Cx hres hv1 hom hq hdec hcall (by simpa using hal) (fun w hw => hcm w (List.mem_of_mem_take (List.mem_reverse.mp hw))) (by rw [List.length_reverse]; exact hnl) hroom hsz hWo hS hcc hss cont
                                      · cases hinh
                                    · cases hinh
                                  · cases hinh
                                · cases hinh
                              · cases hz
                            · split at hz
                              · rename_i hcnd
                                obtain ⟨hrv, hdir, hcat, hroom⟩ := hcnd
                                cases hz
                                have hcm := zcats_mem hcat
                                have hw : ∃ o, w = .ref o := by
                                  unfold zrecv at hrv
                                  split at hrv
                                  · exact ⟨_, rfl⟩
                                  · cases hrv
                                obtain ⟨o, rfl⟩ := hw
                                have hst : st = st.take (znar k) ++ .ref o :: rest := by rw [← hdrop, List.take_append_drop]
                                have hnl : znar k ≤ st.length := by
                                  have := congrArg List.length hdrop
                                  simp at this
                                  omega
                                refine z_call IH Cx hk.1 hres hcall hal (fun w hw => ?_) hroom hsz hWo hS hcc hss (Or.inr ⟨o, _, rfl, by simp; omega, ?_, Or.inl ⟨hk.2, hdec, hrv, hdir⟩⟩) cont
                                · rcases List.mem_cons.mp hw with rfl | hw
                                  · rfl
                                  · exact hcm w (List.mem_of_mem_take (List.mem_reverse.mp hw))
                                · rw [List.reverse_reverse]
                                  exact hst
                              · cases hz
                          · cases hz
                        · cases hz
                · cases hz
              case invokespecial ix =>
                split at hz
                · rename_i hl
                  subst hl
                  unfold zcallI at hz
                  split at hz
                  · cases hz
                  · rename_i k0 hres
                    split at hz
                    · exfalso
                      simp only [zn] at hz
                      (repeat' (split at hz))
                      all_goals cases hz
                    · split at hz
                      · rename_i hk
                        split at hz
                        · rename_i o rest0 hdrop
                          split at hz
                          · rename_i hcnd
                            obtain ⟨hom, hcat, hroom⟩ := hcnd
                            cases hz
                            have hcm := zcats_mem hcat
                            have hst : st = st.take (znar k) ++ .ref o :: rest := by rw [← hdrop, List.take_append_drop]
                            have hnl : znar k ≤ st.length := by
                              have := congrArg List.length hdrop
                              simp at this
                              omega
                            refine z_call IH Cx hk.1 hres hcall hal (fun w hw => ?_) hroom hsz hWo hS hcc hss (Or.inr ⟨o, _, rfl, by simp; omega, ?_, Or.inr ⟨hk.2, hdec⟩⟩) cont
                            · rcases List.mem_cons.mp hw with rfl | hw
                              · rfl
                              · exact hcm w (List.mem_of_mem_take (List.mem_reverse.mp hw))
                            · rw [List.reverse_reverse]
                              exact hst
                          · cases hz
                        · cases hz
                      · split at hz
                        · rename_i hsu
                          split at hz
                          · rename_i o rest0 hdrop
                            split at hz
                            · rename_i q hq
                              split at hz
                              · rename_i hcnd
                                obtain ⟨hq1, hom, hcat, hroom⟩ := hcnd
                                cases hz
                                obtain ⟨q1, q2⟩ := q
                                dsimp only at hq1
                                subst hq1
                                have hcm := zcats_mem hcat
                                have hst : st = st.take (znar k) ++ .ref o :: rest := by rw [← hdrop, List.take_append_drop]
                                have hnl : (st.take (znar k)).length = znar k := by
                                  have := congrArg List.length hdrop
                                  simp at this
                                  simp
                                  omega
                                have e2 : st.map (zcv E) = ((((st.take (znar k)).reverse).reverse ++ .ref o :: rest)).map (zcv E) := by rw [List.reverse_reverse, ← hst]
                                rw [e2]
                                exact z_callSU IH Cx hres hsu.1 hsu.2 hom hq hdec hcall (by simpa using hal) (fun w hw => hcm w (List.mem_of_mem_take (List.mem_reverse.mp hw))) (by rw [List.length_reverse]; exact hnl) hroom hsz hWo hS hcc hss cont
                              · cases hz
                            · cases hz
                          · cases hz
                        · cases hz
                · cases hz
              all_goals exfalso
              all_goals (try simp only [zld, zst, zbin, zto, zif, zget, zput, zald, zast, zlen, zmka, zmko, zn] at hz)
              all_goals (repeat' (split at hz))
              all_goals first | (cases hz; done) | (simp at hz; done)
          · cases hrun
