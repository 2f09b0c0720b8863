theorem zsta_spec {own ix c : Nat} (h : zsta own ix = some c) : (own, ix, c) ∈ zUL0 := by
  unfold zsta at h
  rw [Option.map_eq_some_iff] at h
  obtain ⟨q, h1, h2⟩ := h
  have h3 := List.find?_some h1
  simp only [Bool.and_eq_true, beq_iff_eq] at h3
  obtain ⟨a, b, c'⟩ := q
  obtain ⟨rfl, rfl⟩ := h3
  cases h2
  exact List.mem_of_find?_eq_some h1
theorem zsta_lt : ∀ q ∈ zUL0, q.2.2 < 4 := by decide +kernel
section ZNEXT
variable {p : Program} {l : Launch} {e : Env} {R : Room} {s : State} {m : MethodId} {args : Array Value} {below : List Frame} {meth : Method} {c : Code} {H : Heap} {locs : List Loc} {cells slots : Nat} {Q : State → Prop}
set_option maxHeartbeats 4000000 in
/-- a step that goes on -/
theorem z_next {E : ZE} {d y pc len : Nat} {ins : Instr} {ls' : Array Slot} {ls : List Slot} {st : List Value} {h : ZH} {x : Nat × List Slot × List Value × ZH} (Cx : zCx E d y p R s m args meth c) (hdec : decode (zcode y) pc = .ok (ins, len)) (hz : zstep (zeS E) y pc ins len ls st h = some (.inl x)) (hL : zLv E ls' ls) (hlen : ls.length = zml y) (hWo : zWo E h H) (hS : va_S (zA E) s.heap H locs)
    (hc1 : cells + x.2.2.2.2.2.length ≤ R.cells + h.2.2.length) (hs1 : slots + zsl x.2.2.2 ≤ R.slots + zsl h)
    (hgo : ∀ (H1 : Heap) (locs1 : List Loc) (c1 s1 : Nat) (ls1 : Array Slot), zLv E ls1 x.2.1 → x.2.1.length = zml y → c1 + h.2.2.length = cells + x.2.2.2.2.2.length → s1 + zsl h = slots + zsl x.2.2.2 → zWo E x.2.2.2 H1 → va_S (zA E) s.heap H1 locs1 → W p l e R s m args below meth c H1 locs1 c1 s1 Q (F0 m x.1 ls1 (x.2.2.1.map (zcv E)))) : W p l e R s m args below meth c H locs cells slots Q (F0 m pc ls' (st.map (zcv E))) := by
  obtain ⟨hx, hb, hml, hown, hinit, hts, hSt, hfr, hlo⟩ := id Cx
  have hO := hSt.2.2.2.2.2.2.2.2.2.1
  have g0 : ∀ (pc' : Nat) (st2 : List Value), x = (pc', ls, st2, h) → W p l e R s m args below meth c H locs cells slots Q (F0 m pc' ls' (st2.map (zcv E))) := by
    intro pc' st2 hxe
    subst hxe
    exact hgo H locs cells slots ls' hL hlen rfl rfl hWo hS
  have gS : ∀ (pc' i : Nat) (v : Value) (st2 : List Value) (ls2 : Array Slot) (lv : List (Nat × Value)), x = (pc', ls.set i (.val v), st2, h) → i < ls.length → v.category = 1 → (∀ q ∈ zlv E ls, q ∈ lv) → lv_has ls2 ls.length ((i, zcv E v) :: lv.filter (fun q => !(q.1 == i) && !(q.1 + 1 == i && q.2.category == 2))) → W p l e R s m args below meth c H locs cells slots Q (F0 m pc' ls2 (st2.map (zcv E))) := by
    intro pc' i v st2 ls2 lv hxe hi hv hsub h2
    subst hxe
    exact hgo H locs cells slots ls2 (hL.set hO hi hv hsub h2) (by simpa using hlen) rfl rfl hWo hS
  have gM : x.2.2.2.2.2 = h.2.2 → ∀ (H1 : Heap) (locs1 : List Loc), x.2.1 = ls → zWo E x.2.2.2 H1 → va_S (zA E) s.heap H1 locs1 → W p l e R s m args below meth c H1 locs1 cells slots Q (F0 m x.1 ls' (x.2.2.1.map (zcv E))) := by
    intro hsame H1 locs1 hls hW1 hS1
    refine hgo H1 locs1 cells slots ls' (by rw [hls]; exact hL) (by rw [hls]; exact hlen) (by rw [hsame]) ?_ hW1 hS1
    unfold zsl; rw [hsame]
  have bin : ∀ (f : Int32 → Int32 → Int32), zbin f pc ls st h = some (.inl x) → (∀ (a b : Int32) (rest : List Value), W p l e R s m args below meth c H locs cells slots Q (F0 m (pc + 1) ls' (.int (f a b) :: rest)) → W p l e R s m args below meth c H locs cells slots Q (F0 m pc ls' (.int b :: .int a :: rest))) → W p l e R s m args below meth c H locs cells slots Q (F0 m pc ls' (st.map (zcv E))) := by
    intro f hz row
    obtain ⟨a, b, st', rfl, rfl⟩ := zbin_spec hz
    exact row a b _ (g0 _ _ rfl)
  cases ins
  case iconst n =>
    simp only [zstep, zn] at hz; split at hz
    · rename_i hl; subst hl; cases hz; exact lv_iconst hx hb hdec rfl (g0 _ _ rfl)
    · cases hz
  case bipush n =>
    simp only [zstep, zn] at hz; split at hz
    · rename_i hl; subst hl; cases hz; exact lv_bipush hx hb hdec rfl (g0 _ _ rfl)
    · cases hz
  case sipush n =>
    simp only [zstep, zn] at hz; split at hz
    · rename_i hl; subst hl; cases hz; exact lv_sipush hx hb hdec rfl (g0 _ _ rfl)
    · cases hz
  case ldc i =>
    simp only [zstep, zn] at hz; split at hz
    · rename_i hl; subst hl
      split at hz
      · rename_i k hk
        cases hz
        obtain ⟨tx, ht⟩ := zstr_spec hk
        have hZ := hSt.2.2.2.2.1 _ _ ht
        have hkl : k < 23 := by rw [← zSL_len]; exact (List.getElem?_eq_some_iff.mp ht).1
        have e1 : zad E (2000000 + k) = zeK E k := by
          rw [(zad_txt (E := E) (o := 2000000 + k) (by omega) (by rw [zSR_len]; omega)).1, show 2000000 + k - 2000000 = k by omega]
        have hg := g0 _ _ rfl
        rw [List.map_cons, show zcv E (.ref (2000000 + k)) = .ref (zeK E k) by rw [← e1]; rfl] at hg
        exact va_ldcS hx hb hown hZ hdec hg
      · split at hz
        · rename_i v hv
          cases hz
          exact lv_ldc hx hb hown (hts _ (zTB_in (zKok _ (zcon_spec hv)) rfl)) hdec (g0 _ _ rfl)
        · cases hz
    · cases hz
  case ldc_w i =>
    simp only [zstep, zn] at hz; split at hz
    · rename_i hl; subst hl
      split at hz
      · rename_i v hv
        cases hz
        exact lv_ldcw hx hb hown (hts _ (zTB_in (zKok _ (zcon_spec hv)) rfl)) hdec (g0 _ _ rfl)
      · cases hz
    · cases hz
  case iload i =>
    simp only [zstep] at hz; split at hz
    · rename_i hl; subst hl
      obtain ⟨v, hv, rfl⟩ := zld_int hz
      exact lv_iload hx hb hdec (hL.at hv) (g0 _ _ rfl)
    · cases hz
  case iload_n i =>
    simp only [zstep] at hz; split at hz
    · rename_i hl; subst hl
      obtain ⟨v, hv, rfl⟩ := zld_int hz
      exact lv_iload_n hx hb hdec rfl (hL.at hv) (g0 _ _ rfl)
    · cases hz
  case aload i =>
    simp only [zstep] at hz; split at hz
    · rename_i hl; subst hl
      rcases zld_ref hz with ⟨v, hv, rfl⟩ | ⟨hv, rfl⟩
      · exact lv_aload hx hb hdec (hL.at hv) (g0 _ _ rfl)
      · exact lv_aloadN hx hb hdec (hL.at hv) (g0 _ _ rfl)
    · cases hz
  case aload_n i =>
    simp only [zstep] at hz; split at hz
    · rename_i hl; subst hl
      rcases zld_ref hz with ⟨v, hv, rfl⟩ | ⟨hv, rfl⟩
      · exact lv_aload_n hx hb hdec rfl (hL.at hv) (g0 _ _ rfl)
      · exact lv_aload_nN hx hb hdec rfl (hL.at hv) (g0 _ _ rfl)
    · cases hz
  case istore i =>
    simp only [zstep] at hz; split at hz
    · rename_i hl; subst hl
      obtain ⟨v, st', rfl, hi, hxe⟩ := zst_int hz
      exact lv_istore hx hb hdec hL.has hi rfl (fun ls2 h2 => gS _ i (.int v) _ _ _ hxe hi rfl (fun _ q => q) h2)
    · cases hz
  case istore_n i =>
    simp only [zstep] at hz; split at hz
    · rename_i hl; subst hl
      obtain ⟨v, st', rfl, hi, hxe⟩ := zst_int hz
      exact lv_istore_n hx hb hdec rfl hL.has hi rfl (fun ls2 h2 => gS _ i.val (.int v) _ _ _ hxe hi rfl (fun _ q => q) h2)
    · cases hz
  case astore i =>
    simp only [zstep] at hz; split at hz
    · rename_i hl; subst hl
      rcases zst_ref hz with ⟨v, st', rfl, hi, hxe⟩ | ⟨st', rfl, hi, hxe⟩
      · exact lv_astore hx hb hdec hL.has hi rfl (fun ls2 h2 => gS _ i (.ref v) _ _ _ hxe hi rfl (fun _ q => q) h2)
      · exact lv_astoreN hx hb hdec hL.has hi rfl (fun ls2 h2 => gS _ i .null _ _ _ hxe hi rfl (fun _ q => q) h2)
    · cases hz
  case astore_n i =>
    simp only [zstep] at hz; split at hz
    · rename_i hl; subst hl
      rcases zst_ref hz with ⟨v, st', rfl, hi, hxe⟩ | ⟨st', rfl, hi, hxe⟩
      · exact lv_astore_n hx hb hdec rfl hL.has hi rfl (fun ls2 h2 => gS _ i.val (.ref v) _ _ _ hxe hi rfl (fun _ q => q) h2)
      · exact lv_astore_nN hx hb hdec rfl hL.has hi rfl (fun ls2 h2 => gS _ i.val .null _ _ _ hxe hi rfl (fun _ q => q) h2)
    · cases hz
  case iinc i n =>
    simp only [zstep, zn] at hz; split at hz
    · rename_i hl; subst hl
      split at hz
      · rename_i v hv
        cases hz
        have hi : i < ls.length := (List.getElem?_eq_some_iff.mp hv).1
        have hh : lv_has ls' ls.length ((i, .int v) :: zlv E ls) := ⟨hL.has.1, hL.has.2.1, fun q hq => by
          rcases List.mem_cons.mp hq with rfl | hq
          · exact hL.at hv
          · exact hL.has.2.2 q hq⟩
        exact lv_iinc (k := 0) hx hb hdec hh rfl rfl hi rfl (fun ls2 h2 => gS _ i (.int (v + Int32.ofInt n)) _ _ _ rfl hi rfl (fun q hq => List.mem_cons_of_mem _ hq) h2)
      · cases hz
    · cases hz
  case iadd => simp only [zstep] at hz; split at hz; (rename_i hl; subst hl; exact bin _ hz (fun a b rest k => lv_iadd hx hb hdec k)); cases hz
  case isub => simp only [zstep] at hz; split at hz; (rename_i hl; subst hl; exact bin _ hz (fun a b rest k => lv_isub hx hb hdec k)); cases hz
  case imul => simp only [zstep] at hz; split at hz; (rename_i hl; subst hl; exact bin _ hz (fun a b rest k => lv_imul hx hb hdec k)); cases hz
  case iand => simp only [zstep] at hz; split at hz; (rename_i hl; subst hl; exact bin _ hz (fun a b rest k => lv_iand hx hb hdec k)); cases hz
  case ior => simp only [zstep] at hz; split at hz; (rename_i hl; subst hl; exact bin _ hz (fun a b rest k => lv_ior hx hb hdec k)); cases hz
  case ixor => simp only [zstep] at hz; split at hz; (rename_i hl; subst hl; exact bin _ hz (fun a b rest k => lv_ixor hx hb hdec k)); cases hz
  case ishl => simp only [zstep] at hz; split at hz; (rename_i hl; subst hl; exact bin _ hz (fun a b rest k => lv_ishl hx hb hdec k)); cases hz
  case ishr => simp only [zstep] at hz; split at hz; (rename_i hl; subst hl; exact bin _ hz (fun a b rest k => lv_ishr hx hb hdec k)); cases hz
  case iushr => simp only [zstep] at hz; split at hz; (rename_i hl; subst hl; exact bin _ hz (fun a b rest k => lv_iushr hx hb hdec rfl k)); cases hz
  case idiv =>
    simp only [zstep, zn] at hz; split at hz
    · rename_i hl; subst hl
      split at hz
      · split at hz
        · rename_i hne; cases hz; exact lv_idiv hx hb hdec hne (g0 _ _ rfl)
        · cases hz
      · cases hz
    · cases hz
  case irem =>
    simp only [zstep, zn] at hz; split at hz
    · rename_i hl; subst hl
      split at hz
      · split at hz
        · rename_i hne; cases hz; exact lv_irem hx hb hdec hne (g0 _ _ rfl)
        · cases hz
      · cases hz
    · cases hz
  case i2c =>
    simp only [zstep, zn] at hz; split at hz
    · rename_i hl; subst hl
      split at hz
      · cases hz; exact lv_i2c hx hb hdec rfl (g0 _ _ rfl)
      · cases hz
    · cases hz
  case dup =>
    simp only [zstep, zn] at hz; split at hz
    · rename_i hl; subst hl
      split at hz
      · split at hz
        · rename_i hcat; cases hz; exact lv_dup hx hb hdec (by rw [zcv_cat hO]; exact hcat) (g0 _ _ rfl)
        · cases hz
      · cases hz
    · cases hz
  case dup2 =>
    simp only [zstep, zn] at hz; split at hz
    · rename_i hl; subst hl
      split at hz
      · split at hz
        · rename_i hcat; cases hz; exact lv_dup2_11 hx hb hdec (by rw [zcv_cat hO]; exact hcat.1) (by rw [zcv_cat hO]; exact hcat.2) (g0 _ _ rfl)
        · cases hz
      · cases hz
    · cases hz
  case pop =>
    simp only [zstep, zn] at hz; split at hz
    · rename_i hl; subst hl
      split at hz
      · split at hz
        · rename_i hcat; cases hz; exact lv_pop hx hb hdec (by rw [zcv_cat hO]; exact hcat) (g0 _ _ rfl)
        · cases hz
      · cases hz
    · cases hz
  case goto off =>
    simp only [zstep] at hz; split at hz
    · rename_i hl; subst hl
      obtain ⟨tgt, ht, rfl⟩ := zto_spec hz
      exact lv_goto hx hb hdec ht (g0 _ _ rfl)
    · cases hz
  case ifCond k off =>
    simp only [zstep] at hz; split at hz
    · rename_i hl; subst hl
      split at hz
      · rename_i a st'
        obtain ⟨tgt, ht, hcx⟩ := zif_spec hz
        have kt : zcmp k a 0 → W p l e R s m args below meth c H locs cells slots Q (F0 m tgt ls' (st'.map (zcv E))) := by
          intro q
          rcases hcx with ⟨hc, rfl⟩ | ⟨hc, rfl⟩
          · exact g0 _ _ rfl
          · rw [zcmpB_iff.mpr q] at hc; cases hc
        have kf : ¬ zcmp k a 0 → W p l e R s m args below meth c H locs cells slots Q (F0 m (pc + 3) ls' (st'.map (zcv E))) := by
          intro q
          rcases hcx with ⟨hc, rfl⟩ | ⟨hc, rfl⟩
          · exact absurd (zcmpB_iff.mp hc) q
          · exact g0 _ _ rfl
        cases k
        · exact lv_if_eq hx hb hdec ht kt kf
        · exact lv_if_ne hx hb hdec ht kt (fun q => kf (fun z => z q))
        · exact lv_if_lt hx hb hdec ht kt kf
        · exact lv_if_ge hx hb hdec ht kt kf
        · exact lv_if_gt hx hb hdec ht kt kf
        · exact lv_if_le hx hb hdec ht kt kf
      · cases hz
    · cases hz
  case if_icmp k off =>
    simp only [zstep] at hz; split at hz
    · rename_i hl; subst hl
      split at hz
      · rename_i b a st'
        obtain ⟨tgt, ht, hcx⟩ := zif_spec hz
        have kt : zcmp k a b → W p l e R s m args below meth c H locs cells slots Q (F0 m tgt ls' (st'.map (zcv E))) := by
          intro q
          rcases hcx with ⟨hc, rfl⟩ | ⟨hc, rfl⟩
          · exact g0 _ _ rfl
          · rw [zcmpB_iff.mpr q] at hc; cases hc
        have kf : ¬ zcmp k a b → W p l e R s m args below meth c H locs cells slots Q (F0 m (pc + 3) ls' (st'.map (zcv E))) := by
          intro q
          rcases hcx with ⟨hc, rfl⟩ | ⟨hc, rfl⟩
          · exact absurd (zcmpB_iff.mp hc) q
          · exact g0 _ _ rfl
        cases k
        · exact lv_icmp_eq hx hb hdec ht kt kf
        · exact lv_icmp_ne hx hb hdec ht kt (fun q => kf (fun z => z q))
        · exact lv_icmp_lt hx hb hdec ht kt kf
        · exact lv_icmp_ge hx hb hdec ht kt kf
        · exact lv_icmp_gt hx hb hdec ht kt kf
        · exact lv_icmp_le hx hb hdec ht kt kf
      · cases hz
    · cases hz
  case ifnull off =>
    simp only [zstep, zn] at hz; split at hz
    · rename_i hl; subst hl
      split at hz
      · obtain ⟨tgt, ht, rfl⟩ := zto_spec hz
        exact lv_ifnullN hx hb hdec ht (g0 _ _ rfl)
      · cases hz; exact lv_ifnull hx hb hdec (g0 _ _ rfl)
      · cases hz
    · cases hz
  case ifnonnull off =>
    simp only [zstep, zn] at hz; split at hz
    · rename_i hl; subst hl
      split at hz
      · cases hz; exact lv_ifnonnullN hx hb hdec (g0 _ _ rfl)
      · obtain ⟨tgt, ht, rfl⟩ := zto_spec hz
        exact lv_ifnonnull hx hb hdec ht (g0 _ _ rfl)
      · cases hz
    · cases hz
  case aconst_null =>
    simp only [zstep, zn] at hz; split at hz
    · rename_i hl; subst hl; cases hz; exact lv_null hx hb hdec (g0 _ _ rfl)
    · cases hz
  case tableswitch dd lo hi offs =>
    simp only [zstep] at hz
    split at hz
    · split at hz
      · rename_i hout
        obtain ⟨tgt, ht, rfl⟩ := zto_spec hz
        exact lv_tableOut hx hb hdec hout ht (g0 _ _ rfl)
      · rename_i hin
        split at hz
        · rename_i off hoff
          obtain ⟨tgt, ht, rfl⟩ := zto_spec hz
          exact lv_tableIn hx hb hdec (fun q => hin (Or.inl q)) (fun q => hin (Or.inr q)) hoff ht (g0 _ _ rfl)
        · cases hz
    · cases hz
  case lookupswitch dd ps =>
    simp only [zstep] at hz
    split at hz
    · split at hz
      · rename_i hp
        obtain ⟨tgt, ht, rfl⟩ := zto_spec hz
        exact lv_lookup hx hb hdec hp rfl ht (g0 _ _ rfl)
      · cases hz
    · cases hz
  case getstatic ix =>
    simp only [zstep, zn] at hz; split at hz
    · rename_i hl; subst hl
      split at hz
      · rename_i w hw
        cases hz
        have hin := zsta_spec hw
        obtain ⟨-, -, c3, c4, -⟩ := hSt.2.2.2.2.2.2.2.2.2.2.2
        have hw4 := zsta_lt _ hin
        have hg := g0 _ _ rfl
        rw [List.map_cons] at hg
        rcases (show w = 0 ∨ w = 1 ∨ w = 2 ∨ w = 3 by dsimp only at hw4; omega) with rfl | rfl | rfl | rfl
        · exact va_gets hx hb hSt.2.2.2.2.2.1 hS hown (hts _ (zTB_in (zUok _ hin) rfl)) (fun _ z => z) hdec hg
        · exact va_gets hx hb hSt.2.2.2.2.2.2.1 hS hown (hts _ (zTB_in (zUok _ hin) rfl)) (fun _ z => z) hdec hg
        · have e : zcv E (zstv 2) = .ref (zeV E zSR.length) := by
            have h9 := (zad_byt (E := E) (o := 3000000 + zSR.length + 0) (by omega) (by rw [zSR_len, zBY_len]; omega)).1
            show Value.ref (zad E (3000000 + zSR.length + 0)) = _
            rw [h9, show 3000000 + zSR.length + 0 - 3000000 = zSR.length by omega]
          rw [e] at hg
          exact va_gets hx hb c3 hS hown (hts _ (zTB_in (zUok _ hin) rfl)) (fun _ z => z) hdec hg
        · have e : zcv E (zstv 3) = .ref (zeV E (zSR.length + 1)) := by
            have h9 := (zad_byt (E := E) (o := 3000000 + zSR.length + 1) (by omega) (by rw [zSR_len, zBY_len]; omega)).1
            show Value.ref (zad E (3000000 + zSR.length + 1)) = _
            rw [h9, show 3000000 + zSR.length + 1 - 3000000 = zSR.length + 1 by omega]
          rw [e] at hg
          exact va_gets hx hb c4 hS hown (hts _ (zTB_in (zUok _ hin) rfl)) (fun _ z => z) hdec hg
      · cases hz
    · cases hz
  case ineg =>
    simp only [zstep, zn] at hz; split at hz
    · rename_i hl; subst hl
      split at hz
      · cases hz; exact lv_ineg hx hb hdec (g0 _ _ rfl)
      · cases hz
    · cases hz
  case dup_x1 =>
    simp only [zstep, zn] at hz; split at hz
    · rename_i hl; subst hl
      split at hz
      · split at hz
        · rename_i hcat; cases hz; exact lv_dup_x1 hx hb hdec (by rw [zcv_cat hO]; exact hcat.1) (by rw [zcv_cat hO]; exact hcat.2) (g0 _ _ rfl)
        · cases hz
      · cases hz
    · cases hz
  case checkcast ix =>
    simp only [zstep, zn] at hz; split at hz
    · rename_i hl; subst hl
      split at hz
      · rename_i o st'
        split at hz
        · rename_i q a hq ha
          obtain ⟨q1, q2⟩ := q
          have hg := zWs_get (E := E) hq
          rw [← zsh_lt hWo hq] at hg
          have h9 := zAok _ (zacl_spec ha)
          unfold zAw at h9
          dsimp only at h9 hz
          by_cases ha0 : a = 0
          · rw [if_pos ha0] at h9 hz
            split at hz
            · rename_i hq1
              subst hq1
              cases hz
              exact va_castA hx hb hown (hts _ (zTB_in h9 rfl)) hWo.2.1 o hg (hSt.1.2 0 _ rfl).2 hdec (g0 _ _ rfl)
            · cases hz
          · rw [if_neg ha0] at h9 hz
            split at hz
            · rename_i hq1
              subst hq1
              cases hz
              exact va_castA hx hb hown (hts _ (zTB_in h9 rfl)) hWo.2.1 o hg (hSt.1.2 3 _ rfl).2 hdec (g0 _ _ rfl)
            · cases hz
        · cases hz
      · cases hz
    · cases hz
  case getfield ix =>
    simp only [zstep] at hz; split at hz
    · rename_i hl; subst hl
      refine zs_get Cx hdec hz hWo hS (fun h1 h2 => ?_)
      obtain ⟨x1, x2, x3, x4⟩ := x
      dsimp only at h1 h2
      subst h1; subst h2
      exact g0 _ _ rfl
    · cases hz
  case putfield ix =>
    simp only [zstep] at hz; split at hz
    · rename_i hl; subst hl
      exact zs_put Cx hdec hz hWo hS (fun H1 locs1 h1 h2 hW1 hS1 => gM h2 H1 locs1 h1 hW1 hS1)
    · cases hz
  case iaload =>
    simp only [zstep] at hz; split at hz
    · rename_i hl; subst hl
      refine zs_ald Cx (Or.inl ⟨rfl, hdec⟩) hz hWo hS (fun h1 h2 => ?_)
      obtain ⟨x1, x2, x3, x4⟩ := x
      dsimp only at h1 h2
      subst h1; subst h2
      exact g0 _ _ rfl
    · cases hz
  case baload =>
    simp only [zstep] at hz; split at hz
    · rename_i hl; subst hl
      refine zs_ald Cx (Or.inr (Or.inl ⟨rfl, hdec⟩)) hz hWo hS (fun h1 h2 => ?_)
      obtain ⟨x1, x2, x3, x4⟩ := x
      dsimp only at h1 h2
      subst h1; subst h2
      exact g0 _ _ rfl
    · cases hz
  case aaload =>
    simp only [zstep] at hz; split at hz
    · rename_i hl; subst hl
      refine zs_ald Cx (Or.inr (Or.inr ⟨rfl, hdec⟩)) hz hWo hS (fun h1 h2 => ?_)
      obtain ⟨x1, x2, x3, x4⟩ := x
      dsimp only at h1 h2
      subst h1; subst h2
      exact g0 _ _ rfl
    · cases hz
  case iastore =>
    simp only [zstep] at hz; split at hz
    · rename_i hl; subst hl
      exact zs_ast Cx (Or.inl ⟨rfl, hdec⟩) hz hWo hS (fun H1 locs1 h1 h2 hW1 hS1 => gM h2 H1 locs1 h1 hW1 hS1)
    · cases hz
  case bastore =>
    simp only [zstep] at hz; split at hz
    · rename_i hl; subst hl
      exact zs_ast Cx (Or.inr (Or.inl ⟨rfl, hdec⟩)) hz hWo hS (fun H1 locs1 h1 h2 hW1 hS1 => gM h2 H1 locs1 h1 hW1 hS1)
    · cases hz
  case aastore =>
    simp only [zstep] at hz; split at hz
    · rename_i hl; subst hl
      exact zs_ast Cx (Or.inr (Or.inr ⟨rfl, hdec⟩)) hz hWo hS (fun H1 locs1 h1 h2 hW1 hS1 => gM h2 H1 locs1 h1 hW1 hS1)
    · cases hz
  case arraylength =>
    simp only [zstep] at hz; split at hz
    · rename_i hl; subst hl
      refine zs_len Cx hdec hz hWo hS (fun h1 h2 => ?_)
      obtain ⟨x1, x2, x3, x4⟩ := x
      dsimp only at h1 h2
      subst h1; subst h2
      exact g0 _ _ rfl
    · cases hz
  case newarray a9 =>
    cases a9 <;> simp only [zstep] at hz
    case int =>
      split at hz
      · rename_i hl; subst hl
        exact zs_mka Cx (Or.inl ⟨rfl, rfl⟩) hdec hz hWo hS hc1 hs1 (fun H1 c1 s1 h1 hc hs hW1 hS1 => hgo H1 locs c1 s1 ls' (by rw [h1]; exact hL) (by rw [h1]; exact hlen) hc hs hW1 hS1)
      · cases hz
    case boolean =>
      split at hz
      · rename_i hl; subst hl
        exact zs_mka Cx (Or.inr (Or.inl ⟨rfl, rfl⟩)) hdec hz hWo hS hc1 hs1 (fun H1 c1 s1 h1 hc hs hW1 hS1 => hgo H1 locs c1 s1 ls' (by rw [h1]; exact hL) (by rw [h1]; exact hlen) hc hs hW1 hS1)
      · cases hz
    case byte =>
      split at hz
      · rename_i hl; subst hl
        exact zs_mka Cx (Or.inr (Or.inr ⟨rfl, rfl⟩)) hdec hz hWo hS hc1 hs1 (fun H1 c1 s1 h1 hc hs hW1 hS1 => hgo H1 locs c1 s1 ls' (by rw [h1]; exact hL) (by rw [h1]; exact hlen) hc hs hW1 hS1)
      · cases hz
    all_goals (cases hz)
  case anewarray ix =>
    simp only [zstep] at hz; split at hz
    · rename_i hl; subst hl
      have hfin : ∀ (H1 : Heap) (c1 s1 : Nat), x.2.1 = ls → c1 + h.2.2.length = cells + x.2.2.2.2.2.length → s1 + zsl h = slots + zsl x.2.2.2 → zWo E x.2.2.2 H1 → va_S (zA E) s.heap H1 locs → W p l e R s m args below meth c H1 locs c1 s1 Q (F0 m x.1 ls' (x.2.2.1.map (zcv E))) := fun H1 c1 s1 h1 hc hs hW1 hS1 => hgo H1 locs c1 s1 ls' (by rw [h1]; exact hL) (by rw [h1]; exact hlen) hc hs hW1 hS1
      split at hz
      · rename_i c0 hnw
        split at hz
        · rename_i h2; subst h2
          exact zs_mkq Cx (Or.inl ⟨rfl, rfl⟩) hnw hdec hz hWo hS hc1 hs1 hfin
        · split at hz
          · rename_i h10; subst h10
            exact zs_mkq Cx (Or.inr ⟨rfl, rfl⟩) hnw hdec hz hWo hS hc1 hs1 hfin
          · cases hz
      · split at hz
        · rename_i hac
          exact zs_mkQ Cx hac hdec hz hWo hS hc1 hs1 hfin
        · cases hz
    · cases hz
  case new ix =>
    simp only [zstep] at hz; split at hz
    · rename_i hl; subst hl
      exact zs_mko Cx hdec hz hWo hS hc1 hs1 (fun H1 c1 s1 h1 hc hs hW1 hS1 => hgo H1 locs c1 s1 ls' (by rw [h1]; exact hL) (by rw [h1]; exact hlen) hc hs hW1 hS1)
    · cases hz
  case invokestatic ix =>
    simp only [zstep] at hz; split at hz
    · rename_i hl; subst hl
      unfold zcallS at hz
      split at hz
      · cases hz
      · rename_i k hres
        obtain ⟨nest, hin⟩ := zres_spec hres
        have hlinkw := zMok _ hin
        have hnest : zNM ≤ k → nest = false := by
          intro hk
          cases nest with
          | false => rfl
          | true => exact absurd rfl (zMnn _ hin hk)
        split at hz
        · rename_i h1000; subst h1000
          exact zs_cpy Cx (hL.2.1.trans hlen) hres hdec hz hWo hS (fun H1 locs1 h1 h2 hW1 hS1 => gM h2 H1 locs1 h1 hW1 hS1)
        · split at hz
          · rename_i h1001; subst h1001
            have hn := hnest (by decide)
            subst hn
            unfold zMw at hlinkw
            simp only [Bool.false_eq_true, if_false] at hlinkw
            rw [show zcal 1001 = Lib.Math.max.name by unfold zcal; rfl] at hlinkw
            split at hz
            · rename_i b a st'
              split at hz
              · rename_i hroom
                simp only [zn] at hz
                cases hz
                dsimp only at hc1 hs1
                have hsum : ((st'.map (zcv E)).map fun v => v.category).sum ≤ 8 := by rw [zcv_cats hO]; exact Nat.le_of_ble_eq_true hroom
                exact va_mmax hx hb (hml.trans (hL.2.1.trans hlen).symm) hown (hts _ (zTB_in hlinkw rfl)) (hts _ (zTB_in zw_mxs rfl)) (hts _ (zTB_in zw_mi rfl)) (hts _ (zTB_in zw_mxc rfl)) (by omega) (by omega) (by omega) (by omega) hdec (g0 _ _ rfl)
              · cases hz
            · cases hz
          · split at hz
            · rename_i h1002; subst h1002
              have hn := hnest (by decide)
              subst hn
              unfold zMw at hlinkw
              simp only [Bool.false_eq_true, if_false] at hlinkw
              rw [show zcal 1002 = Lib.Math.min.name by unfold zcal; rfl] at hlinkw
              split at hz
              · rename_i b a st'
                split at hz
                · rename_i hroom
                  simp only [zn] at hz
                  cases hz
                  dsimp only at hc1 hs1
                  have hsum : ((st'.map (zcv E)).map fun v => v.category).sum ≤ 8 := by rw [zcv_cats hO]; exact Nat.le_of_ble_eq_true hroom
                  exact va_mmin hx hb (hml.trans (hL.2.1.trans hlen).symm) hown (hts _ (zTB_in hlinkw rfl)) (hts _ (zTB_in zw_mns rfl)) (hts _ (zTB_in zw_mi rfl)) (hts _ (zTB_in zw_mnc rfl)) (by omega) (by omega) (by omega) (by omega) hdec (g0 _ _ rfl)
                · cases hz
              · cases hz
            · split at hz <;> cases hz
    · cases hz
  case invokevirtual ix =>
    simp only [zstep] at hz; split at hz
    · rename_i hl; subst hl
      have hfin : ∀ (H1 : Heap) (c1 s1 : Nat), x.2.1 = ls → c1 + h.2.2.length = cells + x.2.2.2.2.2.length → s1 + zsl h = slots + zsl x.2.2.2 → zWo E x.2.2.2 H1 → va_S (zA E) s.heap H1 locs → W p l e R s m args below meth c H1 locs c1 s1 Q (F0 m x.1 ls' (x.2.2.1.map (zcv E))) := fun H1 c1 s1 h1 hc hs hW1 hS1 => hgo H1 locs c1 s1 ls' (by rw [h1]; exact hL) (by rw [h1]; exact hlen) hc hs hW1 hS1
      unfold zcallV at hz
      split at hz
      · cases hz
      · rename_i k hres
        split at hz
        · rename_i h4; subst h4
          exact zs_clone Cx (hL.2.1.trans hlen) (Or.inl ⟨rfl, hres⟩) hdec hz hWo hS hc1 hs1 hfin
        · split at hz
          · rename_i h5; subst h5
            exact zs_clone Cx (hL.2.1.trans hlen) (Or.inr ⟨rfl, hres⟩) hdec hz hWo hS hc1 hs1 hfin
          · exfalso
            repeat' (split at hz)
            all_goals cases hz
    · cases hz
  case invokespecial ix =>
    simp only [zstep] at hz; split at hz
    · rename_i hl; subst hl
      unfold zcallI at hz
      split at hz
      · cases hz
      · rename_i k hres
        obtain ⟨nest, hin⟩ := zres_spec hres
        have hlinkw := zMok _ hin
        have hnest : zNM ≤ k → nest = false := by
          intro hk
          cases nest with
          | false => rfl
          | true => exact absurd rfl (zMnn _ hin hk)
        split at hz
        · rename_i h1003; subst h1003
          have hn := hnest (by decide)
          subst hn
          unfold zMw at hlinkw
          simp only [Bool.false_eq_true, if_false] at hlinkw
          rw [show zcal 1003 = Lib.objectInit by unfold zcal; rfl] at hlinkw
          split at hz
          · split at hz
            · rename_i hroom
              simp only [zn] at hz
              cases hz
              have hsum := Nat.le_of_ble_eq_true hroom.2
              rw [← zcv_cats hO] at hsum
              refine W.objInit hx hb hown (hts _ (zTB_in hlinkw rfl)) (hts _ (zTB_in zw_oi rfl)) (hts _ (zTB_in zw_oc rfl)) rfl (by rw [hml]; exact hL.2.1.trans hlen) rfl hdec (by omega) (by show 2 * 0 + _ + _ ≤ _; omega) (g0 _ _ rfl)
            · cases hz
          · cases hz
        · exfalso
          repeat' (split at hz)
          all_goals cases hz
    · cases hz
  case areturn =>
    exfalso
    simp only [zstep] at hz
    repeat' (split at hz)
    all_goals cases hz
  case ireturn =>
    exfalso
    simp only [zstep] at hz
    repeat' (split at hz)
    all_goals cases hz
  case return_ =>
    exfalso
    simp only [zstep] at hz
    repeat' (split at hz)
    all_goals cases hz
  all_goals (exact absurd hz (by intro q; cases q))
end ZNEXT
