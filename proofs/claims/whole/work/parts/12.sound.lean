section ZNEXT
variable {p : Program} {l : Launch} {e : Env} {R : Room} {s : State} {m : MethodId} {args : Array Value} {below : List Frame} {meth : Method} {c : Code} {H : Heap} {locs : List Loc} {cells slots : Nat} {Q : State → Prop}
set_option maxHeartbeats 4000000 in
/-- a step that goes on -/
theorem z_next {E : ZE} {d y pc len : Nat} {ins : Instr} {ls' : Array Slot} {ls : List Slot} {st : List Value} {h : ZH} {x : Nat × List Slot × List Value × ZH} (Cx : zCx E d y p R s m args meth c) (hdec : decode (zcode y) pc = .ok (ins, len)) (hz : zstep (zeS E) y pc ins len ls st h = some (.inl x)) (hL : zLv E ls' ls) (hlen : ls.length = zml y) (hWo : zWo E h H) (hS : va_S (zA E) s.heap H locs)
    (hc1 : cells + x.2.2.2.2.2.length ≤ R.cells + h.2.2.length) (hs1 : slots + zsl x.2.2.2 ≤ R.slots + zsl h)
    (hgo : ∀ (H1 : Heap) (locs1 : List Loc) (c1 s1 : Nat) (ls1 : Array Slot), zLv E ls1 x.2.1 → x.2.1.length = zml y → c1 + h.2.2.length = cells + x.2.2.2.2.2.length → s1 + zsl h = slots + zsl x.2.2.2 → zWo E x.2.2.2 H1 → va_S (zA E) s.heap H1 locs1 → W p l e R s m args below meth c H1 locs1 c1 s1 Q (F0 m x.1 ls1 (x.2.2.1.map (zcv E)))) : W p l e R s m args below meth c H locs cells slots Q (F0 m pc ls' (st.map (zcv E))) := by
  obtain ⟨hx, hb, hml, hown, hinit, hts, hSt, hfr, hlo⟩ := id Cx
  have hO := hSt.2.2.2.2.2.2.2.2.2.1
  have g0 : ∀ (pc' : Nat) (st2 : List Value), x = (pc', ls, st2, h) → W p l e R s m args below meth c H locs cells slots Q (F0 m pc' ls' (st2.map (zcv E))) := by
    intro pc' st2 hxe
    subst hxe
    exact hgo H locs cells slots ls' hL hlen rfl rfl hWo hS
  have gS : ∀ (pc' i : Nat) (v : Value) (st2 : List Value) (ls2 : Array Slot) (lv : List (Nat × Value)), x = (pc', ls.set i (.val v), st2, h) → i < ls.length → v.category = 1 → (∀ q ∈ zlv E ls, q ∈ lv) → lv_has ls2 ls.length ((i, zcv E v) :: lv.filter (fun q => !(q.1 == i) && !(q.1 + 1 == i && q.2.category == 2))) → W p l e R s m args below meth c H locs cells slots Q (F0 m pc' ls2 (st2.map (zcv E))) := by
    intro pc' i v st2 ls2 lv hxe hi hv hsub h2
    subst hxe
    exact hgo H locs cells slots ls2 (hL.set hO hi hv hsub h2) (by simpa using hlen) rfl rfl hWo hS
  have gM : x.2.2.2.2.2 = h.2.2 → ∀ (H1 : Heap) (locs1 : List Loc), x.2.1 = ls → zWo E x.2.2.2 H1 → va_S (zA E) s.heap H1 locs1 → W p l e R s m args below meth c H1 locs1 cells slots Q (F0 m x.1 ls' (x.2.2.1.map (zcv E))) := by
    intro hsame H1 locs1 hls hW1 hS1
    refine hgo H1 locs1 cells slots ls' (by rw [hls]; exact hL) (by rw [hls]; exact hlen) (by rw [hsame]) ?_ hW1 hS1
    unfold zsl; rw [hsame]
  have bin : ∀ (f : Int32 → Int32 → Int32), zbin f pc ls st h = some (.inl x) → (∀ (a b : Int32) (rest : List Value), W p l e R s m args below meth c H locs cells slots Q (F0 m (pc + 1) ls' (.int (f a b) :: rest)) → W p l e R s m args below meth c H locs cells slots Q (F0 m pc ls' (.int b :: .int a :: rest))) → W p l e R s m args below meth c H locs cells slots Q (F0 m pc ls' (st.map (zcv E))) := by
    intro f hz row
    obtain ⟨a, b, st', rfl, rfl⟩ := zbin_spec hz
    exact row a b _ (g0 _ _ rfl)
  cases ins
  case iconst n =>
    simp only [zstep, zn] at hz; split at hz
    · rename_i hl; subst hl; cases hz; exact lv_iconst hx hb hdec rfl (g0 _ _ rfl)
    · cases hz
  case bipush n =>
    simp only [zstep, zn] at hz; split at hz
    · rename_i hl; subst hl; cases hz; exact lv_bipush hx hb hdec rfl (g0 _ _ rfl)
    · cases hz
  case sipush n =>
    simp only [zstep, zn] at hz; split at hz
    · rename_i hl; subst hl; cases hz; exact lv_sipush hx hb hdec rfl (g0 _ _ rfl)
    · cases hz
  case ldc i =>
    simp only [zstep, zn] at hz; split at hz
    · rename_i hl; subst hl
      split at hz
      · rename_i k hk
        cases hz
        obtain ⟨tx, ht⟩ := zstr_spec hk
        have hZ := hSt.2.2.2.2.1 _ _ ht
        have hkl : k < 25 := by rw [← zSL_len]; exact (List.getElem?_eq_some_iff.mp ht).1
        have e1 : zad E (2000000 + k) = zeK E k := by
          rw [(zad_txt (E := E) (o := 2000000 + k) (by omega) (by rw [zSB_len]; omega)).1, show 2000000 + k - 2000000 = k by omega]
        have hg := g0 _ _ rfl
        rw [List.map_cons, show zcv E (.ref (2000000 + k)) = .ref (zeK E k) by rw [← e1]; rfl] at hg
        exact va_ldcS hx hb hown hZ hdec hg
      · split at hz
        · rename_i v hv
          cases hz
          exact lv_ldc hx hb hown (hts _ (zTB_in (zKok _ (zcon_spec hv)) rfl)) hdec (g0 _ _ rfl)
        · cases hz
    · cases hz
  case ldc_w i =>
    simp only [zstep, zn] at hz; split at hz
    · rename_i hl; subst hl
      split at hz
      · rename_i v hv
        cases hz
        exact lv_ldcw hx hb hown (hts _ (zTB_in (zKok _ (zcon_spec hv)) rfl)) hdec (g0 _ _ rfl)
      · cases hz
    · cases hz
  case iload i =>
    simp only [zstep] at hz; split at hz
    · rename_i hl; subst hl
      obtain ⟨v, hv, rfl⟩ := zld_int hz
      exact lv_iload hx hb hdec (hL.at hv) (g0 _ _ rfl)
    · cases hz
  case iload_n i =>
    simp only [zstep] at hz; split at hz
    · rename_i hl; subst hl
      obtain ⟨v, hv, rfl⟩ := zld_int hz
      exact lv_iload_n hx hb hdec rfl (hL.at hv) (g0 _ _ rfl)
    · cases hz
  case aload i =>
    simp only [zstep] at hz; split at hz
    · rename_i hl; subst hl
      rcases zld_ref hz with ⟨v, hv, rfl⟩ | ⟨hv, rfl⟩
      · exact lv_aload hx hb hdec (hL.at hv) (g0 _ _ rfl)
      · exact lv_aloadN hx hb hdec (hL.at hv) (g0 _ _ rfl)
    · cases hz
  case aload_n i =>
    simp only [zstep] at hz; split at hz
    · rename_i hl; subst hl
      rcases zld_ref hz with ⟨v, hv, rfl⟩ | ⟨hv, rfl⟩
      · exact lv_aload_n hx hb hdec rfl (hL.at hv) (g0 _ _ rfl)
      · exact lv_aload_nN hx hb hdec rfl (hL.at hv) (g0 _ _ rfl)
    · cases hz
  case istore i =>
    simp only [zstep] at hz; split at hz
    · rename_i hl; subst hl
      obtain ⟨v, st', rfl, hi, hxe⟩ := zst_int hz
      exact lv_istore hx hb hdec hL.has hi rfl (fun ls2 h2 => gS _ i (.int v) _ _ _ hxe hi rfl (fun _ q => q) h2)
    · cases hz
  case istore_n i =>
    simp only [zstep] at hz; split at hz
    · rename_i hl; subst hl
      obtain ⟨v, st', rfl, hi, hxe⟩ := zst_int hz
      exact lv_istore_n hx hb hdec rfl hL.has hi rfl (fun ls2 h2 => gS _ i.val (.int v) _ _ _ hxe hi rfl (fun _ q => q) h2)
    · cases hz
  case astore i =>
    simp only [zstep] at hz; split at hz
    · rename_i hl; subst hl
      obtain ⟨v, st', rfl, hi, hxe⟩ := zst_ref hz
      exact lv_astore hx hb hdec hL.has hi rfl (fun ls2 h2 => gS _ i (.ref v) _ _ _ hxe hi rfl (fun _ q => q) h2)
    · cases hz
  case astore_n i =>
    simp only [zstep] at hz; split at hz
    · rename_i hl; subst hl
      obtain ⟨v, st', rfl, hi, hxe⟩ := zst_ref hz
      exact lv_astore_n hx hb hdec rfl hL.has hi rfl (fun ls2 h2 => gS _ i.val (.ref v) _ _ _ hxe hi rfl (fun _ q => q) h2)
    · cases hz
  case iinc i n =>
    simp only [zstep, zn] at hz; split at hz
    · rename_i hl; subst hl
      split at hz
      · rename_i v hv
        cases hz
        have hi : i < ls.length := (List.getElem?_eq_some_iff.mp hv).1
        have hh : lv_has ls' ls.length ((i, .int v) :: zlv E ls) := ⟨hL.has.1, hL.has.2.1, fun q hq => by
          rcases List.mem_cons.mp hq with rfl | hq
          · exact hL.at hv
          · exact hL.has.2.2 q hq⟩
        exact lv_iinc (k := 0) hx hb hdec hh rfl rfl hi rfl (fun ls2 h2 => gS _ i (.int (v + Int32.ofInt n)) _ _ _ rfl hi rfl (fun q hq => List.mem_cons_of_mem _ hq) h2)
      · cases hz
    · cases hz
  case iadd => simp only [zstep] at hz; split at hz; (rename_i hl; subst hl; exact bin _ hz (fun a b rest k => lv_iadd hx hb hdec k)); cases hz
  case isub => simp only [zstep] at hz; split at hz; (rename_i hl; subst hl; exact bin _ hz (fun a b rest k => lv_isub hx hb hdec k)); cases hz
  case imul => simp only [zstep] at hz; split at hz; (rename_i hl; subst hl; exact bin _ hz (fun a b rest k => lv_imul hx hb hdec k)); cases hz
  case iand => simp only [zstep] at hz; split at hz; (rename_i hl; subst hl; exact bin _ hz (fun a b rest k => lv_iand hx hb hdec k)); cases hz
  case ior => simp only [zstep] at hz; split at hz; (rename_i hl; subst hl; exact bin _ hz (fun a b rest k => lv_ior hx hb hdec k)); cases hz
  case ixor => simp only [zstep] at hz; split at hz; (rename_i hl; subst hl; exact bin _ hz (fun a b rest k => lv_ixor hx hb hdec k)); cases hz
  case ishl => simp only [zstep] at hz; split at hz; (rename_i hl; subst hl; exact bin _ hz (fun a b rest k => lv_ishl hx hb hdec k)); cases hz
  case ishr => simp only [zstep] at hz; split at hz; (rename_i hl; subst hl; exact bin _ hz (fun a b rest k => lv_ishr hx hb hdec k)); cases hz
  case iushr => simp only [zstep] at hz; split at hz; (rename_i hl; subst hl; exact bin _ hz (fun a b rest k => lv_iushr hx hb hdec rfl k)); cases hz
  case idiv =>
    simp only [zstep, zn] at hz; split at hz
    · rename_i hl; subst hl
      split at hz
      · split at hz
        · rename_i hne; cases hz; exact lv_idiv hx hb hdec hne (g0 _ _ rfl)
        · cases hz
      · cases hz
    · cases hz
  case irem =>
    simp only [zstep, zn] at hz; split at hz
    · rename_i hl; subst hl
      split at hz
      · split at hz
        · rename_i hne; cases hz; exact lv_irem hx hb hdec hne (g0 _ _ rfl)
        · cases hz
      · cases hz
    · cases hz
  case i2c =>
    simp only [zstep, zn] at hz; split at hz
    · rename_i hl; subst hl
      split at hz
      · cases hz; exact lv_i2c hx hb hdec rfl (g0 _ _ rfl)
      · cases hz
    · cases hz
  case dup =>
    simp only [zstep, zn] at hz; split at hz
    · rename_i hl; subst hl
      split at hz
      · split at hz
        · rename_i hcat; cases hz; exact lv_dup hx hb hdec (by rw [zcv_cat hO]; exact hcat) (g0 _ _ rfl)
        · cases hz
      · cases hz
    · cases hz
  case dup2 =>
    simp only [zstep, zn] at hz; split at hz
    · rename_i hl; subst hl
      split at hz
      · split at hz
        · rename_i hcat; cases hz; exact lv_dup2_11 hx hb hdec (by rw [zcv_cat hO]; exact hcat.1) (by rw [zcv_cat hO]; exact hcat.2) (g0 _ _ rfl)
        · cases hz
      · cases hz
    · cases hz
  case pop =>
    simp only [zstep, zn] at hz; split at hz
    · rename_i hl; subst hl
      split at hz
      · split at hz
        · rename_i hcat; cases hz; exact lv_pop hx hb hdec (by rw [zcv_cat hO]; exact hcat) (g0 _ _ rfl)
        · cases hz
      · cases hz
    · cases hz
  case goto off =>
    simp only [zstep] at hz; split at hz
    · rename_i hl; subst hl
      obtain ⟨tgt, ht, rfl⟩ := zto_spec hz
      exact lv_goto hx hb hdec ht (g0 _ _ rfl)
    · cases hz
  case ifCond k off =>
    simp only [zstep] at hz; split at hz
    · rename_i hl; subst hl
      split at hz
      · rename_i a st'
        have key : ∀ (C : Prop), (zcmpB k a 0 = true ↔ C) → (∀ tgt : Nat, (pc : Int) + off = (tgt : Int) → (C → W p l e R s m args below meth c H locs cells slots Q (F0 m tgt ls' (st'.map (zcv E)))) → (¬ C → W p l e R s m args below meth c H locs cells slots Q (F0 m (pc + 3) ls' (st'.map (zcv E)))) → W p l e R s m args below meth c H locs cells slots Q (F0 m pc ls' (.int a :: st'.map (zcv E)))) → True := fun _ _ _ => trivial
        rcases zif_spec hz with ⟨hc, tgt, ht, rfl⟩ | ⟨hc, rfl⟩
        · have hcc := zcmpB_iff.mp hc
          have hg := g0 _ _ rfl
          cases k
          · exact lv_if_eq hx hb hdec ht (fun _ => hg) (fun q => absurd hcc q)
          · exact lv_if_ne hx hb hdec ht (fun _ => hg) (fun q => absurd q hcc)
          · exact lv_if_lt hx hb hdec ht (fun _ => hg) (fun q => absurd hcc q)
          · exact lv_if_ge hx hb hdec ht (fun _ => hg) (fun q => absurd hcc q)
          · exact lv_if_gt hx hb hdec ht (fun _ => hg) (fun q => absurd hcc q)
          · exact lv_if_le hx hb hdec ht (fun _ => hg) (fun q => absurd hcc q)
        · have hcc : ¬ zcmp k a 0 := fun q => by rw [zcmpB_iff.mpr q] at hc; cases hc
          have hg := g0 _ _ rfl
          sorry
      · cases hz
    · cases hz
  all_goals sorry
end ZNEXT
