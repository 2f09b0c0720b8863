/-! THE CLAIM OUT OF ONE WALK OF THE LAW'S BODY. Your part is whole_start (and what it stands on); all else here is the same for every law, but numbers. -/
def R_law : String := "SpareDayLaw"
def lw_P (b : Addr) (xs : List Int32) (args : Array Value) (s : State) : Prop := args = #[.ref b] ∧ s.IntsAt b xs ∧ xs.length ≤ 260 ∧ (Jvm.Cond.and given_1 narrow_1).before args s = true
def lw_Q (_ : Array Value) (s : State) (o : Outcome) (t : State) : Prop := o = .returned (some (.int 1)) ∧ Framed s o t [] 600000 7302250
def lw_Z (below : List Frame) (a : Array Value) (s : State) : State → Prop := fun t => ∃ o, t.status = .running ∧ Ended t below o ∧ lw_Q a s o t
/-- the law's own end, with 1 on the stack, nothing written that was there before, its room as the claim has it -/
theorem lw_ret {p : Program} {l : Launch} {e : Env} {s : State} {m : MethodId} {below : List Frame} {meth : Method} {c : Code} {b : Nat} (hx : p.tables.exec = Jvm.exec) (hb : c.code = code) (hr : meth.sig.returnType = ret) (hlocks : meth.locks = false) {pc : Nat} {H : Heap} {ls : Array Slot} (hdg : decode code pc = .ok (.ireturn, 1)) : W p l e room_1 s m #[Value.ref b] below meth c H [] 600000 7302250 (lw_Z below #[Value.ref b] s) (F0 m pc ls [.int 1]) := by
  intro T hT X
  obtain ⟨fs, hret, hrun, hended, hW, hframe⟩ := X.leave (v := some (.int 1)) (hlocks := hlocks) (fun h => by rw [hr] at h; cases h)
  have hmeth' : T.vm.method? m = some meth := X.method'
  refine ⟨T.setFrames fs, ?_, .returned (some (.int 1)), hrun, hended, rfl, ⟨_, rfl⟩, hW, hframe⟩
  jvm_step X.here [X.here.top, hx, hb, hdg, hmeth', hr, ret, narrow_b1]
  (try refine ⟨rfl, ?_⟩); (try refine ⟨rfl, ?_⟩)
  first | (intro acts; rw [hret _ acts rfl rfl rfl]) | rw [hret _ _ rfl rfl rfl]
  exact Steps.refl _
/-- what holds at the law's entry: the machine, the code, the tables' words (any of lw_tbl by 'hts w (by decide +kernel)'), the script of L ints xs at the cell b, what the Statement gives of the start (any of its parts by flat_of_before) -/
def lw_At (p : Program) (s : State) (m : MethodId) (meth : Method) (c : Code) (b L : Nat) (xs : Nat → Int32) : Prop :=
  p.tables.exec = Jvm.exec ∧ c.code = code ∧ meth.sig.returnType = ret ∧ c.maxLocals = 16 ∧ s.vm.findClass R_law = some m.cls ∧ (∀ w ∈ lw_tbl, w.before #[Value.ref b] s = true) ∧ va_X b L xs s s.heap ∧ b < s.heap.size ∧ meth.locks = false ∧ (Jvm.Cond.and given_1 narrow_1).before #[Value.ref b] s = true
-- ===== THE START, out of one run of the plain machine =====
theorem zxw_ok {args : Array Value} {s : State} (hts : ∀ w ∈ lw_tbl, w.before args s = true) : ∀ w ∈ zTB, w.before args s = true := by
  intro w hw
  rcases List.mem_append.mp (List.mem_filter.mp hw).1 with h | h
  · obtain ⟨q, hq, rfl⟩ := List.mem_map.mp h
    obtain ⟨hq1, hq2⟩ := List.mem_filter.mp hq
    have f := zVfact q hq1
    have e : q.2.1 = q.1 := f.2.2.2.1 hq2
    have hin : ∀ {j : Nat}, j < zNM → zkind j = 1 → (Cond.instanceMethod (zname j)).before args s = true := by
      intro j hj hkj
      have hk3 := zc3 _ (zM_in hj)
      rw [if_neg (show ¬ (zM j).2.2.2.2.1 = 0 from by unfold zkind at hkj; omega)] at hk3
      exact hts _ hk3
    have hv := hts _ (zVok q hq1)
    unfold zVw at hv
    rw [if_pos hq2] at hv
    have hz := hts _ (zVok (126, 126, false) (by decide))
    rw [e]
    exact zsel_priv (z := zname 126) (by rw [f.2.2.1]; decide) (by rw [f.2.2.1]; rfl) hz (hin (by decide) rfl) hv (hin f.1 f.2.2.2.2.1)
  · exact hts w h
theorem zstart {p : Program} {e : Env} {s : State} {m : MethodId} {below : List Frame} {meth : Method} {c : Code} (l : Launch) {b L : Nat} {xs : Nat → Int32} (C0 : lw_At p s m meth c b L xs) {n : Nat} {h' : ZH} (hrun : zrun (L, xs) n 79 152 0 [.val (.ref 1000000), .unset, .unset, .unset, .unset, .unset, .unset, .unset, .unset, .unset, .unset, .unset, .unset, .unset, .unset, .unset] [] zh0 = some (some (.int 1), h')) (hX : h'.2.2.length ≤ 600000) (hY : (h'.2.2.map Prod.snd).sum ≤ 7302250) : W p l e room_1 s m #[Value.ref b] below meth c s.heap [] 0 0 (lw_Z below #[Value.ref b] s) (entryFrame m ([Value.ref b] : List Value).toArray 16) := by
  obtain ⟨hx, hb, hr, hml, hown, hts, hXs, hbl, hlk, hn⟩ := C0
  obtain ⟨E, e1, e2, e3, hSt⟩ := zentry hts hXs hbl hn
  have hO := hSt.2.2.2.2.2.2.2.2.2.1
  rw [← e3] at hrun
  have hrun : zrun (zeS E) n 79 152 0 (zent (zml 152) [.ref 1000000]) [] zh0 = some (some (.int 1), h') := hrun
  rw [lg_entry_eq]
  have hb2 : ([Value.ref b] : List Value) = ([.ref 1000000] : List Value).map (zcv E) := by
    show [Value.ref b] = [Value.ref (zad E 1000000)]
    unfold zad
    simp [e2]
  have hls : lg_sl ([Value.ref b] : List Value) = lg_sl (([.ref 1000000] : List Value).map (zcv E)) := by rw [← hb2]
  rw [hls]
  refine zsound l E n 79 152 0 _ [] zh0 _ _ hrun p e room_1 s m _ below meth c _ 600000 7302250 ⟨hx, by rw [hb]; exact zcd_152.symm, hml, hown, fun h => (by cases h), zxw_ok hts, hSt, by decide, by decide⟩ ⟨?_, ?_, ?_⟩ (Nat.le_refl _) (Nat.le_refl _) s.heap [] 0 0 _ (zLv.ent hO (by decide) (by simp [Value.category])) rfl ?_ va_S.rf (show 0 + h'.2.2.length ≤ 600000 + 0 by omega) (show 0 + (h'.2.2.map Prod.snd).sum ≤ 7302250 + 0 by omega)
  · intro pc1 v H1 locs1 ls1 c1 s1 hd hv _ hW1 hS1 hc1 hs1
    have hv : v = 1 := by
      have := Option.some.inj hv
      exact (Value.int.inj this).symm
    subst hv
    refine va_forget (fun q hq => ?_) (W.widen hc1 hs1 ?_)
    · have := hS1.2.2 q hq
      rw [← e1]
      exact this
    · exact lw_ret hx hb hr hlk (by rw [← zcd_152]; exact hd)
  · intro pc1 H1 locs1 ls1 c1 s1 hd hv
    cases hv
  · intro pc1 v H1 locs1 ls1 c1 s1 hd hv1 hv
    cases Option.some.inj hv
    rcases hv1 with h | ⟨o, h⟩ <;> cases h
  · refine ⟨by rw [e1]; rfl, fun k q hq => ?_, by decide⟩
    simp [zWs, zh0] at hq
/-- the start, once the law as a function is known to answer 1 in its room -/
theorem zstart_of {p : Program} {e : Env} {s : State} {m : MethodId} {below : List Frame} {meth : Method} {c : Code} (l : Launch) {b L : Nat} {xs : Nat → Int32} (C0 : lw_At p s m meth c b L xs) (hF : ∀ (R : ZF) (M : ZI), zhA = some (M, R, zHc) → (∀ z ∈ zRL, R z.1 z.2.1 = some z.2.2) → zI0 (gh M) → ∃ h' : ZH, g152_law (L, xs) M R zHc = some (1, h') ∧ h'.2.2.length ≤ 600000 ∧ (h'.2.2.map Prod.snd).sum ≤ 7302250) : W p l e room_1 s m #[Value.ref b] below meth c s.heap [] 0 0 (lw_Z below #[Value.ref b] s) (entryFrame m ([Value.ref b] : List Value).toArray 16) := by
  obtain ⟨M, R, hz, hL, h0⟩ := zhA_all
  obtain ⟨h', hg, hX, hY⟩ := hF R M hz hL h0
  have hk := s152 (sc := (L, xs)) (d := 0) (M := M) (R := R) (L := zHc) (1, h') hg _ _ ⟨rfl, rfl⟩
  obtain ⟨n, hn⟩ := law_pre (sc := (L, xs)) (d := 75) hz hk
  exact zstart l C0 hn hX hY
