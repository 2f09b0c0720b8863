-- ===== THE HEAP that the class's constructor lays =====
def zh0 : ZH := (fun _ _ => 0, fun _ _ => none, [])
def zhA : Option ZH := c0 0 (zmk zh0 (3, 9))
theorem zhA_len : (zhA.map fun h => h.2.2) = some zHc := by decide +kernel
theorem zhA_ref : (zhA.map fun h => zRL.all fun z => match h.2.1 z.1 z.2.1 with
  | some x => Nat.beq x z.2.2
  | none => false) = some true := by decide +kernel
/-- beside the class's cells: an imaginary reference, as it begins -/
def gh (M : ZI) : ZI := fun o k => if o < 148 then M o k else if o = 148 ∧ k = 28 then -1 else if o = 149 ∧ k = 49 then 2 else if o = 149 ∧ k = 50 then 12 else 0
theorem zhA_int : (zhA.map fun h => zIL.all fun z => decide (gh h.1 z.1 z.2.1 = z.2.2)) = some true := by decide +kernel
theorem zhA_all : ∃ (M : ZI) (R : ZF), zhA = some (M, R, zHc) ∧ (∀ z ∈ zRL, R z.1 z.2.1 = some z.2.2) ∧ zI0 (gh M) := by
  cases hh : zhA with
  | none => have := zhA_len; rw [hh] at this; cases this
  | some h =>
    obtain ⟨M, R, H⟩ := h
    have h1 := zhA_len
    have h2 := zhA_ref
    have h3 := zhA_int
    rw [hh] at h1 h2 h3
    have h1 : H = zHc := Option.some.inj h1
    have h2 := Option.some.inj h2
    have h3 := Option.some.inj h3
    subst h1
    refine ⟨M, R, rfl, fun z hz => ?_, fun z hz => ?_⟩
    · have := List.all_eq_true.mp h2 z hz
      show R z.1 z.2.1 = some z.2.2
      simp only at this
      cases hr : R z.1 z.2.1 with
      | none => rw [hr] at this; cases this
      | some x =>
        rw [hr] at this
        rw [Nat.beq_eq.mp this]
    · exact of_decide_eq_true (List.all_eq_true.mp h3 z hz)
theorem nw_14_28 : znew 14 28 = some 0 ∧ 0 < zCL.length ∧ zN 0 = 9 := by decide +kernel
theorem rc_14_175 : zres 14 175 = some 0 := by decide +kernel
theorem zY_new1 {sc : ZS} {d y pc p w ix c n : Nat} {ls : List Slot} {st : List Value} {h : ZH} {r : Option Value} {h' : ZH} (hd : zdec y pc = some (.new ix, 3)) (hw : zown y = w) (hc : znew w ix = some c ∧ c < zCL.length ∧ zN c = n) (hp : pc + 3 = p) (hl : h.2.2.length < 999999) (k : ∃ m, zrun sc m d y p ls (.ref h.2.2.length :: st) (zmk h (3 + c, n)) = some (r, h')) : ∃ m, zrun sc m d y pc ls st h = some (r, h') := by
  subst hw; subst hp
  obtain ⟨h1, h2, rfl⟩ := hc
  obtain ⟨m, hm⟩ := k
  refine ⟨m + 1, ?_⟩
  unfold zrun
  rw [hd]
  simp only [zstep, if_true, zmko, h1]
  rw [if_pos ⟨h2, hl⟩]
  exact hm
theorem zY_st1 {sc : ZS} {d y pc p : Nat} {ls ls' : List Slot} {st st' : List Value} {h h1 : ZH} {r : Option Value} {h' : ZH} {ins : Instr} {len : Nat} (hd : zdec y pc = some (ins, len)) (hs : zstep sc y pc ins len ls st h = zn p ls' st' h1) (k : ∃ m, zrun sc m d y p ls' st' h1 = some (r, h')) : ∃ m, zrun sc m d y pc ls st h = some (r, h') := by
  obtain ⟨m, hm⟩ := k
  refine ⟨m + 1, ?_⟩
  unfold zrun
  rw [hd]
  simp only
  rw [hs]
  exact hm
/-- law from its entry, once what follows the constructor is known -/
theorem law_pre {sc : ZS} {d : Nat} {M : ZI} {R : ZF} (hz : zhA = some (M, R, zHc)) {r : Option Value} {h' : ZH} (k : ∃ n, zrun sc n (d + 4) 152 8 [.val (.ref 1000000), .val (.ref 0), .unset, .unset, .unset, .unset, .unset, .unset, .unset, .unset, .unset, .unset, .unset, .unset, .unset, .unset] [] (M, R, zHc) = some (r, h')) : ∃ n, zrun sc n (d + 4) 152 0 [.val (.ref 1000000), .unset, .unset, .unset, .unset, .unset, .unset, .unset, .unset, .unset, .unset, .unset, .unset, .unset, .unset, .unset] [] zh0 = some (r, h') := by
  refine zY_new1 (p := 3) d_152_0 ow_152 nw_14_28 rfl (by decide) ?_
  show ∃ m, zrun sc m (d + 4) 152 3 [.val (.ref 1000000), .unset, .unset, .unset, .unset, .unset, .unset, .unset, .unset, .unset, .unset, .unset, .unset, .unset, .unset, .unset] [.ref 0] (zmk zh0 (3, 9)) = _
  refine zY_st1 (p := 4) (ls' := [.val (.ref 1000000), .unset, .unset, .unset, .unset, .unset, .unset, .unset, .unset, .unset, .unset, .unset, .unset, .unset, .unset, .unset]) (st' := [.ref 0, .ref 0]) d_152_3 rfl ?_
  refine zEndsH_call (p := 7) (o1 := zhA) (h1 := (M, R, zHc)) d_152_4 ow_152 rc_14_175 kk_0 rfl (t0 (d := d)) hz rfl rfl rfl rfl (by decide) ?_
  refine zY_st1 (p := 8) (ls' := [.val (.ref 1000000), .val (.ref 0), .unset, .unset, .unset, .unset, .unset, .unset, .unset, .unset, .unset, .unset, .unset, .unset, .unset, .unset]) (st' := []) d_152_7 rfl ?_
  exact k
