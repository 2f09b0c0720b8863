-- ===== THE HEAP that the constructors lay =====
def zh0 : ZH := (fun _ _ => 0, fun _ _ => none, [])
def zhA : Option ZH := c0 0 (zmk zh0 (3, 9))
def zhS : Option ZH := zhA.bind fun h => c145 148 (zmk h (13, 32))
theorem zhA_len : (zhA.map fun h => h.2.2.length) = some 148 := by decide +kernel
theorem zhS_len : (zhS.map fun h => h.2.2) = some zH0 := by decide +kernel
theorem zhS_ref : (zhS.map fun h => zRL.all fun z => match h.2.1 z.1 z.2.1 with
  | some x => Nat.beq x z.2.2
  | none => false) = some true := by decide +kernel
def zIL : List (Nat × Nat × Int32) := [(1, 11, 0), (1, 12, 2), (1, 13, 12), (1, 14, 0), (1, 15, 0), (2, 4, 0), (2, 5, 0), (2, 6, 0), (2, 7, 0), (2, 8, 0), (2, 9, 0), (2, 10, 0), (12, 5, 0), (13, 3, 0), (21, 6, 0), (29, 1, 0), (30, 3, 0), (34, 2, 0), (0, 2, 0), (0, 4, 0), (0, 5, 0), (119, 1, 0), (119, 5, 0), (119, 10, 0), (119, 11, -1), (148, 4, 0), (148, 5, 0), (148, 19, 0), (148, 26, 0), (148, 28, -1), (149, 0, 0), (149, 1, 0), (149, 2, 0), (149, 3, 0), (149, 4, 0), (149, 5, 0), (149, 6, 0), (149, 7, 0), (149, 48, 0), (149, 49, 2), (149, 50, 12), (149, 51, 0), (149, 52, 0), (149, 53, 0), (149, 54, 0), (149, 55, 0), (149, 56, 0), (149, 57, 0), (149, 58, 0), (149, 59, 0)]
theorem zhS_int : (zhS.map fun h => zIL.all fun z => decide (h.1 z.1 z.2.1 = z.2.2)) = some true := by decide +kernel
def zI0 (M : ZI) : Prop := ∀ z ∈ zIL, M z.1 z.2.1 = z.2.2
theorem zhS_all : ∃ (M : ZI) (R : Nat → Nat → Option Nat), zhS = some (M, R, zH0) ∧ (∀ sc : ZS, zLay (sc, R)) ∧ zI0 M := by
  cases hh : zhS with
  | none => have := zhS_len; rw [hh] at this; cases this
  | some h =>
    obtain ⟨M, R, H⟩ := h
    have h1 := zhS_len
    have h2 := zhS_ref
    have h3 := zhS_int
    rw [hh] at h1 h2 h3
    have h1 : H = zH0 := Option.some.inj h1
    have h2 := Option.some.inj h2
    have h3 := Option.some.inj h3
    subst h1
    refine ⟨M, R, rfl, fun sc z hz => ?_, fun z hz => ?_⟩
    · have := List.all_eq_true.mp h2 z hz
      show R z.1 z.2.1 = some z.2.2
      simp only at this
      cases hr : R z.1 z.2.1 with
      | none => rw [hr] at this; cases this
      | some x =>
        rw [hr] at this
        rw [Nat.beq_eq.mp this]
    · exact of_decide_eq_true (List.all_eq_true.mp h3 z hz)
theorem ow_267 : zown 267 = 11 := rfl
theorem nw_11_7 : znew 11 7 = some 0 ∧ 0 < zCL.length ∧ zN 0 = 9 := by decide +kernel
theorem nw_11_10 : znew 11 10 = some 10 ∧ 10 < zCL.length ∧ zN 10 = 32 := by decide +kernel
theorem rc_11_9 : zres 11 9 = some 0 := by decide +kernel
theorem rc_11_12 : zres 11 12 = some 145 := by decide +kernel
theorem zY_new1 {sc : ZS} {d y pc p w ix c n : Nat} {ls : List Slot} {st : List Value} {h : ZH} {r : Option Value} {h' : ZH} (hd : zdec y pc = some (.new ix, 3)) (hw : zown y = w) (hc : znew w ix = some c ∧ c < zCL.length ∧ zN c = n) (hp : pc + 3 = p) (hl : h.2.2.length < 999999) (k : ∃ m, zrun sc m d y p ls (.ref h.2.2.length :: st) (zmk h (3 + c, n)) = some (r, h')) : ∃ m, zrun sc m d y pc ls st h = some (r, h') := by
  subst hw; subst hp
  obtain ⟨h1, h2, rfl⟩ := hc
  obtain ⟨m, hm⟩ := k
  refine ⟨m + 1, ?_⟩
  unfold zrun
  rw [hd]
  simp only [zstep, if_true, zmko, h1]
  rw [if_pos ⟨h2, hl⟩]
  exact hm
theorem zY_st1 {sc : ZS} {d y pc p : Nat} {ls ls' : List Slot} {st st' : List Value} {h h1 : ZH} {r : Option Value} {h' : ZH} {ins : Instr} {len : Nat} (hd : zdec y pc = some (ins, len)) (hs : zstep sc y pc ins len ls st h = zn p ls' st' h1) (k : ∃ m, zrun sc m d y p ls' st' h1 = some (r, h')) : ∃ m, zrun sc m d y pc ls st h = some (r, h') := by
  obtain ⟨m, hm⟩ := k
  refine ⟨m + 1, ?_⟩
  unfold zrun
  rw [hd]
  simp only
  rw [hs]
  exact hm
/-- law from its entry, once what follows the constructors is known -/
theorem law_pre {sc : ZS} {d : Nat} {M : ZI} {R : Nat → Nat → Option Nat} (hz : zhS = some (M, R, zH0)) {r : Option Value} {M' : ZI} (k : zEnds (sc, R) (d + 4) 267 18 [.val (.ref 1000000), .val (.ref 0), .val (.ref 148), .val (.int 0)] [] M r M') : ∃ n, zrun sc n (d + 4) 267 0 [.val (.ref 1000000), .unset, .unset, .unset] [] zh0 = some (r, (M', R, zH0)) := by
  unfold zhS at hz
  cases ha : zhA with
  | none => rw [ha] at hz; cases hz
  | some h1 =>
    rw [ha] at hz
    have hl := zhA_len
    rw [ha] at hl
    have hl : h1.2.2.length = 148 := Option.some.inj hl
    have hz : c145 148 (zmk h1 (13, 32)) = some (M, R, zH0) := hz
    refine zY_new1 (p := 3) d_267_0 ow_267 nw_11_7 rfl (by decide) ?_
    show ∃ m, zrun sc m (d + 4) 267 3 [.val (.ref 1000000), .unset, .unset, .unset] [.ref 0] (zmk zh0 (3, 9)) = _
    refine zY_st1 (p := 4) (ls' := [.val (.ref 1000000), .unset, .unset, .unset]) (st' := [.ref 0, .ref 0]) d_267_3 rfl ?_
    refine zEndsH_call (p := 7) (o1 := zhA) (h1 := h1) d_267_4 ow_267 rc_11_9 kk_0 rfl (t0 (d := d)) ha rfl rfl rfl rfl (by decide) ?_
    refine zY_st1 (p := 8) (ls' := [.val (.ref 1000000), .val (.ref 0), .unset, .unset]) (st' := []) d_267_7 rfl ?_
    refine zY_new1 (p := 11) d_267_8 ow_267 nw_11_10 rfl (by omega) ?_
    rw [hl]
    refine zY_st1 (p := 12) (ls' := [.val (.ref 1000000), .val (.ref 0), .unset, .unset]) (st' := [.ref 148, .ref 148]) d_267_11 rfl ?_
    refine zEndsH_call (p := 15) (o1 := c145 148 (zmk h1 (13, 32))) (h1 := (M, R, zH0)) d_267_12 ow_267 rc_11_12 kk_145 rfl (t145 (d := d + 3)) hz rfl rfl rfl rfl (by decide) ?_
    refine zY_st1 (p := 16) (ls' := [.val (.ref 1000000), .val (.ref 0), .val (.ref 148), .unset]) (st' := []) d_267_15 rfl ?_
    refine zY_st1 (p := 17) (ls' := [.val (.ref 1000000), .val (.ref 0), .val (.ref 148), .unset]) (st' := [.int 0]) d_267_16 rfl ?_
    refine zY_st1 (p := 18) (ls' := [.val (.ref 1000000), .val (.ref 0), .val (.ref 148), .val (.int 0)]) (st' := []) d_267_17 rfl ?_
    exact k
