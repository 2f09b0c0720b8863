-- ===== a rule's text in the heap =====
def rLn : Nat → Nat
  | 0 => 7
  | f + 1 => 2 * rLn f + 9
def tN : Nat → Nat
  | 0 => 6
  | f + 1 => 2 * tN f + 16
def tS : Nat → Nat
  | 0 => 1000
  | f + 1 => 2 * tS f + 2600
theorem tN_le : ∀ f, f ≤ 3 → 6 ≤ tN f ∧ tN f ≤ 160 ∧ 1000 ≤ tS f ∧ tS f ≤ 26200 ∧ rLn f ≤ 119 ∧ 7 ≤ rLn f := by
  intro f hf
  rcases (show f = 0 ∨ f = 1 ∨ f = 2 ∨ f = 3 by omega) with rfl | rfl | rfl | rfl <;> decide
theorem par_len (c : Bool) (x : List Nat) : (parTx c x).length ≤ x.length + 2 := by
  unfold parTx
  split
  · simp
  · omega
theorem par_asc {c : Bool} {x : List Nat} (h : ascN x) : ascN (parTx c x) := by
  unfold parTx
  split
  · exact asc_app (asc_lit rfl) (asc_app h (asc_lit rfl))
  · exact h
theorem rTx_ok {n : Nat} (h0 : 0 < n) (hn : n ≤ 10) : ∀ f (y : Int32 × Nat), ascN (rTx n f y) ∧ (rTx n f y).length ≤ rLn f := by
  intro f
  induction f with
  | zero =>
    intro y
    have hd := dig_le (nO n y)
    unfold rTx
    split
    · exact ⟨asc_dig (nO_100 h0 hn y), by show _ ≤ 7; omega⟩
    · exact ⟨asc_app (asc_lit rfl) (asc_dig (nO_100 h0 hn y)), by show _ ≤ 7; simp; omega⟩
  | succ f ih =>
    intro y
    have hd := dig_le (nO n y)
    obtain ⟨a1, a2⟩ := ih (nL y)
    obtain ⟨b1, b2⟩ := ih (nR y)
    have hl : rLn (f + 1) = 2 * rLn f + 9 := rfl
    unfold rTx
    split
    · exact ⟨asc_dig (nO_100 h0 hn y), by omega⟩
    · split
      · exact ⟨asc_app (asc_lit rfl) (asc_dig (nO_100 h0 hn y)), by simp; omega⟩
      · have p1 := par_len (decide (nK y = 2 ∧ nK (nL y) = 3)) (rTx n f (nL y))
        have p2 := par_len (decide (1 < nK (nR y))) (rTx n f (nR y))
        refine ⟨asc_app (par_asc a1) (asc_app (by split <;> exact asc_lit rfl) (par_asc b1)), ?_⟩
        rw [List.length_append, List.length_append]
        have : (if nK y = 2 then [32, 97, 110, 100, 32] else [32, 111, 114, 32] : List Nat).length ≤ 5 := by split <;> simp
        omega
theorem text_leaf {n f F r : Nat} {y : Int32 × Nat} {M : ZI} {R : ZF} {L : ZY} {c : Bool} (h0 : 0 < n) (hn : n ≤ 10) (hk : nK y < 2) (h1 : L[r]? = some (16, 4)) (h2 : M r 0 = znn (nK y)) (h3 : M r 1 = znn (nO n y)) (hL : L.length + 100 ≤ 600000) (hL2 : 148 ≤ L.length) : ∃ a M' R' L', g149_text (F + 1) r (b01 c) M R L = some (a, M', R', L') ∧ strIs M' R' L' a (a + 1) ((parTx (c && decide (1 < nK y)) (rTx n f y)).map znn) ∧ L.length ≤ a ∧ hFr (fun _ => False) M R L M' R' L' ∧ ∃ X, L' = L ++ X ∧ X.length ≤ 6 ∧ (X.map Prod.snd).sum ≤ 1000 := by
  have rl := lay_le h1
  have hpar : parTx (c && decide (1 < nK y)) (rTx n f y) = rTx n f y := by
    unfold parTx
    rw [if_neg (by simp; omega)]
  have hT : rTx n f y = if nK y = 0 then digN (nO n y) else [109, 111, 115, 116, 32] ++ digN (nO n y) := by
    cases f with
    | zero => rfl
    | succ f =>
      unfold rTx
      by_cases h1 : nK y = 0
      · rw [if_pos h1, if_pos h1]
      · rw [if_neg h1, if_pos (by omega), if_neg h1]
  rw [hpar, hT]
  have gf : gfr L = true := gfr_of (by omega)
  have gi : gin L.length = true := Nat.blt_eq.mpr (by omega)
  have hd := dig_le (nO n y)
  obtain ⟨M1, R1, e1, b1⟩ := sbo_new (M := M) (R := R) (L := L) (by omega) hL2
  have tr : ∀ {M' : ZI} {R' : ZF} {L' : ZY} {s v N S : Nat} {tx : List Nat}, sbOn M R L M' R' L' s v tx N S → N ≤ 10 → gob L' r 13 = true ∧ M' r 1 = znn (nO n y) := fun hb hN => by
    have hl := (sbo_len hb).1
    have hfr := hb.2.2.2.1
    exact ⟨gob_of (hFr_lay hfr h1) (by omega), by rw [(hfr.2 r rl (fun hh => hh)).1]; exact h3⟩
  simp only [g149_text, g149_text_b]
  rw [if_pos (gob_of h1 (by omega)), h2]
  by_cases hk0 : nK y = 0
  · obtain ⟨M2, R2, L2, v2, e2, b2, -⟩ := sbo_str 2 b1 (str_c (M := M1) (R := R1) (L := L ++ [(14, 4)] ++ [(50, 16)]) 9 [] (by decide) rfl) (by omega) (by simp) (by decide) (by omega)
    obtain ⟨M3, R3, L3, v3, e3, b3, -⟩ := sbo_int 2 b2 (nO_100 h0 hn y) (by simp) (by decide) (by omega)
    obtain ⟨M4, R4, L4, e4, s4, l4, f4, -, X, x1, x2, x3⟩ := sbo_fin b3 (asc_app (asc_lit rfl) (asc_dig (nO_100 h0 hn y))) (by simp; omega) (by omega)
    refine ⟨L3.length, M4, R4, L4, ?_, ?_, l4, f4, X, x1, x2, by simp at x3; omega⟩
    · rw [hk0, if_pos (show znn 0 = 0 from rfl), if_pos gf]
      simp only [gnew]
      rw [if_pos gi, e1]
      simp only [Option.bind_some]
      rw [if_pos (sbo_gob b1 (by omega)), e2]
      simp only [Option.bind_some]
      rw [if_pos (tr b2 (by omega)).1, if_pos (sbo_gob b2 (by omega)), (tr b2 (by omega)).2, e3]
      simp only [Option.bind_some]
      rw [if_pos (sbo_gob b3 (by omega)), e4]
      rfl
    · rw [if_pos hk0]
      exact s4
  · have hk1 : nK y = 1 := by omega
    obtain ⟨M2, R2, L2, v2, e2, b2, -⟩ := sbo_str 5 b1 (str_c (M := M1) (R := R1) (L := L ++ [(14, 4)] ++ [(50, 16)]) 10 [109, 111, 115, 116, 32] (by decide) rfl) (by omega) (by simp) (by decide) (by omega)
    obtain ⟨M3, R3, L3, v3, e3, b3, -⟩ := sbo_int 7 b2 (nO_100 h0 hn y) (by simp) (by decide) (by omega)
    obtain ⟨M4, R4, L4, e4, s4, l4, f4, -, X, x1, x2, x3⟩ := sbo_fin b3 (asc_app (asc_lit rfl) (asc_dig (nO_100 h0 hn y))) (by simp; omega) (by omega)
    refine ⟨L3.length, M4, R4, L4, ?_, ?_, l4, f4, X, x1, x2, by simp at x3; omega⟩
    · rw [hk1, if_neg (show ¬ znn 1 = 0 by decide), if_pos (show znn 1 = 1 from rfl), if_pos gf]
      simp only [gnew]
      rw [if_pos gi, e1]
      simp only [Option.bind_some]
      rw [if_pos (sbo_gob b1 (by omega)), e2]
      simp only [Option.bind_some]
      rw [if_pos (tr b2 (by omega)).1, if_pos (sbo_gob b2 (by omega)), (tr b2 (by omega)).2, e3]
      simp only [Option.bind_some]
      rw [if_pos (sbo_gob b3 (by omega)), e4]
      rfl
    · rw [if_neg hk0]
      exact s4
