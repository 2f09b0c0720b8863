-- ===== LAW comes to 1 =====
theorem zhS_book : (zhS.map fun h => zBL.all fun z => decide (h.1 z.1 z.2.1 = z.2.2)) = some true := by decide +kernel
theorem zB0_of {M : ZI} {R : Nat → Nat → Option Nat} (hz : zhS = some (M, R, zH0)) : zB0 M := by
  have h := zhS_book
  rw [hz] at h
  have h := Option.some.inj h
  intro z hzz
  exact of_decide_eq_true (List.all_eq_true.mp h z hzz)
theorem law_true {L : Nat} {xs : Nat → Int32} {R : Nat → Nat → Option Nat} {M : ZI} (hL : L ≤ 3072) (h0 : zI0 M) (hb : zB0 M) : ∃ M', f267_l18 ((L, xs), R) zfu 0 M = some (1, M') := by
  have h := law_true_of (fun x => sync_text x) (xs := xs) (R := R) hL (L + 7) 0 M zfu (by omega) (by omega) (by rw [zfu_eq]; omega) (first_Inv h0 hb)
  exact h
