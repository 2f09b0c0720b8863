theorem hif (a : Int32) : ((if a = 0 then some (0 : Int32) else some 1) : Option Int32) = some (if a = 0 then 0 else 1) := by
  by_cases h : a = 0
  · rw [if_pos h, if_pos h]
  · rw [if_neg h, if_neg h]
theorem pure_of {x : Option Int32} {M M' : ZI} {v : Int32} (h : (x.bind fun v => some (v, M)) = some (v, M')) : x = some v ∧ M = M' := by
  cases x with
  | none => exact absurd h (by simp)
  | some u =>
    have := Option.some.inj h
    exact ⟨by rw [(Prod.mk.inj this).1], (Prod.mk.inj this).2⟩
theorem law_step (htext : ∀ x, sync (f52_text x) (f156_text x)) {L : Nat} {xs : Nat → Int32} {R : Nat → Nat → Option Nat} {M : ZI} {i : Nat} (hL : L ≤ 3072) (hi : i + 6 ≤ L) (hM : Inv2 M M) (m : Nat) : ∃ M', Inv2 M' M' ∧ f267_l18 ((L, xs), R) (m + 1) (znn i) M = f267_l18 ((L, xs), R) m (znn (i + 6)) M' := by
  have hz0 : zin (znn i) L = true := (zn_zin (by omega)).mpr (by omega)
  have hz : ∀ d, d < 6 → zin (znn i + znn d) L = true := fun d hd => by rw [zn_add]; exact (zn_zin (by omega)).mpr (by omega)
  have hz1 : zin (znn i + 1) L = true := hz 1 (by decide)
  have hz2 : zin (znn i + 2) L = true := hz 2 (by decide)
  have hz3 : zin (znn i + 3) L = true := hz 3 (by decide)
  have hz4 : zin (znn i + 4) L = true := hz 4 (by decide)
  have hz5 : zin (znn i + 5) L = true := hz 5 (by decide)
  have hsix : znn i + 6 = znn (i + 6) := by rw [zl6, zn_add]
  have hlt : ¬ Int32.ofNat L - 6 < znn i := by
    show ¬ znn L - 6 < znn i
    rw [zl6, zn_sub (by omega), zn_lt (by omega) (by omega)]; omega
  rw [f267_l18]
  (try dsimp only)
  rw [if_neg hlt, if_pos hz0]
  by_cases h0 : xs (zi (znn i)) &&& 63 = 0
  · rw [if_pos h0]
    obtain ⟨v, M1, M2, e1, e2, hI⟩ := one_of_sync (sync_state (xs (zi (znn i + 1)))) hM
    exact ⟨M2, hI, by simp only [hz1, hz2, hz3, hz4, hz5, hsix, hif, e1, e2, Option.bind_some, ↓reduceIte]⟩
  rw [if_neg h0]
  by_cases h1 : xs (zi (znn i)) &&& 63 = 1
  · rw [if_pos h1]
    obtain ⟨v, M1, M2, e1, e2, hI⟩ := one_of_sync (sync_person (xs (zi (znn i + 1))) (xs (zi (znn i + 2)))) hM
    exact ⟨M2, hI, by simp only [hz1, hz2, hz3, hz4, hz5, hsix, hif, e1, e2, Option.bind_some, ↓reduceIte]⟩
  rw [if_neg h1]
  by_cases h2 : xs (zi (znn i)) &&& 63 = 2
  · rw [if_pos h2]
    obtain ⟨v, M1, M2, e1, e2, hI⟩ := one_of_sync (sync_set (xs (zi (znn i + 1))) (xs (zi (znn i + 2))) (xs (zi (znn i + 3)))) hM
    exact ⟨M2, hI, by simp only [hz1, hz2, hz3, hz4, hz5, hsix, hif, e1, e2, Option.bind_some, ↓reduceIte]⟩
  rw [if_neg h2]
  by_cases h3 : xs (zi (znn i)) &&& 63 = 3
  · rw [if_pos h3]
    obtain ⟨v, M1, M2, e1, e2, hI⟩ := one_of_sync (sync_tie (xs (zi (znn i + 1))) (xs (zi (znn i + 2))) (if (xs (zi (znn i + 3))) = 0 then 0 else 1)) hM
    exact ⟨M2, hI, by simp only [hz1, hz2, hz3, hz4, hz5, hsix, hif, e1, e2, Option.bind_some, ↓reduceIte]⟩
  rw [if_neg h3]
  by_cases h4 : xs (zi (znn i)) &&& 63 = 4
  · rw [if_pos h4]
    obtain ⟨v, M1, M2, e1, e2, hI⟩ := one_of_sync (sync_sit (xs (zi (znn i + 1)))) hM
    exact ⟨M2, hI, by simp only [hz1, hz2, hz3, hz4, hz5, hsix, hif, e1, e2, Option.bind_some, ↓reduceIte]⟩
  rw [if_neg h4]
  by_cases h5 : xs (zi (znn i)) &&& 63 = 5
  · rw [if_pos h5]
    obtain ⟨v, M1, M2, e1, e2, hI⟩ := one_of_sync (sync_years (xs (zi (znn i + 1)))) hM
    exact ⟨M2, hI, by simp only [hz1, hz2, hz3, hz4, hz5, hsix, hif, e1, e2, Option.bind_some, ↓reduceIte]⟩
  rw [if_neg h5]
  by_cases h6 : xs (zi (znn i)) &&& 63 = 6
  · rw [if_pos h6]
    obtain ⟨v, M1, M2, e1, e2, hI⟩ := one_of_sync (sync_feed (xs (zi (znn i + 1))) (xs (zi (znn i + 2))) (xs (zi (znn i + 3))) (xs (zi (znn i + 4))) (xs (zi (znn i + 5)))) hM
    exact ⟨M2, hI, by simp only [hz1, hz2, hz3, hz4, hz5, hsix, hif, e1, e2, Option.bind_some, ↓reduceIte]⟩
  rw [if_neg h6]
  by_cases h7 : xs (zi (znn i)) &&& 63 = 7
  · rw [if_pos h7]
    obtain ⟨v, M1, M2, e1, e2, hI⟩ := one_of_sync (sync_end (xs (zi (znn i + 1)))) hM
    exact ⟨M2, hI, by simp only [hz1, hz2, hz3, hz4, hz5, hsix, hif, e1, e2, Option.bind_some, ↓reduceIte]⟩
  rw [if_neg h7]
  by_cases h8 : xs (zi (znn i)) &&& 63 = 8
  · rw [if_pos h8]
    obtain ⟨v, M1, M2, e1, e2, hI⟩ := one_of_sync (htext (xs (zi (znn i + 1)))) hM
    exact ⟨M2, hI, by simp only [hz1, hz2, hz3, hz4, hz5, hsix, hif, e1, e2, Option.bind_some, ↓reduceIte]⟩
  rw [if_neg h8]
  by_cases h9 : xs (zi (znn i)) &&& 63 = 9
  · rw [if_pos h9]
    obtain ⟨v, e1, e2⟩ := syncP_fault (xs (zi (znn i + 1))) M M hM
    exact ⟨M, hM, by simp only [hz1, hz2, hz3, hz4, hz5, hsix, e1, e2, Option.bind_some, ↓reduceIte]⟩
  rw [if_neg h9]
  by_cases h10 : xs (zi (znn i)) &&& 63 = 10
  · rw [if_pos h10]
    obtain ⟨v, M1, M2, e1, e2, hI⟩ := one_of_sync (sync_of (xs (zi (znn i + 1))) (xs (zi (znn i + 2)))) hM
    exact ⟨M2, hI, by simp only [hz1, hz2, hz3, hz4, hz5, hsix, hif, e1, e2, Option.bind_some, ↓reduceIte]⟩
  rw [if_neg h10]
  by_cases h11 : xs (zi (znn i)) &&& 63 = 11
  · rw [if_pos h11]
    obtain ⟨v, M1, M2, e1, e2, hI⟩ := one_of_sync (sync_after (xs (zi (znn i + 1))) (xs (zi (znn i + 2))) (if (xs (zi (znn i + 3))) = 0 then 0 else 1)) hM
    exact ⟨M2, hI, by simp only [hz1, hz2, hz3, hz4, hz5, hsix, hif, e1, e2, Option.bind_some, ↓reduceIte]⟩
  rw [if_neg h11]
  by_cases h12 : xs (zi (znn i)) &&& 63 = 12
  · rw [if_pos h12]
    obtain ⟨v, e1, e2⟩ := syncP_work (xs (zi (znn i + 1))) (xs (zi (znn i + 2))) M M hM
    exact ⟨M, hM, by simp only [hz1, hz2, hz3, hz4, hz5, hsix, e1, e2, Option.bind_some, ↓reduceIte]⟩
  rw [if_neg h12]
  by_cases h13 : xs (zi (znn i)) &&& 63 = 13
  · rw [if_pos h13]
    obtain ⟨v, e1, e2⟩ := syncP_book (xs (zi (znn i + 1))) (xs (zi (znn i + 2))) M M hM
    exact ⟨M, hM, by simp only [hz1, hz2, hz3, hz4, hz5, hsix, e1, e2, Option.bind_some, ↓reduceIte]⟩
  rw [if_neg h13]
  by_cases h14 : xs (zi (znn i)) &&& 63 = 14
  · rw [if_pos h14]
    obtain ⟨v, M1, M2, e1, e2, hI⟩ := one_of_sync (sync_does (xs (zi (znn i + 1)))) hM
    exact ⟨M2, hI, by simp only [hz1, hz2, hz3, hz4, hz5, hsix, hif, e1, e2, Option.bind_some, ↓reduceIte]⟩
  rw [if_neg h14]
  by_cases h15 : xs (zi (znn i)) &&& 63 = 15
  · rw [if_pos h15]
    obtain ⟨v, e1, e2⟩ := syncP_plan (xs (zi (znn i + 1))) (xs (zi (znn i + 2))) (xs (zi (znn i + 3))) M M hM
    exact ⟨M, hM, by simp only [hz1, hz2, hz3, hz4, hz5, hsix, e1, e2, Option.bind_some, ↓reduceIte]⟩
  rw [if_neg h15]
  by_cases h16 : xs (zi (znn i)) &&& 63 = 16
  · rw [if_pos h16]
    obtain ⟨v, M1, M2, e1, e2, hI⟩ := one_of_sync (sync_given (xs (zi (znn i + 1))) (xs (zi (znn i + 2)))) hM
    exact ⟨M2, hI, by simp only [hz1, hz2, hz3, hz4, hz5, hsix, hif, e1, e2, Option.bind_some, ↓reduceIte]⟩
  rw [if_neg h16]
  by_cases h17 : xs (zi (znn i)) &&& 63 = 17
  · rw [if_pos h17]
    obtain ⟨v, M1, M2, e1, e2, hI⟩ := one_of_sync (sync_can (xs (zi (znn i + 1)))) hM
    exact ⟨M2, hI, by simp only [hz1, hz2, hz3, hz4, hz5, hsix, hif, e1, e2, Option.bind_some, ↓reduceIte]⟩
  rw [if_neg h17]
  by_cases h18 : xs (zi (znn i)) &&& 63 = 18
  · rw [if_pos h18]
    obtain ⟨v, M1, M2, e1, e2, hI⟩ := one_of_sync (sync_fewest (xs (zi (znn i + 1))) (xs (zi (znn i + 2)))) hM
    exact ⟨M2, hI, by simp only [hz1, hz2, hz3, hz4, hz5, hsix, hif, e1, e2, Option.bind_some, ↓reduceIte]⟩
  rw [if_neg h18]
  by_cases h19 : xs (zi (znn i)) &&& 63 = 19
  · rw [if_pos h19]
    obtain ⟨v, M1, M2, e1, e2, hI⟩ := one_of_sync (sync_hinge (xs (zi (znn i + 1)))) hM
    exact ⟨M2, hI, by simp only [hz1, hz2, hz3, hz4, hz5, hsix, hif, e1, e2, Option.bind_some, ↓reduceIte]⟩
  rw [if_neg h19]
  by_cases h20 : xs (zi (znn i)) &&& 63 = 20
  · rw [if_pos h20]
    obtain ⟨v, M1, M2, e1, e2, hI⟩ := one_of_sync (sync_turnsOf (xs (zi (znn i + 1))) (xs (zi (znn i + 2)))) hM
    obtain ⟨e3, rfl⟩ := pure_of e1
    exact ⟨M2, hI, by simp only [hz1, hz2, hz3, hz4, hz5, hsix, e3, e2, Option.bind_some, ↓reduceIte]⟩
  rw [if_neg h20]
  by_cases h21 : xs (zi (znn i)) &&& 63 = 21
  · rw [if_pos h21]
    obtain ⟨v, M1, M2, e1, e2, hI⟩ := one_of_sync (sync_traces (xs (zi (znn i + 1))) (xs (zi (znn i + 2)))) hM
    exact ⟨M2, hI, by simp only [hz1, hz2, hz3, hz4, hz5, hsix, hif, e1, e2, Option.bind_some, ↓reduceIte]⟩
  rw [if_neg h21]
  by_cases h22 : xs (zi (znn i)) &&& 63 = 22
  · rw [if_pos h22]
    obtain ⟨v, M1, M2, e1, e2, hI⟩ := one_of_sync (sync_fits (xs (zi (znn i + 1))) (xs (zi (znn i + 2)))) hM
    obtain ⟨e3, rfl⟩ := pure_of e2
    exact ⟨M1, hI, by simp only [hz1, hz2, hz3, hz4, hz5, hsix, e1, e3, Option.bind_some, ↓reduceIte]⟩
  rw [if_neg h22]
  by_cases h23 : xs (zi (znn i)) &&& 63 = 23
  · rw [if_pos h23]
    obtain ⟨v, M1, M2, e1, e2, hI⟩ := one_of_sync (sync_lookAt (xs (zi (znn i + 1)))) hM
    obtain ⟨e3, rfl⟩ := pure_of e2
    exact ⟨M1, hI, by simp only [hz1, hz2, hz3, hz4, hz5, hsix, e1, e3, Option.bind_some, ↓reduceIte]⟩
  rw [if_neg h23]
  by_cases h24 : xs (zi (znn i)) &&& 63 = 24
  · rw [if_pos h24]
    obtain ⟨v, e1, e2⟩ := syncP_share (xs (zi (znn i + 1))) (xs (zi (znn i + 2))) (xs (zi (znn i + 3))) M M hM
    exact ⟨M, hM, by simp only [hz1, hz2, hz3, hz4, hz5, hsix, e1, e2, Option.bind_some, ↓reduceIte]⟩
  rw [if_neg h24]
  by_cases h25 : xs (zi (znn i)) &&& 63 = 25
  · rw [if_pos h25]
    obtain ⟨v, M1, M2, e1, e2, hI⟩ := one_of_sync (sync_bid (xs (zi (znn i + 1))) (xs (zi (znn i + 2)))) hM
    exact ⟨M2, hI, by simp only [hz1, hz2, hz3, hz4, hz5, hsix, hif, e1, e2, Option.bind_some, ↓reduceIte]⟩
  rw [if_neg h25]
  by_cases h26 : xs (zi (znn i)) &&& 63 = 26
  · rw [if_pos h26]
    obtain ⟨v, e1, e2⟩ := syncP_sold (xs (zi (znn i + 1))) M M hM
    exact ⟨M, hM, by simp only [hz1, hz2, hz3, hz4, hz5, hsix, e1, e2, Option.bind_some, ↓reduceIte]⟩
  rw [if_neg h26]
  by_cases h27 : xs (zi (znn i)) &&& 63 = 27
  · rw [if_pos h27]
    obtain ⟨v, e1, e2⟩ := syncP_rests (xs (zi (znn i + 1))) M M hM
    exact ⟨M, hM, by simp only [hz1, hz2, hz3, hz4, hz5, hsix, e1, e2, Option.bind_some, ↓reduceIte]⟩
  rw [if_neg h27]
  by_cases h28 : xs (zi (znn i)) &&& 63 = 28
  · rw [if_pos h28]
    obtain ⟨v, e1, e2⟩ := syncP_weekday (xs (zi (znn i + 1))) (xs (zi (znn i + 2))) (xs (zi (znn i + 3))) (xs (zi (znn i + 4))) M M hM
    have e1 : f123_weekday (xs (zi (znn i + 1))) (xs (zi (znn i + 2))) (xs (zi (znn i + 3))) (xs (zi (znn i + 4))) = some v := e1
    have e2 : f261_weekday (xs (zi (znn i + 1))) (xs (zi (znn i + 2))) (xs (zi (znn i + 3))) (xs (zi (znn i + 4))) = some v := e2
    exact ⟨M, hM, by simp only [hz1, hz2, hz3, hz4, hz5, hsix, e1, e2, Option.bind_some, ↓reduceIte]⟩
  rw [if_neg h28]
  by_cases h29 : xs (zi (znn i)) &&& 63 = 29
  · rw [if_pos h29]
    obtain ⟨v, e1, e2⟩ := syncP_next M M hM
    exact ⟨M, hM, by simp only [hz1, hz2, hz3, hz4, hz5, hsix, e1, e2, Option.bind_some, ↓reduceIte]⟩
  rw [if_neg h29]
  by_cases h30 : xs (zi (znn i)) &&& 63 = 30
  · rw [if_pos h30]
    obtain ⟨v, e1, e2⟩ := syncP_due (xs (zi (znn i + 1))) M M hM
    exact ⟨M, hM, by simp only [hz1, hz2, hz3, hz4, hz5, hsix, e1, e2, Option.bind_some, ↓reduceIte]⟩
  rw [if_neg h30]
  by_cases h31 : xs (zi (znn i)) &&& 63 = 31
  · rw [if_pos h31]
    obtain ⟨v, M1, M2, e1, e2, hI⟩ := one_of_sync (sync_doers (xs (zi (znn i + 1)))) hM
    exact ⟨M2, hI, by simp only [hz1, hz2, hz3, hz4, hz5, hsix, hif, e1, e2, Option.bind_some, ↓reduceIte]⟩
  rw [if_neg h31]
  by_cases h32 : xs (zi (znn i)) &&& 63 = 32
  · rw [if_pos h32]
    obtain ⟨v, M1, M2, e1, e2, hI⟩ := one_of_sync (sync_thieves) hM
    obtain ⟨e3, rfl⟩ := pure_of e2
    exact ⟨M1, hI, by simp only [hz1, hz2, hz3, hz4, hz5, hsix, e1, e3, Option.bind_some, ↓reduceIte]⟩
  rw [if_neg h32]
  by_cases h33 : xs (zi (znn i)) &&& 63 = 33
  · rw [if_pos h33]
    obtain ⟨v, M1, M2, e1, e2, hI⟩ := one_of_sync (sync_soonest (xs (zi (znn i + 1)))) hM
    exact ⟨M2, hI, by simp only [hz1, hz2, hz3, hz4, hz5, hsix, hif, e1, e2, Option.bind_some, ↓reduceIte]⟩
  rw [if_neg h33]
  by_cases h34 : xs (zi (znn i)) &&& 63 = 34
  · rw [if_pos h34]
    obtain ⟨v, e1, e2⟩ := syncP_spread (xs (zi (znn i + 1))) M M hM
    exact ⟨M, hM, by simp only [hz1, hz2, hz3, hz4, hz5, hsix, e1, e2, Option.bind_some, ↓reduceIte]⟩
  rw [if_neg h34]
  by_cases h35 : xs (zi (znn i)) &&& 63 = 35
  · rw [if_pos h35]
    obtain ⟨v, e1, e2⟩ := syncP_way (xs (zi (znn i + 1))) (xs (zi (znn i + 2))) M M hM
    exact ⟨M, hM, by simp only [hz1, hz2, hz3, hz4, hz5, hsix, e1, e2, Option.bind_some, ↓reduceIte]⟩
  rw [if_neg h35]
  by_cases h36 : xs (zi (znn i)) &&& 63 = 36
  · rw [if_pos h36]
    obtain ⟨v, e1, e2⟩ := syncP_clique (xs (zi (znn i + 1))) M M hM
    exact ⟨M, hM, by simp only [hz1, hz2, hz3, hz4, hz5, hsix, e1, e2, Option.bind_some, ↓reduceIte]⟩
  rw [if_neg h36]
  by_cases h37 : xs (zi (znn i)) &&& 63 = 37
  · rw [if_pos h37]
    obtain ⟨v, M1, M2, e1, e2, hI⟩ := one_of_sync (sync_undo) hM
    exact ⟨M2, hI, by simp only [hz1, hz2, hz3, hz4, hz5, hsix, hif, e1, e2, Option.bind_some, ↓reduceIte]⟩
  rw [if_neg h37]
  by_cases h38 : xs (zi (znn i)) &&& 63 = 38
  · rw [if_pos h38]
    obtain ⟨v, M1, M2, e1, e2, hI⟩ := one_of_sync (sync_image (if (xs (zi (znn i + 1))) = 0 then 0 else 1)) hM
    exact ⟨M2, hI, by simp only [hz1, hz2, hz3, hz4, hz5, hsix, hif, e1, e2, Option.bind_some, ↓reduceIte]⟩
  rw [if_neg h38]
  by_cases h39 : xs (zi (znn i)) &&& 63 = 39
  · rw [if_pos h39]
    obtain ⟨v, M1, M2, e1, e2, hI⟩ := one_of_sync (sync_look (xs (zi (znn i + 1)))) hM
    exact ⟨M2, hI, by simp only [hz1, hz2, hz3, hz4, hz5, hsix, hif, e1, e2, Option.bind_some, ↓reduceIte]⟩
  rw [if_neg h39]
  exact ⟨M, hM, by rw [hsix]⟩
theorem law_true_of (htext : ∀ x, sync (f52_text x) (f156_text x)) {L : Nat} {xs : Nat → Int32} {R : Nat → Nat → Option Nat} (hL : L ≤ 3072) : ∀ (d i : Nat) (M : ZI) (f : Nat), L < i + d → i ≤ L + 6 → d < f → Inv2 M M → ∃ M', f267_l18 ((L, xs), R) f (znn i) M = some (1, M')
  | d, i, M, 0, _, _, h, _ => by omega
  | d, i, M, f + 1, h1, h2, h3, hM => by
    by_cases hi : i + 6 ≤ L
    · obtain ⟨M1, hM1, e⟩ := law_step (xs := xs) (R := R) htext hL hi hM f
      rw [e]
      exact law_true_of htext hL (d - 6) (i + 6) M1 f (by omega) (by omega) (by omega) hM1
    · refine ⟨M, ?_⟩
      have hlt : Int32.ofNat L - 6 < znn i := by
        show znn L - 6 < znn i
        by_cases hL6 : 6 ≤ L
        · rw [zl6, zn_sub (by omega), zn_lt (by omega) (by omega)]; omega
        · have : ∀ x : Fin 6, (znn x.val - 6 : Int32) < 0 := by decide +kernel
          have h0 := this ⟨L, by omega⟩
          have h9 : (0 : Int32) ≤ znn i := (zn_nat (by omega)).1
          exact Int32.lt_of_lt_of_le h0 h9
      rw [f267_l18]
      (try dsimp only)
      rw [if_pos hlt]
