-- ===== text of the VOICES =====
def dftV (B : ZI) : Nat → Int32 := fun i => B 155 (i - 80)
theorem dftV_0 (B : ZI) (j : Nat) : dftV B (80 + j) = B 155 j := by
  unfold dftV
  rw [show 80 + j - 80 = j by omega]
theorem voiceN_set {w w' : Nat → Int32} {x : Nat} (h1 : w (80 + x) = -1) (h2 : w' (80 + x) ≠ -1) (h3 : ∀ p, p ≠ x → w' (80 + p) = w (80 + p)) : ∀ n, x < n → voiceN w' n = voiceN w n + 1
  | 0, h => by omega
  | n + 1, h => by
    unfold voiceN
    by_cases hx : x = n
    · subst hx
      rw [voiceN_P x (fun p hp => h3 p (by omega)), if_neg h2, if_pos h1]
    · rw [voiceN_set h1 h2 h3 n (by omega), h3 n (by omega)]
      omega
theorem voiceN_le (w : Nat → Int32) : ∀ n, voiceN w n ≤ n
  | 0 => Nat.le_refl _
  | n + 1 => by
    unfold voiceN
    have := voiceN_le w n
    split <;> omega
def VC (A B : ZI) (n : Nat) : Prop := (∀ i, i < 10 → A 133 i = B 155 i) ∧ (∀ i, i < 10 → B 155 i = -1 ∨ ∃ q, q < n ∧ B 155 i = znn q) ∧ B 148 17 = znn (voiceN (dftV B) n)
theorem VC_of {A B A' B' : ZI} {n : Nat} (h : VC A B n) (g1 : A' 133 = A 133) (g2 : B' 155 = B 155) (g3 : B' 148 17 = B 148 17) : VC A' B' n := by
  unfold VC dftV
  rw [g1, g2, g3]
  exact h
def VQ (b : Nat → Nat) (t n N : Nat) (A0 B0 A' B' : ZI) : Prop := ∃ m, PS 1 b t N A0 B0 A' B' m ∧ VC A' B' n
theorem num_in {B : ZI} {lo hi : Int32} {v : Nat} (h21 : B 148 21 = 2) (h23 : B 148 23 = znn v) (h1 : ¬ znn v < lo) (h2 : ¬ hi < znn v) : ∀ B', f182_number lo hi B ≠ some (0, B') := by
  intro B' h
  unfold f182_number f149_isIn at h
  rw [h21, if_pos rfl, h23, if_neg h1, if_neg h2, Option.bind_some, if_neg (show ¬ (1 : Int32) = 0 by decide), zlet_e] at h
  cases hn : f157_next0 (zs B 148 29 (znn v)) with
  | none => rw [hn] at h; cases h
  | some M =>
    rw [hn, Option.bind_some] at h
    have := congrArg Prod.fst (Option.some.inj h)
    exact absurd this (show ¬ (1 : Int32) = 0 by decide)
theorem person_eq (x : Int32) (M : ZI) : f152_isPerson x M = some (if x < 0 then 0 else if (M 149 48 - 1) < x then 0 else 1) := by
  unfold f152_isPerson f149_isIn
  split
  · rfl
  · split <;> rfl
theorem l28_eq (f : Nat) (x7 : Int32) (M8 : ZI) : f180_l28 (f + 1) x7 M8 = (if x7 = 0 then some (x7, M8) else (if (M8 148 21) = 0 then some (x7, M8) else (f181_aVoice M8).bind fun (v9, M10) => f180_l28 f v9 M10)) := rfl
theorem l28_0 (f : Nat) (M8 : ZI) : f180_l28 (f + 1) 0 M8 = some (0, M8) := by rw [l28_eq, if_pos rfl]
def voice14 (x4 : Int32) (M7 : ZI) : Option (Int32 × ZI) := ((f182_number (0 : Int32) ((M7 149 48) - (1 : Int32)) M7).bind fun (v8, M9) => (if v8 = 0 then some ((0 : Int32), M9) else if zin x4 10 = true then zlet (zs M9 155 (zi x4) (M9 148 29)) fun (M10 : ZI) => zlet (zs M10 148 17 ((M10 148 17) + (1 : Int32))) fun (M11 : ZI) => (f179_need (159 : Int32) M11).bind fun (v12, M13) => if zbl v12 = true then some (v12, M13) else none else none))
def voice17 (M1 : ZI) : Option (Int32 × ZI) := ((f182_number (0 : Int32) ((M1 149 48) - (1 : Int32)) M1).bind fun (v2, M3) => (if v2 = 0 then some ((0 : Int32), M3) else zlet (M3 148 29) fun (x4 : Int32) => (f179_need (7 : Int32) M3).bind fun (v5, M6) => (if v5 = 0 then some ((0 : Int32), M6) else zlet (voice14 x4) fun j14 =>
  (if (M6 148 21) = (2 : Int32) then (if (M6 148 23) = x4 then (f170_bad (2 : Int32) M6).bind fun (v15, M16) => if zbl v15 = true then some (v15, M16) else none else j14 M6) else j14 M6))))
theorem aVoice_eq (M : ZI) : f181_aVoice M = (if (M 148 21) = (2 : Int32) then (f152_isPerson (M 148 23) M).bind fun v18 => (if v18 = 0 then voice17 M else if zin (M 148 23) 10 = true then (if (M 155 (zi (M 148 23))) = (-1 : Int32) then voice17 M else (f170_bad (2 : Int32) M).bind fun (v19, M20) => if zbl v19 = true then some (v19, M20) else none) else none) else voice17 M) := rfl
theorem voice_loop {b : Nat → Nat} {t n N : Nat} {A0 B0 : ZI} (hC : CX 1 b t n N A0 B0) : ∀ f m x6 g A B, N - m < f → N - m < g → 2 * x6 + (N - m) ≤ 400 → PS 1 b t N A0 B0 A B m → VC A B n →
    Both A0 B0 (f83_l23 119 f (znn x6) A) (f180_l28 g 1 B) (VQ b t n N A0 B0)
  | 0, m, x6, g, A, B, h1, h2, h3, h, hv => by omega
  | f + 1, m, x6, g, A, B, h1, h2, h3, h, hv => by
    obtain ⟨g, rfl⟩ : ∃ q, g = q + 1 := ⟨g - 1, by omega⟩
    have hN := hC.2.1.1
    have hmN := h.1.2.2
    have hn10 := hC.1.2.2
    have i2 : (pairs 1).all (fun q => (q.1 == -2) == (q.2 == 2)) = true := by decide +kernel
    have hA7 : A 119 7 = tkK b t m := h.2.1.2.1
    have hB21 : B 148 21 = tkT 1 b t m := h.2.2.2.2.1
    have iend := tk_iff (a := 1) (k := -1) (x := 0) (by decide +kernel) b t m
    have n9 : ∀ A B m, PS 1 b t N A0 B0 A B m → A 119 9 = znn n := fun A B m h => by rw [h.1.1.2 9 (by decide) (by decide) (by decide) (by decide) (by decide)]; exact hC.2.2.1.2.2
    have n48 : ∀ A B m, PS 1 b t N A0 B0 A B m → B 149 48 = znn n := fun A B m h => by rw [h.1.2.1.1 149 (by decide) (by omega)]; exact hC.2.2.2.2.2
    rw [f83_l23, l28_eq, if_pos (show znn x6 < 400 by rw [zl400, zn_lt (by omega) (by decide)]; omega), if_neg (show ¬ (1 : Int32) = 0 by decide), hA7, hB21]
    by_cases kend : tkK b t m = -1
    · rw [if_pos kend, if_pos (iend.mp kend)]
      exact Or.inr ⟨A, B, rfl, rfl, m, h, hv⟩
    rw [if_neg kend, if_neg (fun hx => kend (iend.mpr hx)), n9 _ _ _ h, aVoice_eq, person_eq, n48 _ _ _ h]
    have hm : m < N := (tk_end hC h).2 kend
    obtain ⟨g, rfl⟩ : ∃ q, g = q + 1 := ⟨g - 1, by omega⟩
    rcases num_step hC h 0 (znn n - 1) i2 with ⟨A', B', r1, r2, r3⟩ | ⟨v, A1, B1, hv1, q1, q2, -, q3, q4, q5, q6, q7, q8, q9, q10, q11⟩
    · have e17 : voice17 B = some (0, B') := by
        unfold voice17
        rw [n48 _ _ _ h, r2]
        rfl
      rw [r1, Option.bind_some]
      have e : (if B 148 21 = (2 : Int32) then ((some (if B 148 23 < 0 then (0 : Int32) else if (znn n - 1) < B 148 23 then 0 else 1)) : Option Int32).bind fun v18 => (if v18 = 0 then voice17 B else if zin (B 148 23) 10 = true then (if (B 155 (zi (B 148 23))) = (-1 : Int32) then voice17 B else (f170_bad (2 : Int32) B).bind fun (v19, M20) => if zbl v19 = true then some (v19, M20) else none) else none) else voice17 B) = some (0, B') := by
        by_cases h21 : B 148 21 = 2
        · rw [if_pos h21, Option.bind_some]
          have out : (if B 148 23 < 0 then (0 : Int32) else if (znn n - 1) < B 148 23 then 0 else 1) = 0 := by
            have i := tk_iff i2 b t m
            have hk : tkK b t m = -2 := i.mpr (by rw [← hB21]; exact h21)
            have h23 := h.2.2.2.2.2 hk
            by_cases h0 : B 148 23 < 0
            · rw [if_pos h0]
            · rw [if_neg h0]
              by_cases h4 : (znn n - 1) < B 148 23
              · rw [if_pos h4]
              · rw [h23] at h0 h4
                exact absurd r2 (num_in h21 h23 h0 h4 B')
          rw [out, if_pos rfl]
          exact e17
        · rw [if_neg h21]
          exact e17
      rw [e]
      exact Or.inl ⟨A', B', rfl, l28_0 _ _, r3⟩
    · have hvn := zn_pred hn10 hv1 q2
      have hz : zin (znn v) 10 = true := (zn_zin (by omega)).mpr (by omega)
      rw [q3, Option.bind_some, q5, if_pos rfl, q6, if_neg q1, if_neg q2, Option.bind_some, if_neg (show ¬ (1 : Int32) = 0 by decide), if_pos hz, zn_zi (by omega)]
      dsimp only
      rw [if_neg (show ¬ (1 : Int32) = 0 by decide), q4, zlet_e, zlet_e, if_pos (show znn v < 10 by rw [zl10, zn_lt (by omega) (by decide)]; omega), if_pos hz, zn_zi (by omega), hv.1 v (by omega)]
      by_cases h1v : B 155 v = -1
      case neg =>
        obtain ⟨A', B', r1, r2, r3⟩ := rfz hC h 2
        rw [if_neg h1v, if_neg h1v]
        dsimp only
        rw [r1, r2]
        exact Or.inl ⟨A', B', rfl, l28_0 _ _, r3⟩
      rw [if_pos h1v, if_pos h1v]
      obtain ⟨A4, f1, f2, f3⟩ := fwd_store (A2 := A) hC h hm (fun _ _ => rfl)
      have p1 := f3 A1 B1 q8
      have a4 : ∀ o, o ≠ 119 → A4 o = A o := f2
      unfold voice17
      rw [n48 _ _ _ h, q7, f1, Option.bind_some, Option.bind_some]
      dsimp only
      rw [if_neg (show ¬ (1 : Int32) = 0 by decide), q9, zlet_e]
      rcases skip_need (k := 272) (x := 7) hC p1 (by decide +kernel) (by decide) with ⟨s1, s2, s3⟩ | ⟨A', B', r1, r2, r3⟩
      case inr =>
        rw [r1, r2, Option.bind_some, Option.bind_some]
        exact Or.inl ⟨A', B', rfl, l28_0 _ _, r3⟩
      obtain ⟨A5, B2, e1, e2, e3, e4, e5, e6⟩ := fwd hC p1 s1
      rw [s2, s3, e1, e2, Option.bind_some, Option.bind_some, Option.bind_some, Option.bind_some]
      dsimp only
      rw [if_neg (show ¬ (1 : Int32) = 0 by decide), if_neg (show ¬ (1 : Int32) = 0 by decide), n9 _ _ _ e3, zlet_e (voice14 _)]
      rcases num_step hC e3 0 (znn n - 1) i2 with ⟨A', B', r1, r2, r3⟩ | ⟨v2, A6, B3, hv2, w1, w2, hm2, w3, w4, w5, w6, w7, w8, w9, w10, w11⟩
      · have e14 : voice14 (znn v) B2 = some (0, B') := by
          unfold voice14
          rw [n48 _ _ _ e3, r2]
          rfl
        have e : (if B2 148 21 = (2 : Int32) then (if B2 148 23 = znn v then (f170_bad (2 : Int32) B2).bind fun (v15, M16) => if zbl v15 = true then some (v15, M16) else none else voice14 (znn v) B2) else voice14 (znn v) B2) = some (0, B') := by
          by_cases h21 : B2 148 21 = 2
          · rw [if_pos h21]
            by_cases h23 : B2 148 23 = znn v
            · exact absurd r2 (num_in h21 h23 q1 q2 B')
            · rw [if_neg h23]
              exact e14
          · rw [if_neg h21]
            exact e14
        rw [r1, e]
        exact Or.inl ⟨A', B', rfl, l28_0 _ _, r3⟩
      · have hv2n := zn_pred hn10 hv2 w2
        rw [w3, if_pos w5, Option.bind_some]
        dsimp only
        rw [if_neg (show ¬ (1 : Int32) = 0 by decide)]
        by_cases hvv : znn v2 = znn v
        · obtain ⟨A', B', r1, r2, r3⟩ := rfz hC e3 2
          rw [if_pos (show A5 119 8 = znn v from w4.trans hvv), if_pos (show B2 148 23 = znn v from w6.trans hvv), r1, r2]
          exact Or.inl ⟨A', B', rfl, l28_0 _ _, r3⟩
        rw [if_neg (show ¬ A5 119 8 = znn v from fun hx => hvv (w4.symm.trans hx)), if_neg (show ¬ B2 148 23 = znn v from fun hx => hvv (w6.symm.trans hx)), if_pos hz, w4]
        unfold voice14
        rw [n48 _ _ _ e3, w7, Option.bind_some]
        dsimp only
        rw [if_neg (show ¬ (1 : Int32) = 0 by decide), if_pos hz, zn_zi (by omega), w9, zlet_e, zlet_e, zlet_e]
        have b155 : B3 155 = B 155 := by rw [w10 155 (by decide), e5 155 (by decide), q10 155 (by decide)]
        have b17 : B3 148 17 = znn (voiceN (dftV B) n) := by rw [w11 17 (by decide) (by decide) (by decide) (by decide) (by decide), e6 17 (by decide) (by decide) (by decide) (by decide), q11 17 (by decide) (by decide) (by decide) (by decide) (by decide)]; exact hv.2.2
        obtain ⟨A7, k1, k2, k3⟩ := fwd_store (A2 := zs A5 (119 + 14) v (znn v2)) hC e3 hm2 (fun o ho => by rw [zs_df (by omega)])
        have p2 := k3 A6 B3 w8
        have d17 : (zs B3 155 v (znn v2)) 148 17 = znn (voiceN (dftV B) n) := by rw [zs_df (by decide)]; exact b17
        rw [k1, Option.bind_some, d17, zadd1, zadd1]
        have p3 : PS 1 b t N A0 B0 A7 (zs (zs B3 155 v (znn v2)) 148 17 (znn (voiceN (dftV B) n + 1))) (m + 1 + 1 + 1) := PS_of p2 (fun _ _ => rfl) (fun o o1 o2 => by rw [zs_df o1, zs_df (by omega)]) (fun j hj => by rw [zs_sm, if_neg (by rintro rfl; exact absurd hj (by decide)), zs_df (by decide)])
        have V : VC A7 (zs (zs B3 155 v (znn v2)) 148 17 (znn (voiceN (dftV B) n + 1))) n := by
          have x133 : ∀ i, A7 133 i = if i = v then znn v2 else A 133 i := fun i => by rw [k2 133 (by decide), show 119 + 14 = 133 from rfl, zs_sm, e4 133 (by decide), a4 133 (by decide)]
          have x155 : ∀ i, (zs (zs B3 155 v (znn v2)) 148 17 (znn (voiceN (dftV B) n + 1))) 155 i = if i = v then znn v2 else B 155 i := fun i => by rw [zs_df (by decide), zs_sm, b155]
          refine ⟨fun i hi => ?_, fun i hi => ?_, ?_⟩
          · rw [x133, x155, hv.1 i hi]
          · rw [x155]
            by_cases hiv : i = v
            · rw [if_pos hiv]
              exact Or.inr ⟨v2, hv2n, rfl⟩
            · rw [if_neg hiv]
              exact hv.2.1 i hi
          · rw [zs_sm, if_pos rfl, voiceN_set (w := dftV B) (w' := dftV (zs (zs B3 155 v (znn v2)) 148 17 (znn (voiceN (dftV B) n + 1)))) (x := v) (by rw [dftV_0]; exact h1v) (by rw [dftV_0, x155, if_pos rfl]; exact zn_ne_neg (by omega)) (fun p hp => by rw [dftV_0, dftV_0, x155, if_neg hp]) n hvn]
        generalize zs (zs B3 155 v (znn v2)) 148 17 (znn (voiceN (dftV B) n + 1)) = B4 at *
        rcases skip_need (k := 59) (x := 159) hC p3 (by decide +kernel) (by decide) with ⟨s1, s2, s3⟩ | ⟨A', B', r1, r2, r3⟩
        · obtain ⟨A8, B5, l1, l2, l3, l4, l5, l6⟩ := fwd hC p3 s1
          rw [s2, s3, l1, l2, Option.bind_some, Option.bind_some, Option.bind_some, Option.bind_some]
          dsimp only
          rw [if_neg (show ¬ (1 : Int32) = 0 by decide), if_pos (show zbl (1 : Int32) = true from rfl), Option.bind_some]
          exact voice_loop hC f (m + 1 + 1 + 1 + 1) (x6 + 1) (g + 1) A8 B5 (by omega) (by omega) (by omega) l3 (VC_of V (l4 133 (by decide)) (l5 155 (by decide)) (l6 17 (by decide) (by decide) (by decide) (by decide)))
        · rw [r1, r2]
          exact Or.inl ⟨A', B', rfl, l28_0 _ _, r3⟩
