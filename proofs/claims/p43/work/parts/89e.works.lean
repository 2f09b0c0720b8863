theorem voice_read {b : Nat → Nat} {t n N : Nat} {A0 B0 A B : ZI} (hC : CX 1 b t n N A0 B0) (h : PS 1 b t N A0 B0 A B 0) : Both A0 B0 (f83_readVoices 119 A) (f180_readsVoices B) (VQ b t n N A0 B0) := by
  have hN := hC.2.1.1
  obtain ⟨A1, a1, a2, a3⟩ := zloop (fun fu (b : ZI) c => f83_l2 119 fu c b) 10 (fun i b => (∀ o, o ≠ 133 → b o = A o) ∧ ∀ j, j < i → b 133 j = -1) (fun b => (∀ o, o ≠ 133 → b o = A o) ∧ ∀ j, j < 10 → b 133 j = -1) (fun fu i b hi hb => by
    obtain ⟨g1, g2⟩ := hb
    left
    (try dsimp only)
    rw [f83_l2, if_pos (show znn i < 10 by rw [zl10, zn_lt (by omega) (by decide)]; exact hi), if_pos ((zn_zin (by omega)).mpr hi), zn_zi (by omega), zlet_e, zadd1]
    refine ⟨_, ⟨fun o ho => ?_, fun j hj => ?_⟩, rfl⟩
    · rw [zs_df (by omega)]; exact g1 o ho
    · rw [show 119 + 14 = 133 from rfl, zs_sm]
      by_cases hji : j = i
      · rw [if_pos hji]
      · rw [if_neg hji]; exact g2 j (by omega)) (fun fu b hb => by
    refine ⟨b, hb, ?_⟩
    (try dsimp only)
    rw [f83_l2, if_neg (by decide)]) zfu 0 A (Nat.zero_le _) (by rw [zfu_eq]; omega) ⟨fun _ _ => rfl, fun j hj => by omega⟩
  obtain ⟨B1, b1, b2, b3⟩ := zloop (fun fu (b : ZI) c => f180_l7 fu c b) 10 (fun i b => (∀ o, o ≠ 155 → b o = (zs B 148 17 0) o) ∧ ∀ j, j < i → b 155 j = -1) (fun b => (∀ o, o ≠ 155 → b o = (zs B 148 17 0) o) ∧ ∀ j, j < 10 → b 155 j = -1) (fun fu i b hi hb => by
    obtain ⟨g1, g2⟩ := hb
    left
    (try dsimp only)
    rw [f180_l7, if_pos (show znn i < 10 by rw [zl10, zn_lt (by omega) (by decide)]; exact hi), if_pos ((zn_zin (by omega)).mpr hi), zn_zi (by omega), zlet_e, zadd1]
    refine ⟨_, ⟨fun o ho => ?_, fun j hj => ?_⟩, rfl⟩
    · rw [zs_df ho]; exact g1 o ho
    · rw [zs_sm]
      by_cases hji : j = i
      · rw [if_pos hji]
      · rw [if_neg hji]; exact g2 j (by omega)) (fun fu b hb => by
    refine ⟨b, hb, ?_⟩
    (try dsimp only)
    rw [f180_l7, if_neg (by decide)]) zfu 0 (zs B 148 17 0) (Nat.zero_le _) (by rw [zfu_eq]; omega) ⟨fun _ _ => rfl, fun j hj => by omega⟩
  have a1 : f83_l2 119 zfu 0 A = some A1 := a1
  have b1 : f180_l7 zfu 0 (zs B 148 17 0) = some B1 := b1
  have hP : PS 1 b t N A0 B0 A1 B1 0 := PS_of h (fun o ho => a2 o (by omega)) (fun o o1 o2 => by rw [b2 o (by omega), zs_df o1]) (fun j hj => by rw [b2 148 (by decide), zs_sm, if_neg (by rintro rfl; exact absurd hj (by decide))])
  have hV : VC A1 B1 n := by
    refine ⟨fun i hi => by rw [a3 i hi, b3 i hi], fun i hi => Or.inl (b3 i hi), ?_⟩
    have e : ∀ n, n ≤ 10 → voiceN (dftV B1) n = 0 := by
      intro n
      induction n with
      | zero => intro _; rfl
      | succ n ih =>
        intro hn
        unfold voiceN
        rw [ih (by omega), dftV_0, b3 n (by omega), if_pos rfl]
    rw [e n hC.1.2.2, b2 148 (by decide), zs_sm, if_pos rfl]
    rfl
  have key := voice_loop hC zfu 0 0 zfu A1 B1 (by rw [zfu_eq]; omega) (by rw [zfu_eq]; omega) (by omega) hP hV
  unfold f83_readVoices f180_readsVoices
  rw [a1, zlet_e, b1, Option.bind_some, Option.bind_some]
  rcases key with ⟨A', B', e1, e2, e3⟩ | ⟨A', B', e1, e2, e3⟩
  · exact Or.inl ⟨A', B', e1, by rw [e2]; rfl, e3⟩
  · exact Or.inr ⟨A', B', e1, by rw [e2]; rfl, e3⟩
-- ===== text of the WORKS =====
/-- one thing told of a work -/
theorem entry_step {b : Nat → Nat} {t n N m k d : Nat} {A0 B0 A B : ZI} {kw w lo hi : Int32} (hC : CX 2 b t n N A0 B0) (h : PS 2 b t N A0 B0 A B m) (hd : d < 5) (hz : zal (135 + d) = 12) (hk : k < 12) (hA : A 134 6 = znn k) (hB : B 148 17 = znn k) (hi1 : (pairs 2).all (fun q => (q.1 == kw) == (q.2 == w)) = true) (hi2 : kw ≠ -1) :
    Both A0 B0 (f86_readEntry 119 kw (135 + d) lo hi A) (f185_told (znn d) w lo hi B) (fun A' B' => ∃ m' v, PS 2 b t N A0 B0 A' B' m' ∧ m < m' ∧ v < 10000 ∧ ¬ znn v < lo ∧ ¬ hi < znn v ∧ (∀ j, A' (135 + d) j = if j = k then znn v else A (135 + d) j) ∧ (∀ j, B' 156 j = if j = 6 * k + d then znn v else B 156 j) ∧ (∀ o, o ≠ 119 → o ≠ 135 + d → A' o = A o) ∧ (∀ o, o ≠ 148 → o ≠ 156 → B' o = B o) ∧ B' 148 17 = znn k) := by
  unfold f86_readEntry f185_told
  rcases skip_need hC h hi1 hi2 with ⟨s1, s2, s3⟩ | ⟨A', B', r1, r2, r3⟩
  case inr =>
    rw [r1, r2]
    exact Or.inl ⟨A', B', rfl, rfl, r3⟩
  obtain ⟨A1, B1, e1, e2, e3, e4, e5, e6⟩ := fwd hC h s1
  rw [s2, s3, e1, e2, Option.bind_some, Option.bind_some, Option.bind_some, Option.bind_some]
  dsimp only
  rw [if_neg (show ¬ (1 : Int32) = 0 by decide), if_neg (show ¬ (1 : Int32) = 0 by decide)]
  rcases num_step hC e3 lo hi (by decide +kernel) with ⟨A', B', r1, r2, r3⟩ | ⟨v, A2, B2, hv, q1, q2, hm, q3, q4, -, -, q5, q6, q7, q8, q9⟩
  · rw [r1, r2]
    exact Or.inl ⟨A', B', rfl, rfl, r3⟩
  have a6 : A1 (119 + 15) 6 = znn k := by rw [show 119 + 15 = 134 from rfl, e4 134 (by decide)]; exact hA
  have b17 : B2 148 17 = znn k := by rw [q9 17 (by decide) (by decide) (by decide) (by decide) (by decide), e6 17 (by decide) (by decide) (by decide) (by decide)]; exact hB
  obtain ⟨A3, f1, f2, f3⟩ := fwd_store (A2 := zs A1 (135 + d) k (znn v)) hC e3 hm (fun o ho => by rw [zs_df (by omega)])
  have hz12 : zin (znn k) 12 = true := (zn_zin (by omega)).mpr hk
  have x6 : (6 : Int32) * B2 148 17 + znn d = znn (6 * k + d) := by rw [b17, zl6, zn_mul, zn_add]
  rw [q3, q5, Option.bind_some, Option.bind_some]
  dsimp only
  rw [if_neg (show ¬ (1 : Int32) = 0 by decide), if_neg (show ¬ (1 : Int32) = 0 by decide), if_pos (show A1 (119 + 15) 6 < Int32.ofNat (zal (135 + d)) from by rw [a6, hz]; exact (zn_lt (by omega) (by decide)).mpr hk), if_pos (show zin (A1 (119 + 15) 6) (zal (135 + d)) = true from by rw [a6, hz]; exact hz12), a6, zn_zi (by omega), q4, zlet_e, Option.bind_some, f1, Option.bind_some, if_pos (show zin ((6 : Int32) * B2 148 17 + znn d) 72 = true from by rw [x6]; exact (zn_zin (by omega)).mpr (by omega)), x6, q7, zn_zi (by omega), zlet_e]
  refine Or.inr ⟨A3, _, rfl, rfl, m + 1 + 1, v, ?_, by omega, hv, q1, q2, fun j => ?_, fun j => ?_, fun o o1 o2 => ?_, fun o o1 o2 => ?_, ?_⟩
  · exact PS_of (f3 A2 B2 q6) (fun _ _ => rfl) (fun o o1 o2 => by rw [zs_df (by omega)]) (fun j hj => by rw [zs_df (by decide)])
  · rw [f2 _ (by omega), zs_sm, e4 _ (by omega)]
  · rw [zs_sm, q8 156 (by decide), e5 156 (by decide)]
  · rw [f2 o o1, zs_df o2, e4 o o1]
  · rw [zs_df o2, q8 o o1, e5 o o1]
  · rw [zs_df (by decide)]; exact b17
def afterJ (M3 : ZI) : Option (Int32 × ZI) := ((f182_number (0 : Int32) ((M3 148 17) - (1 : Int32)) M3).bind fun (v4, M5) => (if v4 = 0 then some ((0 : Int32), M5) else if zin (((6 : Int32) * (M5 148 17)) + (5 : Int32)) 72 = true then zlet (zs M5 156 (zi (((6 : Int32) * (M5 148 17)) + (5 : Int32))) (M5 148 29)) fun (M6 : ZI) => some ((1 : Int32), M6) else none))
def afterN (M2 : ZI) : Option (Int32 × ZI) := (if (M2 148 21) = (2 : Int32) then (if (M2 148 23) < (M2 148 17) then if zin (((6 : Int32) * (M2 148 23)) + (0 : Int32)) 72 = true then if zin (((6 : Int32) * (M2 148 17)) + (0 : Int32)) 72 = true then (if (M2 156 (zi (((6 : Int32) * (M2 148 23)) + (0 : Int32)))) = (M2 156 (zi (((6 : Int32) * (M2 148 17)) + (0 : Int32)))) then afterJ M2 else (f170_bad (2 : Int32) M2).bind fun (v8, M9) => if zbl v8 = true then some (v8, M9) else none) else none else none else afterJ M2) else afterJ M2)
theorem anAfter_eq (M : ZI) : f186_anAfter M = (if zin (((6 : Int32) * (M 148 17)) + (5 : Int32)) 72 = true then zlet (zs M 156 (zi (((6 : Int32) * (M 148 17)) + (5 : Int32))) (-1 : Int32)) fun (M1 : ZI) => (if (M1 148 21) = (13 : Int32) then (f157_next0 M1).bind afterN else some ((1 : Int32), M1)) else none) := rfl
/-- behind which work -/
theorem after_step {b : Nat → Nat} {t n N m k : Nat} {A0 B0 A B : ZI} (hC : CX 2 b t n N A0 B0) (h : PS 2 b t N A0 B0 A B m) (hk : k < 12) (hA : A 134 6 = znn k) (hB : B 148 17 = znn k) (hrow : ∀ i, i ≤ k → A 135 i = B 156 (6 * i)) :
    Both A0 B0 (f87_readAfter 119 A) (f186_anAfter B) (fun A' B' => ∃ m' x, PS 2 b t N A0 B0 A' B' m' ∧ m ≤ m' ∧ (x = -1 ∨ ∃ j, j < k ∧ x = znn j ∧ B 156 (6 * j) = B 156 (6 * k)) ∧ (∀ j, A' 140 j = if j = k then x else A 140 j) ∧ (∀ j, B' 156 j = if j = 6 * k + 5 then x else B 156 j) ∧ (∀ o, o ≠ 119 → o ≠ 140 → A' o = A o) ∧ (∀ o, o ≠ 148 → o ≠ 156 → B' o = B o) ∧ B' 148 17 = znn k) := by
  have hz12 : zin (znn k) 12 = true := (zn_zin (by omega)).mpr (by omega)
  have i278 := tk_iff (a := 2) (k := 278) (x := 13) (by decide +kernel) b t m
  have i2 : (pairs 2).all (fun q => (q.1 == -2) == (q.2 == 2)) = true := by decide +kernel
  have hPA : PS 2 b t N A0 B0 (zs A 140 k (-1)) (zs B 156 (6 * k + 5) (-1)) m := PS_of h (fun o ho => by rw [zs_df (by omega)]) (fun o o1 o2 => by rw [zs_df (by omega)]) (fun j hj => by rw [zs_df (by decide)])
  have a140 : ∀ j, (zs A 140 k (-1)) 140 j = if j = k then -1 else A 140 j := fun j => zs_sm ..
  have aO : ∀ o, o ≠ 140 → (zs A 140 k (-1)) o = A o := fun o ho => zs_df ho
  have b156 : ∀ j, (zs B 156 (6 * k + 5) (-1)) 156 j = if j = 6 * k + 5 then -1 else B 156 j := fun j => zs_sm ..
  have bO : ∀ o, o ≠ 156 → (zs B 156 (6 * k + 5) (-1)) o = B o := fun o ho => zs_df ho
  have x5 : (6 : Int32) * znn k + 5 = znn (6 * k + 5) := by rw [zl6, zn_mul, zl5, zn_add]
  have x0 : ∀ v, (6 : Int32) * znn v + 0 = znn (6 * v) := fun v => by rw [zl6, zn_mul, zl0, zn_add, Nat.add_zero]
  have hz72 : ∀ v, v ≤ k → zin (znn (6 * v)) 72 = true := fun v hv => (zn_zin (by omega)).mpr (by omega)
  have hz5 : zin (znn (6 * k + 5)) 72 = true := (zn_zin (by omega)).mpr (by omega)
  unfold f87_readAfter
  rw [anAfter_eq, show 119 + 15 = 134 from rfl, hA, zlet_e, if_pos hz12, zn_zi (by omega), show 119 + 21 = 140 from rfl, zlet_e, hB, x5, if_pos hz5, zn_zi (by omega), zlet_e (zs B 156 _ _)]
  generalize zs A 140 k (-1) = A1 at *
  generalize zs B 156 (6 * k + 5) (-1) = B1 at *
  rw [show A1 119 7 = tkK b t m from hPA.2.1.2.1, show B1 148 21 = tkT 2 b t m from hPA.2.2.2.2.1]
  by_cases k278 : tkK b t m = 278
  case neg =>
    rw [if_neg k278, if_neg (fun hx => k278 (i278.mpr hx))]
    exact Or.inr ⟨A1, B1, rfl, rfl, m, -1, hPA, Nat.le_refl _, Or.inl rfl, a140, b156, fun o o1 o2 => aO o o2, fun o o1 o2 => bO o o2, by rw [bO 148 (by decide)]; exact hB⟩
  have hm : m < N := pos_N hC hPA k278 (by decide)
  obtain ⟨A2, B2, e1, e2, e3, e4, e5, e6⟩ := fwd hC hPA hm
  have b17 : B2 148 17 = znn k := by rw [e6 17 (by decide) (by decide) (by decide) (by decide), bO 148 (by decide)]; exact hB
  rw [if_pos k278, if_pos (i278.mp k278), e1, e2, Option.bind_some, Option.bind_some]
  unfold afterN
  rw [b17]
  rcases num_step hC e3 0 (znn k - 1) i2 with ⟨A', B', r1, r2, r3⟩ | ⟨v, A3, B3, hv, q1, q2, hm2, q3, q4, q5, q6, q7, q8, q9, q10, q11⟩
  · have j7 : afterJ B2 = some (0, B') := by
      unfold afterJ
      rw [b17, r2]
      rfl
    rw [r1]
    refine Or.inl ⟨A', B', rfl, ?_, r3⟩
    by_cases h21 : B2 148 21 = 2
    · rw [if_pos h21]
      have i := tk_iff i2 b t (m + 1)
      have hkk : tkK b t (m + 1) = -2 := i.mpr (by rw [← e3.2.2.2.2.1]; exact h21)
      have h23 := e3.2.2.2.2.2 hkk
      have hlt := tkV_lt hC.1.1 hkk
      by_cases h4 : B2 148 23 < znn k
      · rw [h23, zn_lt (by omega) (by omega)] at h4
        refine absurd r2 (num_in h21 h23 (zn_nneg (by omega)) ?_ B')
        rw [zl1, zn_sub (by omega), zn_lt (by omega) (by omega)]
        omega
      · rw [if_neg h4]
        exact j7
    · rw [if_neg h21]
      exact j7
  · have hvk : v < k := by
      cases k with
      | zero => exact absurd (show (znn 0 - 1 : Int32) < znn v from neg_lt_zn (by omega)) q2
      | succ k =>
        rw [zl1, zn_sub (by omega), zn_lt (by omega) (by omega)] at q2
        omega
    have hzv : zin (znn v) 12 = true := (zn_zin (by omega)).mpr (by omega)
    have c156 : ∀ i, i ≤ k → B2 156 (6 * i) = B 156 (6 * i) := fun i hi => by rw [e5 156 (by decide), b156, if_neg (by omega)]
    have c135 : ∀ i, i ≤ k → A2 135 i = B 156 (6 * i) := fun i hi => by rw [e4 135 (by decide), aO 135 (by decide)]; exact hrow i hi
    rw [q3, if_pos q5, q6, if_pos ((zn_lt (by omega) (by omega)).mpr hvk), x0, x0, if_pos (hz72 v (by omega)), if_pos (hz72 k (Nat.le_refl _)), zn_zi (by omega), zn_zi (by omega), c156 v (by omega), c156 k (Nat.le_refl _), Option.bind_some]
    dsimp only
    rw [if_neg (show ¬ (1 : Int32) = 0 by decide), q4, if_pos hzv, if_pos hz12, zn_zi (by omega), show 119 + 16 = 135 from rfl, c135 v (by omega), c135 k (Nat.le_refl _)]
    by_cases heq : B 156 (6 * v) = B 156 (6 * k)
    case neg =>
      obtain ⟨A', B', r1, r2, r3⟩ := rfz hC e3 2
      rw [if_neg heq, if_neg heq, r1, r2]
      exact Or.inl ⟨A', B', rfl, rfl, r3⟩
    obtain ⟨A4, f1, f2, f3⟩ := fwd_store (A2 := zs A2 140 k (znn v)) hC e3 hm2 (fun o ho => by rw [zs_df (by omega)])
    have d17 : B3 148 17 = znn k := by rw [q11 17 (by decide) (by decide) (by decide) (by decide) (by decide)]; exact b17
    unfold afterJ
    rw [if_pos heq, if_pos heq, if_pos hz12, zlet_e, f1, Option.bind_some, b17, q7, Option.bind_some]
    dsimp only
    rw [if_neg (show ¬ (1 : Int32) = 0 by decide), d17, x5, if_pos hz5, zn_zi (by omega), zlet_e, q9]
    refine Or.inr ⟨A4, _, rfl, rfl, m + 1 + 1, znn v, PS_of (f3 A3 B3 q8) (fun _ _ => rfl) (fun o o1 o2 => by rw [zs_df (by omega)]) (fun j hj => by rw [zs_df (by decide)]), by omega, Or.inr ⟨v, hvk, rfl, heq⟩, fun j => ?_, fun j => ?_, fun o o1 o2 => ?_, fun o o1 o2 => ?_, ?_⟩
    · rw [f2 140 (by decide), zs_sm, e4 140 (by decide), a140]
      by_cases hjk : j = k
      · rw [if_pos hjk, if_pos hjk]
      · rw [if_neg hjk, if_neg hjk, if_neg hjk]
    · rw [zs_sm, q10 156 (by decide), e5 156 (by decide), b156]
      by_cases hjk : j = 6 * k + 5
      · rw [if_pos hjk, if_pos hjk]
      · rw [if_neg hjk, if_neg hjk, if_neg hjk]
    · rw [f2 o o1, zs_df o2, e4 o o1, aO o o2]
    · rw [zs_df o2, q10 o o1, e5 o o1, bO o o2]
    · rw [zs_df (by decide)]; exact d17
