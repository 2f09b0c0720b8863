-- ===== drawn voices and works told: the LAND goes with it =====
def texB (B B' : ZI) (k' : Nat) : Prop := (∀ o, o ≠ 148 → o ≠ 149 → o ≠ 155 → o ≠ 156 → o ≠ 158 → B' o = B o) ∧ (∀ j, j ≠ 6 → j ≠ 51 → j ≠ 52 → ¬ (80 ≤ j ∧ j < 162) → B' 149 j = B 149 j) ∧ B' 149 52 = znn k' ∧ B' 148 19 = 0 ∧ B' 148 4 = 0
theorem texts_ok {M B : ZI} {R : ZF} {L : ZY} {t b n k : Nat} (x : Int32) (hI : Inv2 M B) (h : landIs M R L t b (B 149) n k) (hz : zgood R L = true) (hL : L.length ≤ 490000) (h48 : B 149 48 = znn n) (hn : n ≤ 10) (h19 : B 148 19 = 0) : ∃ M' R' L' B' k', g116_texts t x M R L = some (1, M', R', L') ∧ k' ≤ 9 ∧ Inv2 M' B' ∧ landIs M' R' L' t b (B' 149) n k' ∧ gF (own2 t b n) M R L M' R' L' ∧ texB B B' k' ∧ R' t 13 = R t 13 ∧ R' t 14 = R t 14 ∧ ∃ X, L' = L ++ X ∧ X.length ≤ 550 ∧ (X.map Prod.snd).sum ≤ 32000 := by
  obtain ⟨hO, hF, ⟨hb, hP⟩, hW, hBl, hC, hLl⟩ := id h
  have hrul := Inv2_rule hI
  obtain ⟨o1, o2, o3, o4, o5, o6⟩ := id hO
  have lt := lay_le o1
  have f7 : M t 7 = znn n := hF.2.2.2.2.2.2.2.1.trans h48
  have hP7 : ∀ p, p < n → L[b + p]? = some (0, 7) := fun p hp => (hP p hp).2.1
  obtain ⟨M1, R1, L1, B1, e1, hI1, g1, ⟨v1, v2, v3, v4, v5⟩, r1, s1, X1, x11, x12, x13⟩ := texts_one x hI hO f7 hb (fun p hp => ⟨(hP p hp).1, (hP p hp).2.1⟩) hz (by omega) h48 hn h19
  have htR : ¬ ownR b n t := fun hh => by
    have := hP7 (t - b) (by unfold ownR at hh; omega)
    rw [show b + (t - b) = t by unfold ownR at hh; omega, o1] at this
    cases this
  have eM1 : M1 t = M t := (g1.2.1 t o6 lt htR).1
  have eR1 : R1 t = R t := (g1.2.1 t o6 lt htR).2
  have o1a := gF_lay g1 o1
  have lt1 := lay_le o1a
  obtain ⟨M2, R2, L2, B2, aw, q, e2, hI2, g2, ⟨w1, w2, w3, w4, w5, w6, w7⟩, m2, q2, haw, ha2, hrows, x2⟩ := texts_two x hI1 o1a o6 (by rw [eM1]; exact f7) (zgood_gF g1 hz) (by rw [x11]; simp; omega) (by rw [v2 48 (by decide) (by decide)]; exact h48) hn v4
  have hg : gF (own2 t b n) M R L M2 R2 L2 := gF_trans (gF_wide g1 (fun _ _ hh => Or.inr hh)) (gF_wide g2 (fun _ _ hh => Or.inl hh))
  have cols : ∀ j, j ≠ 6 → j ≠ 51 → j ≠ 52 → ¬ (80 ≤ j ∧ j < 162) → B2 149 j = B 149 j := fun j q1 q2 q3 q4 => by
    rw [w2 j q3 q1 (by omega), v2 j q2 (by omega)]
  have hrow : ∀ p j, p < n → M2 (b + p) j = if j = 5 then vOf (dV x n) p else M (b + p) j := fun p j hp => by
    have hne : ¬ b + p = t := fun he => by have := hP7 p hp; rw [he, o1] at this; cases this
    rw [(g2.2.1 (b + p) (by omega) (lay_le (gF_lay g1 (hP7 p hp))) hne).1]
    by_cases hj : j = 5
    · subst hj; rw [if_pos rfl]; exact s1 p hp
    · rw [if_neg hj]; exact r1 p j hp hj
  obtain ⟨hk9, -⟩ := dN_le x n
  have hs : ∀ S, S < 1024 → sSat (B2 149) S = sSat (B 149) S := fun S _ => sSat_on hrul (cols 54 (by decide) (by decide) (by decide) (by omega)) (fun i hi => cols _ (by omega) (by omega) (by omega) (by omega)) S
  refine ⟨M2, R2, L2, B2, dN x n, by rw [e1]; exact e2, hk9, hI2, ?_, hg, ⟨fun o q1 q2 q3 q4 q5 => by rw [w1 o q1 q2 q4 q5, v1 o q1 q2 q3 q5], cols, w4, w6, w7⟩, by rw [q2, if_neg (by decide), eR1], by rw [q2, if_neg (by decide), eR1], ?_⟩
  · refine landIs_upd h hn hg (fun j hj => by rw [q2, if_neg (by omega), eR1]) ?_ (fun p hp => ?_) ?_ (lndC_keep hC hO hP7 hg hz (by rw [q2, if_neg (by decide), eR1]) hs) (cols 5 (by decide) (by decide) (by decide) (by omega)) (fun i f hi hf => cols _ (by omega) (by omega) (by omega) (by omega)) (cols 58 (by decide) (by decide) (by decide) (by omega)) (fun y hy => cols y (by omega) (by omega) (by omega) (by omega))
    · obtain ⟨f0, f1, f2, f3, f4, f5, f6, f7, f8, f9⟩ := hF
      unfold lndF
      rw [m2, m2, m2, m2, m2, m2, m2, m2, m2, m2, if_neg (by decide), if_neg (by decide), if_neg (by decide), if_neg (by decide), if_neg (by decide), if_neg (by decide), if_neg (by decide), if_neg (by decide), if_neg (by decide), if_pos rfl, eM1, w5, cols 4 (by decide) (by decide) (by decide) (by omega), cols 0 (by decide) (by decide) (by decide) (by omega), cols 1 (by decide) (by decide) (by decide) (by omega), cols 49 (by decide) (by decide) (by decide) (by omega), cols 50 (by decide) (by decide) (by decide) (by omega), cols 2 (by decide) (by decide) (by decide) (by omega), cols 3 (by decide) (by decide) (by decide) (by omega), cols 48 (by decide) (by decide) (by decide) (by omega), cols 5 (by decide) (by decide) (by decide) (by omega)]
      exact ⟨f0, f1, f2, f3, f4, f5, f6, f7, f8, rfl⟩
    · obtain ⟨q0, q1, q2', q3, q4, q5, q6⟩ := (hP p hp).2.2
      unfold lndQ
      rw [hrow p 0 hp, hrow p 1 hp, hrow p 2 hp, hrow p 3 hp, hrow p 4 hp, hrow p 5 hp, hrow p 6 hp, if_neg (by decide), if_neg (by decide), if_neg (by decide), if_neg (by decide), if_neg (by decide), if_pos rfl, if_neg (by decide), cols (17 + p) (by omega) (by omega) (by omega) (by omega), cols (60 + p) (by omega) (by omega) (by omega) (by omega), cols (70 + p) (by omega) (by omega) (by omega) (by omega), cols (27 + p) (by omega) (by omega) (by omega) (by omega), cols (37 + p) (by omega) (by omega) (by omega) (by omega), cols (7 + p) (by omega) (by omega) (by omega) (by omega), w2 (80 + p) (by omega) (by omega) (by omega), v3 p hp]
      exact ⟨q0, q1, q2', q3, q4, rfl, q6⟩
    · refine ⟨aw, q, haw, by rw [q2, if_pos rfl], ha2, fun i hi => ?_⟩
      obtain ⟨k1, k2, k3, k4, k5⟩ := hrows i hi
      obtain ⟨j1, j2⟩ := w3 i hi
      refine ⟨k1, k2, k3, fun f hf => ?_⟩
      by_cases hf5 : f = 5
      · subst hf5
        rw [k5, show 90 + 6 * i + 5 = 90 + (6 * i + 5) by omega, j2]
      · rw [k4 f (by omega), show 90 + 6 * i + f = 90 + (6 * i + f) by omega, j1 f (by omega)]
  · obtain ⟨X, z1, z2, z3⟩ := room_add ⟨X1, x11, x12, x13⟩ x2
    exact ⟨X, z1, by omega, by omega⟩
