theorem puts_voices {M : ZI} {k : Nat} (h17 : M 148 17 = znn k) : ∃ M', f194_putsVoices M = some (znn k, M') ∧ (∀ o, o ≠ 149 → o ≠ 148 → M' o = M o) ∧ (∀ j, j ≠ 4 → M' 148 j = M 148 j) ∧ M' 148 4 = 0 ∧ M' 149 51 = znn k ∧ (∀ i, i < 10 → M' 149 (80 + i) = M 155 i) ∧ ∀ j, j ≠ 51 → ¬ (80 ≤ j ∧ j < 90) → M' 149 j = M 149 j := by
  obtain ⟨M8, e1, e2, e3, e4⟩ := zloop (fun fu (b : ZI) x => f194_l13 fu x b) 10 (fun i b => (∀ o, o ≠ 149 → b o = M o) ∧ (∀ j, j < i → b 149 (80 + j) = M 155 j) ∧ ∀ j, ¬ (80 ≤ j ∧ j < 90) → b 149 j = (zs M 149 51 (znn k)) 149 j) (fun b => (∀ o, o ≠ 149 → b o = M o) ∧ (∀ j, j < 10 → b 149 (80 + j) = M 155 j) ∧ ∀ j, ¬ (80 ≤ j ∧ j < 90) → b 149 j = (zs M 149 51 (znn k)) 149 j) (fun fu i b hi hb => by
    obtain ⟨g1, g2, g3⟩ := hb
    left
    (try dsimp only)
    rw [f194_l13, if_pos (show znn i < 10 by rw [zl10, zn_lt (by omega) (by decide)]; exact hi), g1 155 (by decide), if_pos ((zn_zin (by omega)).mpr hi), zl80, zn_add, if_pos ((zn_zin (by omega)).mpr (by omega)), zn_zi (by omega), zn_zi (by omega), zlet_e, zadd1]
    refine ⟨_, ⟨fun o ho => ?_, fun j hj => ?_, fun j hj => ?_⟩, rfl⟩
    · rw [zs_df ho]; exact g1 o ho
    · rw [zs_sm]
      by_cases hji : j = i
      · rw [if_pos (by omega), hji]
      · rw [if_neg (by omega)]; exact g2 j (by omega)
    · rw [zs_sm, if_neg (by omega)]; exact g3 j hj) (fun fu b hb => by
    refine ⟨b, hb, ?_⟩
    (try dsimp only)
    rw [f194_l13, if_neg (by decide)]) zfu 0 (zs M 149 51 (znn k)) (Nat.zero_le _) (by rw [zfu_eq]; omega) ⟨fun o ho => by rw [zs_df ho], fun j hj => by omega, fun _ _ => rfl⟩
  have e1 : f194_l13 zfu 0 (zs M 149 51 (znn k)) = some M8 := e1
  have m17 : (zs M8 148 4 0) 148 17 = znn k := by rw [zs_sm, if_neg (by decide), e2 148 (by decide)]; exact h17
  refine ⟨zs M8 148 4 0, ?_, fun o o1 o2 => by rw [zs_df o2]; exact e2 o o1, fun j hj => by rw [zs_sm, if_neg hj, e2 148 (by decide)], by rw [zs_sm, if_pos rfl], ?_, fun i hi => ?_, fun j q1 q2 => ?_⟩
  · unfold f194_putsVoices f147_forgets
    rw [h17, zlet_e, e1, Option.bind_some, zlet_e, Option.bind_some, m17]
  · rw [zs_df (by decide), e4 51 (by omega), zs_sm, if_pos rfl]
  · rw [zs_df (by decide)]; exact e3 i hi
  · rw [zs_df (by decide), e4 j q2, zs_sm, if_neg q1]
theorem puts_works {M : ZI} {k : Nat} (h17 : M 148 17 = znn k) (hk : k ≤ 12) : ∃ M', f195_putsWorks M = some (znn k, M') ∧ (∀ o, o ≠ 149 → o ≠ 148 → M' o = M o) ∧ (∀ j, j ≠ 4 → M' 148 j = M 148 j) ∧ M' 148 4 = 0 ∧ M' 149 52 = znn k ∧ M' 149 6 = 0 ∧ (∀ i, i < 6 * k → M' 149 (90 + i) = M 156 i) ∧ ∀ j, j ≠ 52 → j ≠ 6 → ¬ (90 ≤ j ∧ j < 162) → M' 149 j = M 149 j := by
  obtain ⟨M8, e1, e2, e3, e4⟩ := zloop (fun fu (b : ZI) x => f195_l21 fu x b) (6 * k) (fun i b => (∀ o, o ≠ 149 → b o = M o) ∧ (∀ j, j < i → b 149 (90 + j) = M 156 j) ∧ ∀ j, ¬ (90 ≤ j ∧ j < 162) → b 149 j = (zs (zs M 149 52 (znn k)) 149 6 0) 149 j) (fun b => (∀ o, o ≠ 149 → b o = M o) ∧ (∀ j, j < 6 * k → b 149 (90 + j) = M 156 j) ∧ ∀ j, ¬ (90 ≤ j ∧ j < 162) → b 149 j = (zs (zs M 149 52 (znn k)) 149 6 0) 149 j) (fun fu i b hi hb => by
    obtain ⟨g1, g2, g3⟩ := hb
    left
    (try dsimp only)
    have x6 : (6 : Int32) * znn k = znn (6 * k) := by rw [zl6, zn_mul]
    rw [f195_l21, g1 148 (by decide), h17, x6, if_pos ((zn_lt (by omega) (by omega)).mpr hi), g1 156 (by decide), if_pos ((zn_zin (by omega)).mpr (by omega)), zl90, zn_add, if_pos ((zn_zin (by omega)).mpr (by omega)), zn_zi (by omega), zn_zi (by omega), zlet_e, zadd1]
    refine ⟨_, ⟨fun o ho => ?_, fun j hj => ?_, fun j hj => ?_⟩, rfl⟩
    · rw [zs_df ho]; exact g1 o ho
    · rw [zs_sm]
      by_cases hji : j = i
      · rw [if_pos (by omega), hji]
      · rw [if_neg (by omega)]; exact g2 j (by omega)
    · rw [zs_sm, if_neg (by omega)]; exact g3 j hj) (fun fu b hb => by
    refine ⟨b, hb, ?_⟩
    (try dsimp only)
    have x6 : (6 : Int32) * znn k = znn (6 * k) := by rw [zl6, zn_mul]
    rw [f195_l21, hb.1 148 (by decide), h17, x6, if_neg (by rw [zn_lt (by omega) (by omega)]; omega)]) zfu 0 (zs (zs M 149 52 (znn k)) 149 6 0) (Nat.zero_le _) (by rw [zfu_eq]; omega) ⟨fun o ho => by rw [zs_df ho, zs_df ho], fun j hj => by omega, fun _ _ => rfl⟩
  have e1 : f195_l21 zfu 0 (zs (zs M 149 52 (znn k)) 149 6 0) = some M8 := e1
  have m17 : (zs M8 148 4 0) 148 17 = znn k := by rw [zs_sm, if_neg (by decide), e2 148 (by decide)]; exact h17
  refine ⟨zs M8 148 4 0, ?_, fun o o1 o2 => by rw [zs_df o2]; exact e2 o o1, fun j hj => by rw [zs_sm, if_neg hj, e2 148 (by decide)], by rw [zs_sm, if_pos rfl], ?_, ?_, fun i hi => ?_, fun j q1 q2 q3 => ?_⟩
  · unfold f195_putsWorks f147_forgets
    rw [h17, zlet_e, zlet_e, e1, Option.bind_some, zlet_e, Option.bind_some, m17]
  · rw [zs_df (by decide), e4 52 (by omega), zs_sm, if_neg (by decide), zs_sm, if_pos rfl]
  · rw [zs_df (by decide), e4 6 (by omega), zs_sm, if_pos rfl]
  · rw [zs_df (by decide)]; exact e3 i hi
  · rw [zs_df (by decide), e4 j q3, zs_sm, if_neg q2, zs_sm, if_neg q1]
theorem puts_council {M : ZI} {p c : Nat} (h17 : M 148 17 = znn p) (h18 : M 148 18 = znn c) (hc : c ≤ 400) : ∃ M', f196_putsCouncil M = some (znn p, M') ∧ (∀ o, o ≠ 149 → M' o = M o) ∧ M' 149 53 = znn p ∧ M' 149 54 = znn c ∧ (∀ i, i < c → M' 149 (162 + i) = M 157 i) ∧ ∀ j, j ≠ 53 → j ≠ 54 → ¬ (162 ≤ j ∧ j < 562) → M' 149 j = M 149 j := by
  obtain ⟨M8, e1, e2, e3, e4⟩ := zloop (fun fu (b : ZI) x => f196_l24 fu x b) c (fun i b => (∀ o, o ≠ 149 → b o = M o) ∧ (∀ j, j < i → b 149 (162 + j) = M 157 j) ∧ ∀ j, ¬ (162 ≤ j ∧ j < 562) → b 149 j = (zs (zs M 149 53 (znn p)) 149 54 (znn c)) 149 j) (fun b => (∀ o, o ≠ 149 → b o = M o) ∧ (∀ j, j < c → b 149 (162 + j) = M 157 j) ∧ ∀ j, ¬ (162 ≤ j ∧ j < 562) → b 149 j = (zs (zs M 149 53 (znn p)) 149 54 (znn c)) 149 j) (fun fu i b hi hb => by
    obtain ⟨g1, g2, g3⟩ := hb
    left
    (try dsimp only)
    rw [f196_l24, g1 148 (by decide), h18, if_pos ((zn_lt (by omega) (by omega)).mpr hi), g1 157 (by decide), if_pos ((zn_zin (by omega)).mpr (by omega)), show (162 : Int32) + znn i = znn (162 + i) by rw [zl162, zn_add], if_pos ((zn_zin (by omega)).mpr (by omega)), zn_zi (by omega), zn_zi (by omega), zlet_e, zadd1]
    refine ⟨_, ⟨fun o ho => ?_, fun j hj => ?_, fun j hj => ?_⟩, rfl⟩
    · rw [zs_df ho]; exact g1 o ho
    · rw [zs_sm]
      by_cases hji : j = i
      · rw [if_pos (by omega), hji]
      · rw [if_neg (by omega)]; exact g2 j (by omega)
    · rw [zs_sm, if_neg (by omega)]; exact g3 j hj) (fun fu b hb => by
    refine ⟨b, hb, ?_⟩
    (try dsimp only)
    rw [f196_l24, hb.1 148 (by decide), h18, if_neg (by rw [zn_lt (by omega) (by omega)]; omega)]) zfu 0 (zs (zs M 149 53 (znn p)) 149 54 (znn c)) (Nat.zero_le _) (by rw [zfu_eq]; omega) ⟨fun o ho => by rw [zs_df ho, zs_df ho], fun j hj => by omega, fun _ _ => rfl⟩
  have e1 : f196_l24 zfu 0 (zs (zs M 149 53 (znn p)) 149 54 (znn c)) = some M8 := e1
  have m18 : (zs M 149 53 (znn p)) 148 18 = znn c := by rw [zs_df (by decide)]; exact h18
  refine ⟨M8, ?_, e2, ?_, ?_, e3, fun j q1 q2 q3 => ?_⟩
  · unfold f196_putsCouncil
    rw [h17, zlet_e, m18, zlet_e, e1, Option.bind_some, e2 148 (by decide), h17]
  · rw [e4 53 (by omega), zs_sm, if_neg (by decide), zs_sm, if_pos rfl]
  · rw [e4 54 (by omega), zs_sm, if_pos rfl]
  · rw [e4 j q3, zs_sm, if_neg q2, zs_sm, if_neg q1]
