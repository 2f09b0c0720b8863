-- ===== what the reference does with what the law asks of it =====
theorem zin2064 {j : Nat} (h : j < 2064) : zin (znn j) 2064 = true := (zn_zin (by omega)).mpr h
theorem person_r {B : ZI} {n a d : Nat} (hn : n < 10) (h48 : B 149 48 = znn n) (ha : a ≤ 99) (hd : d ≤ 24) : ∃ B', f148_person (znn a) (znn d) B = some (znn n, B') ∧ (∀ o, o ≠ 148 → o ≠ 149 → B' o = B o) ∧ (∀ j, j ≠ 4 → B' 148 j = B 148 j) ∧ B' 148 4 = 0 ∧ B' 149 48 = znn (n + 1) ∧ B' 149 (17 + n) = znn a ∧ B' 149 (60 + n) = znn d ∧ B' 149 (70 + n) = 999 ∧ B' 149 (27 + n) = 0 ∧ B' 149 (37 + n) = 0 ∧ B' 149 (7 + n) = 0 ∧ B' 149 (80 + n) = -1 ∧ ∀ j, j ≠ 48 → j ≠ 17 + n → j ≠ 60 + n → j ≠ 70 + n → j ≠ 27 + n → j ≠ 37 + n → j ≠ 7 + n → j ≠ 80 + n → B' 149 j = B 149 j := by
  let B1 : ZI := zs (zs (zs (zs (zs (zs (zs B 149 (17 + n) (znn a)) 149 (60 + n) (znn d)) 149 (70 + n) 999) 149 (27 + n) 0) 149 (37 + n) 0) 149 (7 + n) 0) 149 (80 + n) (-1)
  have e48 : B1 149 48 = znn n := by
    show (zs (zs (zs (zs (zs (zs (zs B 149 (17 + n) (znn a)) 149 (60 + n) (znn d)) 149 (70 + n) 999) 149 (27 + n) 0) 149 (37 + n) 0) 149 (7 + n) 0) 149 (80 + n) (-1)) 149 48 = _
    simp only [zs_sm]
    rw [if_neg (by omega), if_neg (by omega), if_neg (by omega), if_neg (by omega), if_neg (by omega), if_neg (by omega), if_neg (by omega)]
    exact h48
  refine ⟨zs (zs B1 149 48 (znn (n + 1))) 148 4 0, ?_, fun o q1 q2 => ?_, fun j hj => ?_, ?_, ?_, ?_, ?_, ?_, ?_, ?_, ?_, ?_, fun j q1 q2 q3 q4 q5 q6 q7 q8 => ?_⟩
  · unfold f148_person
    rw [show f149_isIn (znn a) 0 99 = some 1 from in_yes (lo := 0) (hi := 99) (by omega) ha (by decide)]
    simp only [Option.bind_some]
    rw [if_neg (by decide), show f149_isIn (znn d) 0 24 = some 1 from in_yes (lo := 0) (hi := 24) (by omega) hd (by decide)]
    simp only [Option.bind_some, zlet]
    rw [if_neg (by decide), h48, if_neg (show ¬ znn n = 10 by rw [zl10, zn_eq (by omega) (by decide)]; omega)]
    rw [show (17 : Int32) + znn n = znn (17 + n) from zn_add 17 n, show (60 : Int32) + znn n = znn (60 + n) from zn_add 60 n, show (70 : Int32) + znn n = znn (70 + n) from zn_add 70 n, show (27 : Int32) + znn n = znn (27 + n) from zn_add 27 n, show (37 : Int32) + znn n = znn (37 + n) from zn_add 37 n, show (7 : Int32) + znn n = znn (7 + n) from zn_add 7 n, show (80 : Int32) + znn n = znn (80 + n) from zn_add 80 n]
    rw [if_pos (zin2064 (by omega)), if_pos (zin2064 (by omega)), if_pos (zin2064 (by omega)), if_pos (zin2064 (by omega)), if_pos (zin2064 (by omega)), if_pos (zin2064 (by omega)), if_pos (zin2064 (by omega)), zn_zi (by omega), zn_zi (by omega), zn_zi (by omega), zn_zi (by omega), zn_zi (by omega), zn_zi (by omega), zn_zi (by omega)]
    show ((f147_forgets (zs B1 149 48 (B1 149 48 + 1))).bind fun M12 => some (znn n, M12)) = _
    rw [e48, zadd1]
    rfl
  · rw [zs_df q1, zs_df q2]
    show (zs (zs (zs (zs (zs (zs (zs B 149 (17 + n) (znn a)) 149 (60 + n) (znn d)) 149 (70 + n) 999) 149 (27 + n) 0) 149 (37 + n) 0) 149 (7 + n) 0) 149 (80 + n) (-1)) o = _
    simp only [zs_df q2]
  · rw [zs_sm, if_neg hj, zs_df (by decide)]
    show (zs (zs (zs (zs (zs (zs (zs B 149 (17 + n) (znn a)) 149 (60 + n) (znn d)) 149 (70 + n) 999) 149 (27 + n) 0) 149 (37 + n) 0) 149 (7 + n) 0) 149 (80 + n) (-1)) 148 j = _
    simp only [zs_df (show (148 : Nat) ≠ 149 by decide)]
  · rw [zs_sm, if_pos rfl]
  · rw [zs_df (by decide), zs_sm, if_pos rfl]
  all_goals
    rw [zs_df (by decide), zs_sm, if_neg (by omega)]
    show (zs (zs (zs (zs (zs (zs (zs B 149 (17 + n) (znn a)) 149 (60 + n) (znn d)) 149 (70 + n) 999) 149 (27 + n) 0) 149 (37 + n) 0) 149 (7 + n) 0) 149 (80 + n) (-1)) 149 _ = _
    simp only [zs_sm]
  · rw [if_neg (by omega), if_neg (by omega), if_neg (by omega), if_neg (by omega), if_neg (by omega), if_neg (by omega), if_pos trivial]
  · rw [if_neg (by omega), if_neg (by omega), if_neg (by omega), if_neg (by omega), if_neg (by omega), if_pos trivial]
  · rw [if_neg (by omega), if_neg (by omega), if_neg (by omega), if_neg (by omega), if_pos trivial]
  · rw [if_neg (by omega), if_neg (by omega), if_neg (by omega), if_pos trivial]
  · rw [if_neg (by omega), if_neg (by omega), if_pos trivial]
  · rw [if_neg (by omega), if_pos trivial]
  · rw [if_pos trivial]
  · rw [if_neg q8, if_neg q7, if_neg q6, if_neg q5, if_neg q4, if_neg q3, if_neg q2]
/-- where a told number lies, and how much it may be -/
def plc (what a : Nat) : Nat := if what = 0 then 1 else if what = 1 then 49 else if what = 2 then 50 else if what = 3 then 60 + a else if what = 4 then 70 + a else 17 + a
def mst (what : Nat) : Nat := if what < 4 then 24 else if what = 4 then 999 else 99
def mayS (n what a v : Nat) : Prop := v ≤ mst what ∧ (what = 2 → 0 < v) ∧ (2 < what → a < n)
theorem can_r {B : ZI} {n what a v : Nat} (hw : what ≤ 5) (hn : n ≤ 10) (h48 : B 149 48 = znn n) (ha : a ≤ n) (hv : v < 1000000) : (mayS n what a v → f151_canSet (znn what) (znn a) (znn v) B = some 1) ∧ (¬ mayS n what a v → f151_canSet (znn what) (znn a) (znn v) B = some 0) := by
  have hin : ∀ lo hi : Nat, hi < 1000000 ∧ lo < 1000000 → f149_isIn (znn v) (znn lo) (znn hi) = some (if lo ≤ v ∧ v ≤ hi then 1 else 0) := fun lo hi hh => by
    by_cases h1 : lo ≤ v
    · by_cases h2 : v ≤ hi
      · rw [in_yes h1 h2 hh.1, if_pos ⟨h1, h2⟩]
      · rw [in_high (by rw [zn_lt (by omega) (by omega)]; omega), if_neg (fun q => h2 q.2)]
    · rw [in_low (by rw [zn_lt (by omega) (by omega)]; omega), if_neg (fun q => h1 q.1)]
  have hper : f152_isPerson (znn a) B = some (if a < n then 1 else 0) := by
    by_cases h : a < n
    · rw [per_yes hn h48 h, if_pos h]
    · have : a = n := by omega
      subst this
      rw [per_no hn h48, if_neg h]
  have hp : f151_canSet (znn what) (znn a) (znn v) B = some (if v ≤ mst what ∧ (what = 2 → 0 < v) ∧ (2 < what → a < n) then 1 else 0) := by
    unfold mst f151_canSet
    rw [hper, show f149_isIn (znn v) 0 24 = _ from hin 0 24 (by decide), show f149_isIn (znn v) 1 24 = _ from hin 1 24 (by decide), show f149_isIn (znn v) 0 999 = _ from hin 0 999 (by decide), show f149_isIn (znn v) 0 99 = _ from hin 0 99 (by decide)]
    rcases (show what = 0 ∨ what = 1 ∨ what = 2 ∨ what = 3 ∨ what = 4 ∨ what = 5 by omega) with rfl | rfl | rfl | rfl | rfl | rfl
    · rw [if_pos (show znn 0 = 0 from rfl)]
      by_cases h : v ≤ 24
      · rw [if_pos (show 0 ≤ v ∧ v ≤ 24 by omega), if_pos (by simp; omega)]; rfl
      · rw [if_neg (by omega), if_neg (by simp; omega)]; rfl
    · rw [if_neg (by decide), if_pos (show znn 1 = 1 from rfl)]
      by_cases h : v ≤ 24
      · rw [if_pos (show 0 ≤ v ∧ v ≤ 24 by omega), if_pos (by simp; omega)]; rfl
      · rw [if_neg (by omega), if_neg (by simp; omega)]; rfl
    · rw [if_neg (by decide), if_neg (by decide), if_pos (show znn 2 = 2 from rfl)]
      by_cases h : 1 ≤ v ∧ v ≤ 24
      · rw [if_pos h, if_pos (by simp; omega)]; rfl
      · rw [if_neg h, if_neg (by simp; omega)]; rfl
    · rw [if_neg (by decide), if_neg (by decide), if_neg (by decide), if_pos (show znn 3 = 3 from rfl)]
      by_cases ha' : a < n
      · rw [if_pos ha']
        by_cases h : v ≤ 24
        · rw [if_pos (show 0 ≤ v ∧ v ≤ 24 by omega), if_pos (by simp; omega)]; rfl
        · rw [if_neg (by omega), if_neg (by simp; omega)]; rfl
      · rw [if_neg ha']; exact (congrArg some (if_neg (fun hh => ha' (hh.2.2 (by decide))))).symm
    · rw [if_neg (by decide), if_neg (by decide), if_neg (by decide), if_neg (by decide), if_pos (show znn 4 = 4 from rfl)]
      by_cases ha' : a < n
      · rw [if_pos ha']
        by_cases h : v ≤ 999
        · rw [if_pos (show 0 ≤ v ∧ v ≤ 999 by omega), if_pos (by simp; omega)]; rfl
        · rw [if_neg (by omega), if_neg (by simp; omega)]; rfl
      · rw [if_neg ha']; exact (congrArg some (if_neg (fun hh => ha' (hh.2.2 (by decide))))).symm
    · rw [if_neg (by decide), if_neg (by decide), if_neg (by decide), if_neg (by decide), if_neg (by decide), if_pos (show znn 5 = 5 from rfl)]
      by_cases ha' : a < n
      · rw [if_pos ha']
        by_cases h : v ≤ 99
        · rw [if_pos (show 0 ≤ v ∧ v ≤ 99 by omega), if_pos (by simp; omega)]; rfl
        · rw [if_neg (by omega), if_neg (by simp; omega)]; rfl
      · rw [if_neg ha']; exact (congrArg some (if_neg (fun hh => ha' (hh.2.2 (by decide))))).symm
  exact ⟨fun h => by rw [hp]; exact congrArg some (if_pos h), fun h => by rw [hp]; exact congrArg some (if_neg h)⟩
theorem set_yes {B : ZI} {n what a v : Nat} (hw : what ≤ 5) (hn : n ≤ 10) (h48 : B 149 48 = znn n) (ha : a ≤ n) (hv : v < 1000000) (h : mayS n what a v) : ∃ B', f150_set (znn what) (znn a) (znn v) B = some (1, B') ∧ (∀ o, o ≠ 148 → o ≠ 149 → B' o = B o) ∧ (∀ j, j ≠ 4 → B' 148 j = B 148 j) ∧ B' 148 4 = 0 ∧ ∀ j, B' 149 j = if j = plc what a then znn v else B 149 j := by
  have hpl : f153_placeOf (znn what) (znn a) = some (znn (plc what a)) := by
    rcases (show what = 0 ∨ what = 1 ∨ what = 2 ∨ what = 3 ∨ what = 4 ∨ what = 5 by omega) with rfl | rfl | rfl | rfl | rfl | rfl
    · rfl
    · rfl
    · rfl
    · exact congrArg some (zn_add 60 a)
    · exact congrArg some (zn_add 70 a)
    · exact congrArg some (zn_add 17 a)
  have hpl2 : plc what a < 100 := by
    unfold plc
    repeat' split
    all_goals omega
  refine ⟨zs (zs B 149 (plc what a) (znn v)) 148 4 0, ?_, fun o q1 q2 => by rw [zs_df q1, zs_df q2], fun j hj => by rw [zs_sm, if_neg hj, zs_df (by decide)], by rw [zs_sm, if_pos rfl], fun j => by rw [zs_df (by decide), zs_sm]⟩
  unfold f150_set
  rw [(can_r hw hn h48 ha hv).1 h]
  simp only [Option.bind_some]
  rw [if_neg (by decide), hpl]
  simp only [Option.bind_some, zlet]
  rw [if_pos (zin2064 (by omega)), zn_zi (by omega)]
  rfl
theorem set_no {B : ZI} {n what a v : Nat} (hw : what ≤ 5) (hn : n ≤ 10) (h48 : B 149 48 = znn n) (ha : a ≤ n) (hv : v < 1000000) (h : ¬ mayS n what a v) : f150_set (znn what) (znn a) (znn v) B = some (0, B) := by
  unfold f150_set
  rw [(can_r hw hn h48 ha hv).2 h]
  rfl
theorem set_six {B : ZI} {a v : Int32} : f150_set 6 a v B = some (0, B) := by
  unfold f150_set f151_canSet
  rfl
theorem state_r (B : ZI) (x : Int32) : ∃ v B', f146_state x B = some (v, B') ∧ (∀ o, o ≠ 148 → o ≠ 149 → B' o = B o) ∧ (∀ j, j ≠ 4 → B' 148 j = B 148 j) ∧ B' 148 4 = 0 ∧ ∀ j, B' 149 j = if j = 4 then x else B 149 j :=
  ⟨_, zs (zs B 149 4 x) 148 4 0, rfl, fun o q1 q2 => by rw [zs_df q1, zs_df q2], fun j hj => by rw [zs_sm, if_neg hj, zs_df (by decide)], by rw [zs_sm, if_pos rfl], fun j => by rw [zs_df (by decide), zs_sm]⟩
