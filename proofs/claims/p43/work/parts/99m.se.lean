-- ===== a round in which something is set =====
def mosM (M : ZI) (r : Nat) : ZI := zs (zs (zs (zs (zs (zs (zs (zw M r fun _ => 0) r 0 24) r 1 24) r 2 24) r 3 24) r 4 999) r 5 99) r 6 (-1)
theorem mosM_ne {M : ZI} {r c : Nat} (h : c ≠ r) : mosM M r c = M c := by
  unfold mosM
  simp only [zs_ap, zwF_ap, if_neg h]
theorem mosM_at {M : ZI} {r what : Nat} (h : what ≤ 5) : mosM M r r what = znn (mst what) := by
  unfold mosM
  rcases (show what = 0 ∨ what = 1 ∨ what = 2 ∨ what = 3 ∨ what = 4 ∨ what = 5 by omega) with rfl | rfl | rfl | rfl | rfl | rfl <;> (simp [zs_ap, upd_ap]; rfl)
theorem mosM_6 {M : ZI} {r : Nat} : mosM M r r 6 = -1 := by
  unfold mosM
  simp [zs_ap, upd_ap]
theorem may_law {n what a v : Nat} (hn : n ≤ 10) (ha : a ≤ n) (hw : what ≤ 5) (hv : v < 1000) : (if znn (mst what) < znn v then some (0 : Int32) else (if znn what = 2 then (if 0 < znn v then (if znn what < 3 then some (1 : Int32) else (if znn a < znn n then some (1 : Int32) else some 0)) else some 0) else (if znn what < 3 then some (1 : Int32) else (if znn a < znn n then some (1 : Int32) else some 0)))) = some (if v ≤ mst what ∧ (what = 2 → 0 < v) ∧ (2 < what → a < n) then 1 else 0) := by
  have hmst : mst what < 1000 := by unfold mst; repeat' split
                                    all_goals omega
  have h3 : (znn what < 3 ↔ what < 3) := by rw [show (3 : Int32) = znn 3 from rfl]; exact zn_lt (by omega) (by decide)
  have h2 : (znn what = 2 ↔ what = 2) := by rw [zl2]; exact zn_eq (by omega) (by decide)
  have h0 : ((0 : Int32) < znn v ↔ 0 < v) := by rw [zl0]; exact zn_lt (by decide) (by omega)
  have hA : (znn a < znn n ↔ a < n) := zn_lt (by omega) (by omega)
  have hM : (znn (mst what) < znn v ↔ mst what < v) := zn_lt (by omega) (by omega)
  simp only [h3, h2, h0, hA, hM]
  by_cases q1 : mst what < v
  · rw [if_pos q1, if_neg (by omega)]
  · rw [if_neg q1]
    by_cases q2 : what = 2
    · rw [if_pos q2]
      by_cases q3 : 0 < v
      · rw [if_pos q3, if_pos (by omega), if_pos (by omega)]
      · rw [if_neg q3, if_neg (by omega)]
    · rw [if_neg q2]
      by_cases q4 : what < 3
      · rw [if_pos q4, if_pos (by omega)]
      · rw [if_neg q4]
        by_cases q5 : a < n
        · rw [if_pos q5, if_pos (by omega)]
        · rw [if_neg q5, if_neg (by omega)]
