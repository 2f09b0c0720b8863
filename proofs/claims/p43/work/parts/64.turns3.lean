def bitsOf (s : Nat) : Nat → Bool := fun i => s.testBit i
theorem bits_del {s p : Nat} (hs : s < 1024) : bitsOf (s &&& (2 ^ p ^^^ 4294967295)) = del (bitsOf s) p := by
  funext i
  unfold bitsOf del
  by_cases hi : i < 32
  · rw [tb_not hi, Nat.testBit_two_pow]
    by_cases hip : i = p
    · subst hip; simp
    · have : ¬ p = i := fun h => hip h.symm
      simp [hip, this]
  · have h1 : s.testBit i = false := Nat.testBit_lt_two_pow (Nat.lt_of_lt_of_le (show s < 2 ^ 32 by omega) (Nat.pow_le_pow_right (by decide) (by omega)))
    rw [Nat.testBit_and]
    simp [h1]
theorem inTime_ref {M : ZI} {w : Nat → Int32} {n y0 i x d : Nat} (hw : M 149 = w) (hn : n ≤ 10) (hi : i < n) (hy0 : y0 ≤ 999) (ey : w 0 = znn y0) (hx : x ≤ 10) (hd : d ≤ 999) (e : w (70 + i) = znn d) : f248_isInTime (znn i) (znn x) M = some (if y0 + x ≤ d then 1 else 0) := by
  unfold f248_isInTime
  rw [show zin (70 + znn i) 2064 = true from zx (d := 70) (by decide) (by omega), if_pos rfl, show zi (70 + znn i) = 70 + i from zy (d := 70) (by decide) (by omega), hw, e, ey, zn_add]
  by_cases h : y0 + x ≤ d
  · rw [if_neg (by rw [zn_lt (by omega) (by omega)]; omega), if_pos h]
  · rw [if_pos (by rw [zn_lt (by omega) (by omega)]; omega), if_neg h]
/-- one place of the table -/
theorem cell_ref {A B M : ZI} {n k c b y0 x a s t : Nat} (h0 : Inv5 A B n k c b) (hw : M 149 = B 149) (hy0 : y0 ≤ 999) (ey : B 149 0 = znn y0) (hs : s < 2 ^ n) (hx : x < a) (ha : a ≤ 10)
    (hT : ∀ s, s < 2 ^ n → M 161 (1024 * (x + 1) + s) = znn (tT n (dueOf (B 149)) t (y0 + (x + 1)) (bitsOf s))) (ht : t ≤ 10) (hTb : ∀ S, tT n (dueOf (B 149)) t (y0 + (x + 1)) S ≤ 10) :
    f247_l44 (znn a) (znn x) (znn s) M zfu (znn (tT n (dueOf (B 149)) t (y0 + (x + 1)) (bitsOf s))) 0 = some (znn (tT n (dueOf (B 149)) (t + 1) (y0 + x) (bitsOf s))) := by
  have hn10 := h0.2.1.1.1
  have h48 : M 149 48 = znn n := by rw [hw]; exact h0.2.1.1.2.1
  have hp := pow_1024 hn10
  have hbd : ∀ j, tTry (bitsOf s) (dueOf (B 149)) (y0 + x) (tT n (dueOf (B 149)) t (y0 + (x + 1))) (tT n (dueOf (B 149)) t (y0 + (x + 1)) (bitsOf s)) j ≤ 11 := fun j => tTry_le (by have := hTb (bitsOf s); omega) j (fun i _ _ _ => by have := hTb (del (bitsOf s) i); omega)
  obtain ⟨r, g1, rfl⟩ := zloop (fun f (v : Int32) c => f247_l44 (znn a) (znn x) (znn s) M f v c) n (fun j v => v = znn (tTry (bitsOf s) (dueOf (B 149)) (y0 + x) (tT n (dueOf (B 149)) t (y0 + (x + 1))) (tT n (dueOf (B 149)) t (y0 + (x + 1)) (bitsOf s)) j)) (fun v => v = znn (tT n (dueOf (B 149)) (t + 1) (y0 + x) (bitsOf s))) (fun f j v hj hv => by
    subst hv
    left
    (try dsimp only)
    obtain ⟨d1, -, d2⟩ := due_p h0 hj
    refine ⟨_, rfl, ?_⟩
    rw [f247_l44, h48, if_pos ((zn_lt (by omega) (by omega)).mpr hj), if_pos ((zn_lt (by omega) (by omega)).mpr hx), zbit (by omega) (by omega), zadd1, inTime_ref hw hn10 hj hy0 ey (by omega) d1 d2, tTry]
    have eb : bitsOf s j = s.testBit j := rfl
    by_cases hb : s.testBit j = true
    · rw [if_pos hb, if_pos rfl, Option.bind_some]
      by_cases hd : y0 + x ≤ dueOf (B 149) j
      · have l2 : s &&& (2 ^ j ^^^ 4294967295) < 2 ^ n := Nat.lt_of_le_of_lt Nat.and_le_left hs
        have ix : (1024 : Int32) * znn (x + 1) + (znn s &&& (zshl 1 (znn j) ^^^ -1)) = znn (1024 * (x + 1) + (s &&& (2 ^ j ^^^ 4294967295))) := by
          rw [show zshl 1 (znn j) = znn (2 ^ j) by rw [zl1]; exact zn_shl (by omega), not_zn, zl1024, zn_mul, zn_add]
        rw [if_pos hd, if_neg (by decide), zadd1, ix, if_pos ((zn_zin (by omega)).mpr (by omega)), zn_zi (by omega), hT _ l2, bits_del (by omega), gre_eq, Option.bind_some, if_pos ⟨hb, hd⟩, zl1, zn_add]
        have b1 := hbd j
        have b2 := hTb (del (bitsOf s) j)
        rw [zmax_zn (by omega) (by omega)]
      · rw [if_neg hd, if_pos rfl, if_neg (fun h => hd h.2)]
    · rw [if_neg hb, if_neg (by decide), if_neg (fun h => hb h.1)]) (fun f v hv => by
    have hng : ¬ znn n < znn n := by rw [zn_lt (by omega) (by omega)]; omega
    refine ⟨v, hv, ?_⟩
    (try dsimp only)
    rw [f247_l44, h48, if_neg hng]) zfu 0 _ (by omega) (by rw [zfu_eq]; omega) rfl
  exact g1
theorem tT_bd {n : Nat} {due : Nat → Nat} : ∀ d Y S, tT n due d Y S ≤ d
  | 0, _, _ => Nat.le_refl _
  | d + 1, Y, S => tT_le (by have := tT_bd (n := n) (due := due) d (Y + 1) S; omega) (fun i _ _ _ => by have := tT_bd (n := n) (due := due) d (Y + 1) (del S i); omega)
/-- one row of the table -/
theorem row_ref {A B M : ZI} {n k c b y0 x a : Nat} (h0 : Inv5 A B n k c b) (hw : M 149 = B 149) (hy0 : y0 ≤ 999) (ey : B 149 0 = znn y0) (hx : x ≤ a) (ha : a ≤ 10)
    (hT : x < a → ∀ s, s < 2 ^ n → M 161 (1024 * (x + 1) + s) = znn (tT n (dueOf (B 149)) (a - (x + 1)) (y0 + (x + 1)) (bitsOf s))) :
    ∃ M', f247_l8 (znn a) (znn x) zfu 0 M = some M' ∧ (∀ s, s < 2 ^ n → M' 161 (1024 * x + s) = znn (tT n (dueOf (B 149)) (a - x) (y0 + x) (bitsOf s))) ∧ (∀ o, o ≠ 161 → M' o = M o) ∧ ∀ j, 1024 * (x + 1) ≤ j → M' 161 j = M 161 j := by
  have hn10 := h0.2.1.1.1
  have hp := pow_1024 hn10
  obtain ⟨r, g1, g2, g3, g4⟩ := zloop (fun f (v : ZI) c => f247_l8 (znn a) (znn x) f c v) (2 ^ n) (fun j v => (∀ s, s < j → v 161 (1024 * x + s) = znn (tT n (dueOf (B 149)) (a - x) (y0 + x) (bitsOf s))) ∧ (∀ o, o ≠ 161 → v o = M o) ∧ ∀ j, 1024 * (x + 1) ≤ j → v 161 j = M 161 j) (fun v => (∀ s, s < 2 ^ n → v 161 (1024 * x + s) = znn (tT n (dueOf (B 149)) (a - x) (y0 + x) (bitsOf s))) ∧ (∀ o, o ≠ 161 → v o = M o) ∧ ∀ j, 1024 * (x + 1) ≤ j → v 161 j = M 161 j) (fun f j v hj hv => by
    obtain ⟨q1, q2, q3⟩ := hv
    left
    (try dsimp only)
    have hwv : v 149 = B 149 := (q2 149 (by decide)).trans hw
    have h48 : v 149 48 = znn n := by rw [hwv]; exact h0.2.1.1.2.1
    have val : ∃ v11, ((if znn x = znn a then some (0 : Int32) else if zin (((1024 : Int32) * (znn x + (1 : Int32))) + znn j) 11264 = true then some (v 161 (zi (((1024 : Int32) * (znn x + (1 : Int32))) + znn j))) else none) : Option (Int32)) = some v11 ∧ f247_l44 (znn a) (znn x) (znn j) v zfu v11 0 = some (znn (tT n (dueOf (B 149)) (a - x) (y0 + x) (bitsOf j))) := by
      by_cases hxa : x = a
      · subst hxa
        refine ⟨0, by rw [if_pos rfl], ?_⟩
        obtain ⟨mf, hmf⟩ : ∃ m, zfu = m + 1 := ⟨99999, rfl⟩
        have hng : ¬ znn x < znn x := by rw [zn_lt (by omega) (by omega)]; omega
        rw [hmf, f247_l44, Nat.sub_self, if_neg hng]
        by_cases hlt : (0 : Int32) < v 149 48
        · rw [if_pos hlt]; rfl
        · rw [if_neg hlt]; rfl
      · have hlt : x < a := by omega
        have hT' : ∀ s, s < 2 ^ n → v 161 (1024 * (x + 1) + s) = znn (tT n (dueOf (B 149)) (a - (x + 1)) (y0 + (x + 1)) (bitsOf s)) := fun s hs => by rw [q3 _ (by omega)]; exact hT hlt s hs
        refine ⟨znn (tT n (dueOf (B 149)) (a - (x + 1)) (y0 + (x + 1)) (bitsOf j)), ?_, ?_⟩
        · rw [if_neg (by rw [zn_eq (by omega) (by omega)]; exact hxa), zadd1, zl1024, zn_mul, zn_add, if_pos ((zn_zin (by omega)).mpr (by omega)), zn_zi (by omega), hT' j hj]
        · have := cell_ref (M := v) (t := a - (x + 1)) h0 hwv hy0 ey hj hlt ha hT' (by omega) (fun S => by have := tT_bd (n := n) (due := dueOf (B 149)) (a - (x + 1)) (y0 + (x + 1)) S; omega)
          rw [show a - (x + 1) + 1 = a - x by omega] at this
          exact this
    obtain ⟨v11, v1, v2⟩ := val
    have hng : ¬ znn (2 ^ n - 1) < znn j := by rw [zn_lt (by omega) (by omega)]; omega
    rw [f247_l8, all_ref hn10 h48, Option.bind_some, if_neg hng, v1, Option.bind_some, v2, Option.bind_some, zl1024, zn_mul, zn_add, if_pos ((zn_zin (by omega)).mpr (by omega)), zn_zi (by omega), zlet_e, zadd1]
    refine ⟨_, ⟨fun s hs => ?_, fun o ho => by rw [zs_df ho]; exact q2 o ho, fun i hi => ?_⟩, rfl⟩
    · rw [zs_sm]
      by_cases hsj : s = j
      · rw [hsj, if_pos rfl]
      · rw [if_neg (by omega)]; exact q1 s (by omega)
    · rw [zs_sm, if_neg (by omega)]; exact q3 i hi) (fun f v hv => by
    have h48 : v 149 48 = znn n := by rw [hv.2.1 149 (by decide), hw]; exact h0.2.1.1.2.1
    refine ⟨v, hv, ?_⟩
    (try dsimp only)
    rw [f247_l8, all_ref hn10 h48, Option.bind_some, if_pos (by rw [zn_lt (by omega) (by omega)]; omega)]) zfu 0 M (Nat.zero_le _) (by rw [zfu_eq]; omega) ⟨fun s hs => by omega, fun _ _ => rfl, fun _ _ => rfl⟩
  exact ⟨r, g1, g2, g3, g4⟩
