-- ===== a text told: its bytes come to the TAPE =====
def part4 (c : Nat → Nat) (j : Nat) : Nat → Nat
  | 0 => 0
  | m + 1 => part4 c j m * 256 + c (4 * j + m)
theorem part4_lt {c : Nat → Nat} {j : Nat} (hc : ∀ i, c i < 128) : ∀ m, m ≤ 3 → part4 c j m < 8388608 := by
  intro m hm
  have h0 := hc (4 * j + 0)
  have h1 := hc (4 * j + 1)
  have h2 := hc (4 * j + 2)
  have hm4 : m = 0 ∨ m = 1 ∨ m = 2 ∨ m = 3 := by omega
  rcases hm4 with rfl | rfl | rfl | rfl <;> simp only [part4] <;> omega
theorem sh8 {x c : Nat} (hx : x < 8388608) (hc : c < 256) : zshl (znn x) 8 ||| znn c = znn (x * 256 + c) := by
  have e : zshl (znn x) 8 = znn (x * 256) := by
    apply Int32.toBitVec_inj.mp
    apply BitVec.eq_of_toNat_eq
    simp [zshl, znn, BitVec.toNat_shiftLeft, Nat.shiftLeft_eq]
  rw [e, zn_or]
  congr 1
  rw [show x * 256 = 2 ^ 8 * x by omega, Nat.two_pow_add_eq_or_of_lt (by omega)]
theorem zshr_nat {x i : Nat} (hx : x < 2147483648) (hi : i = 0 ∨ i = 8 ∨ i = 16 ∨ i = 24) : zshr (znn x) (znn i) = znn (x / 2 ^ i) := by
  apply Int32.toBitVec_inj.mp
  apply BitVec.eq_of_toInt_eq
  have h1 : (znn x).toBitVec.toInt = (x : Int) := Int32.toInt_ofNat_of_lt hx
  have h2 : x / 2 ^ i < 2147483648 := Nat.lt_of_le_of_lt (Nat.div_le_self _ _) hx
  have h3 : (znn (x / 2 ^ i)).toBitVec.toInt = ((x / 2 ^ i : Nat) : Int) := Int32.toInt_ofNat_of_lt h2
  rw [h3]
  have h4 : ∀ y : Int32, (zshr y (znn i)).toBitVec = y.toBitVec.sshiftRight i := by
    intro y
    rcases hi with rfl | rfl | rfl | rfl
    · simp [zshr, znn]
    · simp [zshr, znn]
    · simp [zshr, znn]
    · simp [zshr, znn]
  rw [h4, BitVec.toInt_sshiftRight, h1, Int.shiftRight_eq_div_pow]
  rfl
theorem part4_byte {c : Nat → Nat} {j r : Nat} (hc : ∀ i, c i < 128) (hr : r < 4) : part4 c j 4 / 2 ^ (24 - 8 * r) % 256 = c (4 * j + r) := by
  have h0 := hc (4 * j + 0)
  have h1 := hc (4 * j + 1)
  have h2 := hc (4 * j + 2)
  have h3 := hc (4 * j + 3)
  have hr4 : r = 0 ∨ r = 1 ∨ r = 2 ∨ r = 3 := by omega
  rcases hr4 with rfl | rfl | rfl | rfl <;> simp only [part4] <;> omega
theorem part4_lt4 {c : Nat → Nat} {j : Nat} (hc : ∀ i, c i < 128) : part4 c j 4 < 2147483648 := by
  have h0 := hc (4 * j + 0)
  have h1 := hc (4 * j + 1)
  have h2 := hc (4 * j + 2)
  have h3 := hc (4 * j + 3)
  simp only [part4]
  omega
theorem feed_r {B : ZI} {t : Nat} {c : Nat → Nat} (hc : ∀ i, c i < 128) (ht : t + 20 ≤ 400) (h19 : B 148 19 = znn t) : ∃ B', f154_feed (znn (part4 c 0 4)) (znn (part4 c 1 4)) (znn (part4 c 2 4)) (znn (part4 c 3 4)) (znn (part4 c 4 4)) B = some (znn (t + 20), B') ∧ B' 148 19 = znn (t + 20) ∧ (∀ i, i < 20 → B' 158 (t + i) = znn (c i)) ∧ (∀ i, i < t → B' 158 i = B 158 i) ∧ (∀ o, o ≠ 148 → o ≠ 158 → B' o = B o) ∧ ∀ j, j ≠ 19 → B' 148 j = B 148 j := by
  obtain ⟨b, h1, h2, h3, h4, h5, h6⟩ := zloop (fun fu (b : ZI) x => f154_l18 (znn (part4 c 0 4)) (znn (part4 c 1 4)) (znn (part4 c 2 4)) (znn (part4 c 3 4)) (znn (part4 c 4 4)) fu x b) 20 (fun i b => b 148 19 = znn (t + i) ∧ (∀ q, q < i → b 158 (t + q) = znn (c q)) ∧ (∀ q, q < t → b 158 q = B 158 q) ∧ (∀ o, o ≠ 148 → o ≠ 158 → b o = B o) ∧ ∀ j, j ≠ 19 → b 148 j = B 148 j)
    (fun b => b 148 19 = znn (t + 20) ∧ (∀ q, q < 20 → b 158 (t + q) = znn (c q)) ∧ (∀ q, q < t → b 158 q = B 158 q) ∧ (∀ o, o ≠ 148 → o ≠ 158 → b o = B o) ∧ ∀ j, j ≠ 19 → b 148 j = B 148 j) (fun fu i b hi hb => by
      obtain ⟨b1, b2, b3, b4, b5⟩ := hb
      left
      obtain ⟨p1, p2⟩ := place4 hi
      have hr : i % 4 < 4 := Nat.mod_lt _ (by decide)
      have hsel : ((if znn i < (4 : Int32) then some (znn (part4 c 0 4)) else (if znn i < (8 : Int32) then some (znn (part4 c 1 4)) else (if znn i < (12 : Int32) then some (znn (part4 c 2 4)) else (if znn i < (16 : Int32) then some (znn (part4 c 3 4)) else some (znn (part4 c 4 4)))))) : Option Int32) = some (znn (part4 c (i / 4) 4)) := by
        have h5 : i / 4 = 0 ∨ i / 4 = 1 ∨ i / 4 = 2 ∨ i / 4 = 3 ∨ i / 4 = 4 := by omega
        rw [zl4, zl8, zl12, zl16]
        rcases h5 with e | e | e | e | e <;> rw [e]
        · rw [if_pos ((zn_lt (by omega) (by omega)).mpr (by omega))]
        · rw [if_neg (by rw [zn_lt (by omega) (by omega)]; omega), if_pos ((zn_lt (by omega) (by omega)).mpr (by omega))]
        · rw [if_neg (by rw [zn_lt (by omega) (by omega)]; omega), if_neg (by rw [zn_lt (by omega) (by omega)]; omega), if_pos ((zn_lt (by omega) (by omega)).mpr (by omega))]
        · rw [if_neg (by rw [zn_lt (by omega) (by omega)]; omega), if_neg (by rw [zn_lt (by omega) (by omega)]; omega), if_neg (by rw [zn_lt (by omega) (by omega)]; omega), if_pos ((zn_lt (by omega) (by omega)).mpr (by omega))]
        · rw [if_neg (by rw [zn_lt (by omega) (by omega)]; omega), if_neg (by rw [zn_lt (by omega) (by omega)]; omega), if_neg (by rw [zn_lt (by omega) (by omega)]; omega), if_neg (by rw [zn_lt (by omega) (by omega)]; omega)]
      have hbyte : zshr (znn (part4 c (i / 4) 4)) (znn (24 - 8 * (i % 4))) &&& 255 = znn (c i) := by
        rw [zshr_nat (part4_lt4 hc) (by omega), show (255 : Int32) = znn 255 from rfl, zn_and]
        congr 1
        rw [show (255 : Nat) = 2 ^ 8 - 1 from rfl, Nat.and_two_pow_sub_one_eq_mod]
        have := part4_byte (j := i / 4) hc hr
        rw [show 4 * (i / 4) + i % 4 = i by omega] at this
        exact this
      refine ⟨zs (zs b 158 (t + i) (znn (c i))) 148 19 (znn (t + i + 1)), ⟨by rw [zs_sm, if_pos rfl]; rfl, fun q hq => ?_, fun q hq => ?_, fun o q1 q2 => ?_, fun j hj => ?_⟩, ?_⟩
      · rw [zs_df (by decide), zs_sm]
        by_cases hqi : q = i
        · rw [if_pos (by omega), hqi]
        · rw [if_neg (by omega)]
          exact b2 q (by omega)
      · rw [zs_df (by decide), zs_sm, if_neg (by omega)]
        exact b3 q hq
      · rw [zs_df q1, zs_df q2]
        exact b4 o q1 q2
      · rw [zs_sm, if_neg hj, zs_df (by decide)]
        exact b5 j hj
      · (try dsimp only)
        rw [f154_l18, if_pos p2, hsel]
        simp only [Option.bind_some]
        rw [b1, if_pos ((zn_zin (by omega)).mpr (by omega)), zn_zi (by omega), p1, hbyte]
        simp only [zlet]
        rw [zs_df (show (148 : Nat) ≠ 158 by decide), b1, zadd1, zadd1]) (fun fu b hb => by
      refine ⟨b, hb, ?_⟩
      (try dsimp only)
      rw [f154_l18, if_neg (by decide)]) zfu 0 B (by omega) (by rw [zfu_eq]; omega) ⟨h19, fun q hq => absurd hq (by omega), fun _ _ => rfl, fun _ _ _ => rfl, fun _ _ => rfl⟩
  have h1 : f154_l18 (znn (part4 c 0 4)) (znn (part4 c 1 4)) (znn (part4 c 2 4)) (znn (part4 c 3 4)) (znn (part4 c 4 4)) zfu 0 B = some b := h1
  refine ⟨b, ?_, h2, h3, h4, h5, h6⟩
  unfold f154_feed
  rw [h19, zl20, zn_add, if_neg (by rw [zl400, zn_lt (by decide) (by omega)]; omega), h1]
  simp only [Option.bind_some]
  rw [h2]
theorem end_r {B : ZI} {t u : Nat} (ht : t ≤ 400) (hu : u ≤ t) (h19 : B 148 19 = znn t) : f155_end (znn u) B = some (1, zs B 148 19 (znn u)) := by
  unfold f155_end
  rw [h19, zl0, in_yes (by omega) hu (by omega)]
  rfl
