-- ===== the LANDS of the law's loop =====
def pastW (B : ZI) (j x : Nat) : Int32 := if x < 48 then B 151 (48 * j + x) else B 149 x
def rwW (B : ZI) (m j : Nat) : Nat → Int32 := if j < m then pastW B j else B 149
def apart (n : Nat) (T Bb : Nat → Nat) (i j : Nat) : Prop := T i ≠ T j ∧ (Bb i + n ≤ Bb j ∨ Bb j + n ≤ Bb i)
def LWl (M : ZI) (R : ZF) (L : ZY) (B : ZI) (T Bb : Nat → Nat) (m n k Y : Nat) : Prop := ∀ j, j ≤ m → landIs M R L (T j) (Bb j) (rwW B m j) n k ∧ R (T j) 14 = R (T m) 14 ∧ (∃ l, l ≤ 150 ∧ rwW B m j 5 = znn l) ∧ ∃ y, y ≤ Y ∧ rwW B m j 0 = znn y
def LWx (M : ZI) (R : ZF) (L : ZY) (B : ZI) (T Bb : Nat → Nat) (m n k Y : Nat) : Prop := zgood R L = true ∧ n ≤ 10 ∧ k ≤ 9 ∧ m ≤ 6 ∧ B 149 48 = znn n ∧ B 149 52 = znn k ∧ B 148 19 = 0 ∧ B 148 4 = znn m ∧ LWl M R L B T Bb m n k Y ∧ (∀ i j, i ≤ m → j ≤ m → i ≠ j → apart n T Bb i j) ∧ ∀ i j, i ≤ j → j ≤ m → zi (rwW B m i 5) ≤ zi (rwW B m j 5)
theorem rwW_m (B : ZI) (m : Nat) : rwW B m m = B 149 := if_neg (Nat.lt_irrefl _)
theorem rwW_lt {B : ZI} {m j : Nat} (h : j < m) : rwW B m j = pastW B j := if_pos h
theorem LWx_cur {M : ZI} {R : ZF} {L : ZY} {B : ZI} {T Bb : Nat → Nat} {m n k Y : Nat} (h : LWx M R L B T Bb m n k Y) : landIs M R L (T m) (Bb m) (B 149) n k := by
  have := (h.2.2.2.2.2.2.2.2.1 m (Nat.le_refl _)).1
  rw [rwW_m] at this
  exact this
theorem rw_on {B B' : ZI} {m j x : Nat} (h9 : B' 149 x = B 149 x) (h5 : x < 48 → j < m → B' 151 (48 * j + x) = B 151 (48 * j + x)) : rwW B' m j x = rwW B m j x := by
  unfold rwW
  by_cases hj : j < m
  · rw [if_pos hj, if_pos hj]
    unfold pastW
    by_cases hx : x < 48
    · rw [if_pos hx, if_pos hx]; exact h5 hx hj
    · rw [if_neg hx, if_neg hx]; exact h9
  · rw [if_neg hj, if_neg hj]; exact h9
theorem LWx_gF {own : Nat → Prop} {M M' : ZI} {R R' : ZF} {L L' : ZY} {B : ZI} {T Bb : Nat → Nat} {m n k Y : Nat} (h : LWx M R L B T Bb m n k Y) (hg : gF own M R L M' R' L') (ho : ∀ c x y, own c → L[c]? = some (x, y) → x = 52 ∨ x = 50 ∨ x = 14 ∨ x = 15) : LWx M' R' L' B T Bb m n k Y := by
  obtain ⟨h1, h2, h3, h4, h5, h6, h7, h8, h9, h10, h11⟩ := h
  refine ⟨zgood_gF hg h1, h2, h3, h4, h5, h6, h7, h8, fun j hj => ?_, h10, h11⟩
  obtain ⟨a1, a2, a3, a4⟩ := h9 j hj
  have er : ∀ i, i ≤ m → R' (T i) = R (T i) := fun i hi => by
    have o := (h9 i hi).1.1
    exact (hg.2.1 (T i) o.2.2.2.2.2 (lay_le o.1) (fun hh => by have := ho _ _ _ hh o.1; omega)).2
  exact ⟨landIs_gF a1 hg ho h1, by rw [er j hj, er m (Nat.le_refl _)]; exact a2, a3, a4⟩
theorem LWx_B {M : ZI} {R : ZF} {L : ZY} {B B' : ZI} {T Bb : Nat → Nat} {m n k Y : Nat} (h : LWx M R L B T Bb m n k Y) (h149 : B' 149 = B 149) (h151 : B' 151 = B 151) (h4 : B' 148 4 = B 148 4) (h19 : B' 148 19 = B 148 19) : LWx M R L B' T Bb m n k Y := by
  have e : ∀ j, rwW B' m j = rwW B m j := fun j => funext fun x => rw_on (by rw [h149]) (fun _ _ => by rw [h151])
  obtain ⟨a1, a2, a3, a4, a5, a6, a7, a8, a9, a10, a11⟩ := h
  refine ⟨a1, a2, a3, a4, by rw [h149]; exact a5, by rw [h149]; exact a6, h19.trans a7, h4.trans a8, fun j hj => ?_, a10, fun i j hi hj => ?_⟩
  · rw [e]; exact a9 j hj
  · rw [e, e]; exact a11 i j hi hj
theorem LWx_Y {M : ZI} {R : ZF} {L : ZY} {B : ZI} {T Bb : Nat → Nat} {m n k Y Y' : Nat} (h : LWx M R L B T Bb m n k Y) (hY : Y ≤ Y') : LWx M R L B T Bb m n k Y' := by
  obtain ⟨a1, a2, a3, a4, a5, a6, a7, a8, a9, a10, a11⟩ := h
  exact ⟨a1, a2, a3, a4, a5, a6, a7, a8, fun j hj => by
    obtain ⟨b1, b2, b3, y, b4, b5⟩ := a9 j hj
    exact ⟨b1, b2, b3, y, by omega, b5⟩, a10, a11⟩
/-- a copy of the LAND, and the reference keeps: one more -/
theorem LWx_push {M : ZI} {R : ZF} {L : ZY} {B B1 : ZI} {T Bb : Nat → Nat} {m m' n k Y X Bx : Nat} (h : LWx M R L B T Bb m n k Y) (hX : landIs M R L X Bx (B 149) n k) (hXd : ∀ j, j ≤ m → X ≠ T j ∧ (Bx + n ≤ Bb j ∨ Bb j + n ≤ Bx)) (hX14 : R X 14 = R (T m) 14) (hk : kpt B B1 m m') (h149 : B1 149 = B 149) : LWx M R L B1 (fun j => if j = m' then T m else if j = m' - 1 then X else if m = 6 then T (j + 1) else T j) (fun j => if j = m' then Bb m else if j = m' - 1 then Bx else if m = 6 then Bb (j + 1) else Bb j) m' n k Y := by
  obtain ⟨a1, a2, a3, a4, a5, a6, a7, a8, a9, a10, a11⟩ := h
  obtain ⟨k1, k2, k3, k4, k5, k6⟩ := hk
  have hm1 : 1 ≤ m' ∧ m' ≤ 6 := by rw [k1]; split <;> omega
  -- the index in the old family
  let f : Nat → Nat := fun j => if j = m' then m else if m = 6 then j + 1 else j
  have hf : ∀ j, j ≤ m' → j ≠ m' - 1 → f j ≤ m ∧ rwW B1 m' j = rwW B m (f j) := fun j hj hj2 => by
    by_cases hjm : j = m'
    · have e : f j = m := if_pos hjm
      rw [e, hjm, rwW_m, rwW_m, h149]
      exact ⟨Nat.le_refl _, rfl⟩
    · have hlt : j < m' - 1 := by omega
      have hfm : f j < m := by
        show (if j = m' then m else if m = 6 then j + 1 else j) < m
        rw [if_neg hjm]
        split
        · omega
        · rw [k1] at hlt; rename_i h6; rw [if_neg h6] at hlt; omega
      refine ⟨by omega, ?_⟩
      rw [rwW_lt (by omega), rwW_lt hfm]
      funext x
      unfold pastW
      by_cases hx : x < 48
      · rw [if_pos hx, if_pos hx, k6 j x hlt hx]
        show _ = B 151 (48 * (if j = m' then m else if m = 6 then j + 1 else j) + x)
        rw [if_neg hjm]
        split <;> rfl
      · rw [if_neg hx, if_neg hx, h149]
  have hx : rwW B1 m' (m' - 1) = B 149 := by
    rw [rwW_lt (by omega)]
    funext x
    unfold pastW
    by_cases hxx : x < 48
    · rw [if_pos hxx]; exact k5 x hxx
    · rw [if_neg hxx, h149]
  have hfinj : ∀ i j, i ≤ m' → j ≤ m' → i ≠ m' - 1 → j ≠ m' - 1 → i ≠ j → f i ≠ f j := fun i j hi hj hi2 hj2 hij => by
    show (if i = m' then m else if m = 6 then i + 1 else i) ≠ (if j = m' then m else if m = 6 then j + 1 else j)
    rw [k1] at hi hj hi2 hj2 ⊢
    by_cases h6 : m = 6
    · simp only [h6, if_true] at *
      by_cases h1 : i = 6
      · rw [if_pos h1, if_neg (by omega)]; omega
      · rw [if_neg h1]
        by_cases h2 : j = 6
        · rw [if_pos h2]; omega
        · rw [if_neg h2]; omega
    · simp only [h6, if_false] at *
      by_cases h1 : i = m + 1
      · rw [if_pos h1, if_neg (by omega)]; omega
      · rw [if_neg h1]
        by_cases h2 : j = m + 1
        · rw [if_pos h2]; omega
        · rw [if_neg h2]; exact hij
  have hfmono : ∀ i j, i ≤ j → j ≤ m' → i ≠ m' - 1 → j ≠ m' - 1 → f i ≤ f j := fun i j hi hj hi2 hj2 => by
    show (if i = m' then m else if m = 6 then i + 1 else i) ≤ (if j = m' then m else if m = 6 then j + 1 else j)
    rw [k1] at hj hi2 hj2 ⊢
    by_cases h6 : m = 6
    · simp only [h6, if_true] at *
      by_cases h1 : i = 6
      · rw [if_pos h1, if_pos (by omega)]; exact Nat.le_refl _
      · rw [if_neg h1]
        split <;> omega
    · simp only [h6, if_false] at *
      by_cases h1 : i = m + 1
      · rw [if_pos h1, if_pos (by omega)]; exact Nat.le_refl _
      · rw [if_neg h1]
        split <;> omega
  have hT : ∀ j, j ≠ m' - 1 → (if j = m' then T m else if j = m' - 1 then X else if m = 6 then T (j + 1) else T j) = T (f j) ∧ (if j = m' then Bb m else if j = m' - 1 then Bx else if m = 6 then Bb (j + 1) else Bb j) = Bb (f j) := fun j hj => by
    show _ = T (if j = m' then m else if m = 6 then j + 1 else j) ∧ _ = Bb (if j = m' then m else if m = 6 then j + 1 else j)
    by_cases h1 : j = m'
    · simp only [h1, if_true, and_self]
    · simp only [h1, hj, if_false]
      split <;> exact ⟨rfl, rfl⟩
  have hTx : (if m' - 1 = m' then T m else if m' - 1 = m' - 1 then X else if m = 6 then T (m' - 1 + 1) else T (m' - 1)) = X ∧ (if m' - 1 = m' then Bb m else if m' - 1 = m' - 1 then Bx else if m = 6 then Bb (m' - 1 + 1) else Bb (m' - 1)) = Bx := by
    rw [if_neg (show ¬ m' - 1 = m' by omega), if_pos rfl, if_neg (show ¬ m' - 1 = m' by omega), if_pos rfl]
    exact ⟨rfl, rfl⟩
  have hTm : (if m' = m' then T m else if m' = m' - 1 then X else if m = 6 then T (m' + 1) else T m') = T m := if_pos rfl
  refine ⟨a1, a2, a3, hm1.2, by rw [h149]; exact a5, by rw [h149]; exact a6, by rw [k4 19 (by decide)]; exact a7, k2, fun j hj => ?_, fun i j hi hj hij => ?_, fun i j hi hj => ?_⟩
  · dsimp only
    rw [hTm]
    by_cases hjx : j = m' - 1
    · subst hjx
      rw [hTx.1, hTx.2, hx]
      obtain ⟨b1, b2, b3, b4⟩ := a9 m (Nat.le_refl _)
      rw [rwW_m] at b3 b4
      exact ⟨hX, hX14, b3, b4⟩
    · obtain ⟨q1, q2⟩ := hf j hj hjx
      rw [(hT j hjx).1, (hT j hjx).2, q2]
      exact a9 _ q1
  · unfold apart
    dsimp only
    by_cases hix : i = m' - 1
    · subst hix
      rw [hTx.1, hTx.2, (hT j (by omega)).1, (hT j (by omega)).2]
      exact hXd _ (hf j hj (by omega)).1
    · by_cases hjx : j = m' - 1
      · subst hjx
        rw [hTx.1, hTx.2, (hT i hix).1, (hT i hix).2]
        obtain ⟨q1, q2⟩ := hXd _ (hf i hi hix).1
        exact ⟨Ne.symm q1, q2.symm⟩
      · rw [(hT i hix).1, (hT i hix).2, (hT j hjx).1, (hT j hjx).2]
        exact a10 _ _ (hf i hi hix).1 (hf j hj hjx).1 (hfinj i j hi hj hix hjx hij)
  · by_cases hjx : j = m' - 1
    · subst hjx
      rw [hx]
      by_cases hix : i = m' - 1
      · rw [hix, hx]; exact Nat.le_refl _
      · obtain ⟨q1, q2⟩ := hf i (by omega) hix
        rw [q2]
        have := a11 (f i) m q1 (Nat.le_refl _)
        rw [rwW_m] at this
        exact this
    · obtain ⟨q1, q2⟩ := hf j hj hjx
      rw [q2]
      by_cases hix : i = m' - 1
      · rw [hix, hx]
        have hjm : j = m' := by omega
        have : f j = m := if_pos hjm
        rw [this, rwW_m]
        exact Nat.le_refl _
      · obtain ⟨q3, q4⟩ := hf i (by omega) hix
        rw [q4]
        exact a11 _ _ (hfmono i j hi hj hix hjx) q1
