-- ===== works drawn and told: the law's loop =====
def dWx (x : Int32) (k : Nat) : Int32 := x * (znn k + 5) + 223 * znn k
def dW (x : Int32) (n k f : Nat) : Nat := if f = 0 then bw (dWx x k) (min 2 (n - 1) + 1) else if f = 1 then 1 + bw (zshr (dWx x k) 3) (if zshr (dWx x k) 9 &&& 3 = 0 then 24 else 8) else if f = 2 then bw (zshr (dWx x k) 5) 41 else if f = 3 then bw (zshr (dWx x k) 6) 4 else bw (zshr (dWx x k) 7) 4
def aF (W : Nat → Nat → Nat) (k : Nat) : Nat → Option Nat
  | 0 => none
  | m + 1 => if W m 0 = W k 0 then some m else aF W k m
def dA (x : Int32) (n k : Nat) : Option Nat := if zshr (dWx x k) 8 &&& 1 = 1 then aF (dW x n) k k else none
theorem aF_ok {W : Nat → Nat → Nat} {k x : Nat} : ∀ m, aF W k m = some x → x < m ∧ W x 0 = W k 0
  | 0, h => by cases h
  | m + 1, h => by
    unfold aF at h
    split at h
    · cases h
      exact ⟨Nat.lt_succ_self _, by assumption⟩
    · obtain ⟨h1, h2⟩ := aF_ok m h
      exact ⟨by omega, h2⟩
theorem dW_ok (x : Int32) {n : Nat} (k : Nat) (hn : 0 < n) : dW x n k 0 < n ∧ dW x n k 0 < 3 ∧ 1 ≤ dW x n k 1 ∧ dW x n k 1 ≤ 24 ∧ dW x n k 2 ≤ 40 ∧ dW x n k 3 ≤ 3 ∧ dW x n k 4 ≤ 3 := by
  have h0 := bw_lt (dWx x k) (show 0 < min 2 (n - 1) + 1 by omega)
  have h1 := bw_lt (zshr (dWx x k) 3) (show 0 < (if zshr (dWx x k) 9 &&& 3 = 0 then 24 else 8) by split <;> decide)
  have h2 := bw_lt (zshr (dWx x k) 5) (show 0 < 41 by decide)
  have h3 := bw_lt (zshr (dWx x k) 6) (show 0 < 4 by decide)
  have h4 := bw_lt (zshr (dWx x k) 7) (show 0 < 4 by decide)
  have h1' : (if zshr (dWx x k) 9 &&& 3 = 0 then 24 else 8) ≤ 24 := by split <;> decide
  refine ⟨?_, ?_, ?_, ?_, ?_, ?_, ?_⟩ <;> unfold dW <;> simp only [if_true, show ¬ (1 : Nat) = 0 by decide, show ¬ (2 : Nat) = 0 by decide, show ¬ (2 : Nat) = 1 by decide, show ¬ (3 : Nat) = 0 by decide, show ¬ (3 : Nat) = 1 by decide, show ¬ (3 : Nat) = 2 by decide, show ¬ (4 : Nat) = 0 by decide, show ¬ (4 : Nat) = 1 by decide, show ¬ (4 : Nat) = 2 by decide, show ¬ (4 : Nat) = 3 by decide, if_false] <;> omega
theorem dA_ok {x : Int32} {n k y : Nat} (h : dA x n k = some y) : y < k ∧ dW x n y 0 = dW x n k 0 := by
  unfold dA at h
  split at h
  · exact aF_ok k h
  · cases h
theorem dWA_ok (x : Int32) {n : Nat} (k : Nat) (hn : 0 < n) : wOk (dW x n) (dA x n) n k := by
  obtain ⟨h1, h2, h3, h4, h5, h6, h7⟩ := dW_ok x k hn
  exact ⟨h1, h3, h4, by omega, by omega, by omega, fun y hy => dA_ok hy⟩
theorem aI_eq (A : Nat → Option Nat) (k : Nat) : vOf A k = aI (A k) := by
  unfold vOf aI
  cases A k <;> rfl
theorem after_loop {t k aw : Nat} {x : Int32} {M : ZI} {R : ZF} {L : ZY} {W : Nat → Nat → Nat} {q : Nat → Nat} (hk : k ≤ 9) (hL : L.length ≤ 900000) (go : gob L t 10 = true) (h11 : R t 11 = some aw) (haw : ∀ i, i ≤ k → gar L aw 51 (znn i) = true) (hq : ∀ i, i ≤ k → R aw i = some (q i) ∧ L[q i]? = some (0, 6) ∧ M (q i) 0 = znn (W i 0)) (hW : ∀ i, W i 0 < 1000) (hx : zshr x 8 &&& 1 = 1) : ∀ j i fuel, i + j = k → j < fuel → g116_l336 t (znn k) x L M R fuel (aI (aF W k i)) (znn i) = some (aI (aF W k k)) := by
  intro j
  induction j with
  | zero =>
    intro i fuel hi hf
    obtain ⟨fu, rfl⟩ : ∃ k, fuel = k + 1 := ⟨fuel - 1, by omega⟩
    have : i = k := by omega
    subst this
    rw [g116_l336, if_neg (by rw [zn_lt (by omega) (by omega)]; omega)]
  | succ j ih =>
    intro i fuel hi hf
    obtain ⟨fu, rfl⟩ : ∃ k, fuel = k + 1 := ⟨fuel - 1, by omega⟩
    obtain ⟨a1, a2, a3⟩ := hq i (by omega)
    obtain ⟨b1, b2, b3⟩ := hq k (Nat.le_refl _)
    rw [g116_l336, if_pos ((zn_lt (by omega) (by omega)).mpr (by omega)), if_pos hx, if_pos go, h11]
    simp only [Option.bind_some]
    rw [if_pos (haw i (by omega)), zn_zi (show i < 2147483648 by omega), a1]
    simp only [Option.bind_some]
    rw [if_pos (show gar L (q i) 0 0 = true from gar6 (j := 0) a2 hL (by decide)), if_pos (haw k (Nat.le_refl _)), zn_zi (show k < 2147483648 by omega), b1]
    simp only [Option.bind_some]
    rw [if_pos (show gar L (q k) 0 0 = true from gar6 (j := 0) b2 hL (by decide)), show zi (0 : Int32) = 0 from rfl, a3, b3]
    have hih := ih (i + 1) fu (by omega) (by omega)
    have hWi := hW i
    have hWk := hW k
    rw [aF] at hih
    by_cases he : W i 0 = W k 0
    · rw [if_pos he] at hih
      rw [if_pos (by rw [he]), zadd1]
      exact hih
    · rw [if_neg he] at hih
      rw [if_neg (by rw [zn_eq (by omega) (by omega)]; exact he), zadd1]
      exact hih
theorem after_found {t k aw : Nat} {x : Int32} {M : ZI} {R : ZF} {L : ZY} {n : Nat} {q : Nat → Nat} (hn : 0 < n) (hk : k ≤ 9) (hL : L.length ≤ 900000) (go : gob L t 10 = true) (h11 : R t 11 = some aw) (haw : ∀ i, i ≤ k → gar L aw 51 (znn i) = true) (hq : ∀ i, i ≤ k → R aw i = some (q i) ∧ L[q i]? = some (0, 6) ∧ M (q i) 0 = znn (dW x n i 0)) : g116_l336 t (znn k) (dWx x k) L M R zfu (-1) 0 = some (aI (dA x n k)) := by
  by_cases hx : zshr (dWx x k) 8 &&& 1 = 1
  · have := after_loop (x := dWx x k) (W := dW x n) hk hL go h11 haw hq (fun i => by have := (dW_ok x i hn).2.1; omega) hx k 0 zfu (by omega) (by rw [zfu_eq]; omega)
    unfold dA
    rw [if_pos hx]
    exact this
  · unfold dA
    rw [if_neg hx, zfu_succ, g116_l336]
    by_cases h0 : k = 0
    · subst h0
      rw [if_neg (by decide)]
      rfl
    · rw [if_pos (show (0 : Int32) < znn k by rw [zl0, zn_lt (by decide) (by omega)]; omega), if_neg hx]
      rfl
