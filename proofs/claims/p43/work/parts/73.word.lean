def wl (k : Nat) : Nat := zsn k
def wc (k i : Nat) : Nat := zi (zch k (znn i))
theorem word_fact : ∀ k : Fin 25, 0 < k.val → zsln k.val = znn (wl k.val) ∧ wl k.val ≤ 20 := by decide +kernel
theorem word_char : ∀ k : Fin 25, 0 < k.val → (List.range (wl k.val)).all (fun i => decide (zch k.val (znn i) = znn (wc k.val i)) && decide (wc k.val i < 256)) = true := by decide +kernel
theorem word_ch {k i : Nat} (h0 : 0 < k) (hk : k ≤ 24) (hi : i < wl k) : zch k (znn i) = znn (wc k i) ∧ wc k i < 256 := by
  have := List.all_eq_true.mp (word_char ⟨k, by omega⟩ h0) i (List.mem_range.mpr hi)
  simpa using this
/-- the bytes from s to e are the k-th word -/
def wMatch (b : Nat → Nat) (s e k : Nat) : Bool := decide (e - s = wl k) && (List.range (wl k)).all fun i => decide (b (s + i) = wc k i)
theorem is_ref {M : ZI} {b : Nat → Nat} {t s e k : Nat} (hb : tapB b t) (h : onB M b t) (h20 : M 148 20 = znn e) (h22 : M 148 22 = znn s) (hse : s ≤ e) (he : e ≤ t) (h0 : 0 < k) (hk : k ≤ 24) : f162_is k M = some (if wMatch b s e k = true then 1 else 0) := by
  have ht := hb.1
  obtain ⟨w1, w2⟩ := word_fact ⟨k, by omega⟩ h0
  simp only at w1 w2
  have run : ∀ v1, (v1 = 1 ∧ e - s = wl k) ∨ (v1 = 0 ∧ ¬ e - s = wl k) → f162_l24 k M zfu v1 0 = some (if wMatch b s e k = true then 1 else 0) := by
    intro v1 hv1
    obtain ⟨r, g1, g2⟩ := zloop (fun f (a : Int32) c => f162_l24 k M f a c) (wl k) (fun i a => (a = 1 ∧ e - s = wl k ∧ ∀ j, j < i → b (s + j) = wc k j) ∨ (a = 0 ∧ wMatch b s e k = false)) (fun a => a = if wMatch b s e k = true then 1 else 0) (fun f i a hi ha => by
      (try dsimp only)
      have lt : znn i < znn (wl k) := (zn_lt (by omega) (by omega)).mpr hi
      rcases ha with ⟨rfl, q1, q2⟩ | ⟨rfl, q1⟩
      · left
        obtain ⟨c1, c2⟩ := word_ch h0 hk hi
        have hx := hb.2 (s + i) (by omega)
        rw [f162_l24, w1, if_pos lt, if_neg (show ¬ (1 : Int32) = 0 by decide), h22, zn_add, if_pos ((zn_zin (by omega)).mpr (by omega)), if_pos (show zin (znn i) (zsn k) = true from (zn_zin (show i < 2147483648 by omega)).mpr hi), zn_zi (by omega), h.2 _ (by omega), c1, zadd1]
        by_cases hc : b (s + i) = wc k i
        · rw [if_pos (by rw [hc])]
          refine ⟨1, Or.inl ⟨rfl, q1, fun j hj => ?_⟩, rfl⟩
          by_cases hji : j = i
          · rw [hji]; exact hc
          · exact q2 j (by omega)
        · rw [if_neg (by rw [zn_eq (by omega) (by omega)]; exact hc)]
          refine ⟨0, Or.inr ⟨rfl, ?_⟩, rfl⟩
          apply Bool.eq_false_iff.mpr
          intro hm
          unfold wMatch at hm
          simp only [Bool.and_eq_true, decide_eq_true_eq, List.all_eq_true, List.mem_range] at hm
          exact hc (hm.2 i hi)
      · right
        refine ⟨0, by rw [q1]; rfl, ?_⟩
        rw [f162_l24, w1, if_pos lt, if_pos rfl]) (fun f a ha => by
      (try dsimp only)
      have hng : ¬ znn (wl k) < znn (wl k) := by rw [zn_lt (by omega) (by omega)]; omega
      refine ⟨a, ?_, by rw [f162_l24, w1, if_neg hng]⟩
      rcases ha with ⟨rfl, q1, q2⟩ | ⟨rfl, q1⟩
      · rw [if_pos]
        unfold wMatch
        simp only [Bool.and_eq_true, decide_eq_true_eq, List.all_eq_true, List.mem_range]
        exact ⟨q1, q2⟩
      · rw [q1]; rfl) zfu 0 v1 (Nat.zero_le _) (by rw [zfu_eq]; omega) (by
      rcases hv1 with ⟨rfl, q⟩ | ⟨rfl, q⟩
      · exact Or.inl ⟨rfl, q, fun j hj => by omega⟩
      · refine Or.inr ⟨rfl, ?_⟩
        unfold wMatch
        rw [decide_eq_false q]
        rfl)
    subst g2
    exact g1
  unfold f162_is
  rw [h20, h22, w1, zn_sub hse]
  by_cases hc : e - s = wl k
  · rw [if_pos (show znn (e - s) = znn (wl k) by rw [hc]), Option.bind_some, run 1 (Or.inl ⟨rfl, hc⟩), Option.bind_some]
    cases wMatch b s e k <;> rfl
  · rw [if_neg (show ¬ znn (e - s) = znn (wl k) by rw [zn_eq (by omega) (by omega)]; exact hc), Option.bind_some, run 0 (Or.inr ⟨rfl, hc⟩), Option.bind_some]
    cases wMatch b s e k <;> rfl
