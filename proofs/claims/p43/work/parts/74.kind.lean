def sk (k : Nat) : Nat := [5, 6, 7, 1, 2, 3, 4, 8, 9, 10, 11, 12, 13, 14, 15, 16, 17, 18, 19, 20, 21, 22, 23, 24].getD k 0
def off : Nat → Nat
  | 0 => 0
  | k + 1 => off k + wl (sk k) + 1
theorem off_fact : ∀ k : Fin 24, 0 < sk k.val ∧ sk k.val ≤ 24 ∧ off k.val + wl (sk k.val) < 122 ∧ zch 0 (znn (off k.val + wl (sk k.val))) = 32 := by decide +kernel
theorem off_char : ∀ k : Fin 24, (List.range (wl (sk k.val))).all (fun i => decide (zch 0 (znn (off k.val + i)) = znn (wc (sk k.val) i)) && decide (znn (wc (sk k.val) i) ≠ 32)) = true := by decide +kernel
theorem off_end : off 24 = 122 ∧ zsln 0 = znn 122 ∧ zsn 0 = 122 := by decide +kernel
/-- the class walks one known word -/
theorem kind_word {M : ZI} {b : Nat → Nat} {t s e k : Nat} (hb : tapB b t) (h : onA M b t) (hse : s ≤ e) (he : e ≤ t) (hk : k < 24) : ∀ d j f fl, j + d = wl (sk k) → (fl = 1 ∧ s + j ≤ e ∧ (∀ i, i < j → b (s + i) = wc (sk k) i) ∨ fl = 0 ∧ wMatch b s e (sk k) = false) →
    f56_l13 119 (znn s) (znn e) M (f + d + 1) (znn (256 + k)) (znn (s + j)) fl (znn (off k + j)) = if wMatch b s e (sk k) = true then some (znn (256 + k)) else f56_l13 119 (znn s) (znn e) M f (znn (256 + (k + 1))) (znn s) 1 (znn (off (k + 1)))
  | 0, j, f, fl, hj, hf => by
    have ht := hb.1
    obtain ⟨o1, o2, o3, o4⟩ := off_fact ⟨k, hk⟩
    simp only at o1 o2 o3 o4
    obtain rfl : j = wl (sk k) := by omega
    rw [f56_l13, off_end.2.1, if_pos ((zn_lt (by omega) (by decide)).mpr o3), if_pos (show zin (znn (off k + wl (sk k))) (zsn 0) = true by rw [off_end.2.2]; exact (zn_zin (by omega)).mpr o3), zlet_e, o4, if_pos rfl, zlet_e, zadd1, zadd1]
    rcases hf with ⟨rfl, h1, h2⟩ | ⟨rfl, h1⟩
    · rw [if_neg (show ¬ (1 : Int32) = 0 by decide)]
      by_cases hc : s + wl (sk k) = e
      · rw [if_pos (show znn (s + wl (sk k)) = znn e by rw [hc]), if_pos]
        unfold wMatch
        simp only [Bool.and_eq_true, decide_eq_true_eq, List.all_eq_true, List.mem_range]
        exact ⟨by omega, h2⟩
      · rw [if_neg (show ¬ znn (s + wl (sk k)) = znn e by rw [zn_eq (by omega) (by omega)]; exact hc), if_neg (show ¬ wMatch b s e (sk k) = true by
          unfold wMatch
          rw [decide_eq_false (show ¬ e - s = wl (sk k) by omega), Bool.false_and]
          exact Bool.false_ne_true)]
        rfl
    · rw [if_pos rfl, if_neg (by rw [h1]; decide)]
      rfl
  | d + 1, j, f, fl, hj, hf => by
    have ht := hb.1
    obtain ⟨o1, o2, o3, o4⟩ := off_fact ⟨k, hk⟩
    simp only at o1 o2 o3 o4
    have hjl : j < wl (sk k) := by omega
    have oc := List.all_eq_true.mp (off_char ⟨k, hk⟩) j (List.mem_range.mpr hjl)
    simp only [Bool.and_eq_true, decide_eq_true_eq] at oc
    obtain ⟨c1, c2⟩ := oc
    obtain ⟨-, c3⟩ := word_ch o1 o2 hjl
    have ih := fun fl => kind_word hb h hse he hk d (j + 1) f fl (by omega)
    rw [show f + (d + 1) + 1 = (f + d + 1) + 1 by omega, f56_l13, off_end.2.1, if_pos ((zn_lt (by omega) (by decide)).mpr (by omega)), if_pos (show zin (znn (off k + j)) (zsn 0) = true by rw [off_end.2.2]; exact (zn_zin (by omega)).mpr (by omega)), zlet_e, c1, if_neg c2, zadd1, zadd1]
    rcases hf with ⟨rfl, h1, h2⟩ | ⟨rfl, h1⟩
    · rw [if_neg (show ¬ (1 : Int32) = 0 by decide)]
      by_cases hlt : s + j < e
      · have hx := hb.2 (s + j) (by omega)
        rw [if_pos ((zn_lt (by omega) (by omega)).mpr hlt), if_pos ((zn_zin (by omega)).mpr (by omega)), zn_zi (by omega), show M (119 + 1) (s + j) = znn (b (s + j)) from h.2 _ (by omega)]
        by_cases hc : b (s + j) = wc (sk k) j
        · rw [if_pos (show znn (b (s + j)) = znn (wc (sk k) j) by rw [hc])]
          exact ih 1 (Or.inl ⟨rfl, by omega, fun i hi => by
            by_cases hij : i = j
            · rw [hij]; exact hc
            · exact h2 i (by omega)⟩)
        · rw [if_neg (show ¬ znn (b (s + j)) = znn (wc (sk k) j) by rw [zn_eq (by omega) (by omega)]; exact hc)]
          refine ih 0 (Or.inr ⟨rfl, ?_⟩)
          apply Bool.eq_false_iff.mpr
          intro hm
          unfold wMatch at hm
          simp only [Bool.and_eq_true, decide_eq_true_eq, List.all_eq_true, List.mem_range] at hm
          exact hc (hm.2 j hjl)
      · rw [if_neg (show ¬ znn (s + j) < znn e by rw [zn_lt (by omega) (by omega)]; exact hlt)]
        refine ih 0 (Or.inr ⟨rfl, ?_⟩)
        unfold wMatch
        rw [decide_eq_false (show ¬ e - s = wl (sk k) by omega)]
        rfl
    · rw [if_pos rfl]
      exact ih 0 (Or.inr ⟨rfl, h1⟩)
/-- the first of the known words from the k-th on that the bytes are -/
def kindOf (b : Nat → Nat) (s e : Nat) : Nat → Nat → Int32
  | 0, _ => -3
  | d + 1, k => if wMatch b s e (sk k) = true then znn (256 + k) else kindOf b s e d (k + 1)
theorem kind_cls {M : ZI} {b : Nat → Nat} {t s e : Nat} (hb : tapB b t) (h : onA M b t) (hse : s ≤ e) (he : e ≤ t) : ∀ d k f, k + d = 24 → 122 < f + off k → f56_l13 119 (znn s) (znn e) M f (znn (256 + k)) (znn s) 1 (znn (off k)) = some (kindOf b s e d k)
  | 0, k, f, hk, hf => by
    obtain rfl : k = 24 := by omega
    rw [off_end.1] at hf ⊢
    obtain ⟨f, rfl⟩ : ∃ g, f = g + 1 := ⟨f - 1, by omega⟩
    rw [f56_l13, off_end.2.1, if_neg (by decide)]
    rfl
  | d + 1, k, f, hk, hf => by
    obtain ⟨o1, o2, o3, o4⟩ := off_fact ⟨k, by omega⟩
    simp only at o1 o2 o3 o4
    obtain ⟨g, rfl⟩ : ∃ g, f = g + wl (sk k) + 1 := ⟨f - wl (sk k) - 1, by omega⟩
    have := kind_word hb h hse he (show k < 24 by omega) (wl (sk k)) 0 g 1 (by omega) (Or.inl ⟨rfl, by omega, fun i hi => by omega⟩)
    rw [show s + 0 = s from rfl, show off k + 0 = off k from rfl] at this
    rw [this, kindOf]
    by_cases hc : wMatch b s e (sk k) = true
    · rw [if_pos hc, if_pos hc]
    · rw [if_neg hc, if_neg hc]
      exact kind_cls hb h hse he d (k + 1) g (by omega) (by
        have : off (k + 1) = off k + wl (sk k) + 1 := rfl
        omega)
theorem word_cls {M : ZI} {b : Nat → Nat} {t s e : Nat} (hb : tapB b t) (h : onA M b t) (hse : s ≤ e) (he : e ≤ t) : f56_wordKind 119 (znn s) (znn e) M = some (kindOf b s e 24 0) := by
  have := kind_cls hb h hse he 24 0 zfu rfl (by rw [zfu_eq]; omega)
  unfold f56_wordKind
  exact this
