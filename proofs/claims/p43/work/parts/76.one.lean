theorem word_diff : ∀ k : Fin 25, ∀ q : Fin 25, 0 < k.val → 0 < q.val → k.val = q.val ∨ wl k.val ≠ wl q.val ∨ (List.range (wl k.val)).any (fun i => decide (wc k.val i ≠ wc q.val i)) = true := by decide +kernel
/-- the bytes are one known word at most -/
theorem one_word {b : Nat → Nat} {s e k q : Nat} (hk0 : 0 < k) (hk : k ≤ 24) (hq0 : 0 < q) (hq : q ≤ 24) (h1 : wMatch b s e k = true) (h2 : wMatch b s e q = true) : k = q := by
  unfold wMatch at h1 h2
  simp only [Bool.and_eq_true, decide_eq_true_eq, List.all_eq_true, List.mem_range] at h1 h2
  rcases word_diff ⟨k, by omega⟩ ⟨q, by omega⟩ hk0 hq0 with h | h | h
  · exact h
  · exact absurd (h1.1.symm.trans h2.1) h
  · obtain ⟨i, hi, hd⟩ := List.any_eq_true.mp h
    have hi : i < wl k := List.mem_range.mp hi
    simp only [decide_eq_true_eq] at hd
    have e : wl k = wl q := h1.1.symm.trans h2.1
    exact absurd ((h1.2 i hi).symm.trans (h2.2 i (by omega))) hd
theorem kind_at {b : Nat → Nat} {s e : Nat} : ∀ d k, k + d = 24 → ∀ q, k ≤ q → q < 24 → wMatch b s e (sk q) = true → kindOf b s e d k = znn (256 + q)
  | 0, k, h, q, h1, h2, _ => by omega
  | d + 1, k, h, q, h1, h2, hm => by
    unfold kindOf
    by_cases hc : wMatch b s e (sk k) = true
    · obtain ⟨o1, o2, -⟩ := off_fact ⟨k, by omega⟩
      obtain ⟨p1, p2, -⟩ := off_fact ⟨q, h2⟩
      have hkq := one_word o1 o2 p1 p2 hc hm
      have inj : ∀ k : Fin 24, ∀ q : Fin 24, sk k.val = sk q.val → k = q := by decide +kernel
      have := congrArg Fin.val (inj ⟨k, by omega⟩ ⟨q, h2⟩ hkq)
      simp only at this
      rw [if_pos hc, this]
    · rw [if_neg hc]
      have hne : k ≠ q := fun hkq => hc (by rw [hkq]; exact hm)
      exact kind_at d (k + 1) (by omega) q (by omega) h2 hm
theorem kind_none {b : Nat → Nat} {s e : Nat} : ∀ d k, k + d = 24 → (∀ q, k ≤ q → q < 24 → wMatch b s e (sk q) = false) → kindOf b s e d k = -3
  | 0, _, _, _ => rfl
  | d + 1, k, h, hn => by
    unfold kindOf
    rw [if_neg (by rw [hn k (Nat.le_refl _) (by omega)]; exact Bool.false_ne_true)]
    exact kind_none d (k + 1) (by omega) (fun q h1 h2 => hn q (by omega) h2)
