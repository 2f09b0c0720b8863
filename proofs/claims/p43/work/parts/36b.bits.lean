-- ===== bits of small sets =====
theorem zbit {s i : Nat} (hs : s < 4096) (hi : i < 12) : (zshr (znn s) (znn i) &&& 1) = if s.testBit i = true then 1 else 0 := by
  have h : ∀ q : Fin 4, ∀ s : Fin 1024, ∀ i : Fin 12, (zshr (znn (1024 * q.val + s.val)) (znn i.val) &&& 1) = if (1024 * q.val + s.val).testBit i.val = true then 1 else 0 := by decide +kernel
  have := h ⟨s / 1024, by omega⟩ ⟨s % 1024, Nat.mod_lt _ (by decide)⟩ ⟨i, hi⟩
  rwa [show 1024 * (s / 1024) + s % 1024 = s by omega] at this
theorem isIn_zn {s i : Nat} (hs : s < 4096) (hi : i < 12) : f19_isIn (znn s) (znn i) = some (if s.testBit i = true then 1 else 0) := by
  unfold f19_isIn
  rw [zbit hs hi]
  split <;> rfl
