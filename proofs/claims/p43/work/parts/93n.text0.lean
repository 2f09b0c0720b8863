-- ===== text(0): THE LAW as drawn =====
theorem text_law {B : ZI} {b : Nat → Nat} {t : Nat} {D : Nat → Nat} (hb : tapB b t) (hB : onB B b t) (hr : restAt b t 0 (lawTx D)) (hD : ∀ q, q < 7 → D q < 100) : ∃ B', f156_text 0 B = some (5, B') ∧ lawTells (B' 149) (fun j => znn (D j)) ∧ (∀ o, o ≠ 148 → o ≠ 149 → o ≠ 153 → o ≠ 154 → B' o = B o) ∧ (∀ j, j ≠ 58 → j < 1178 → B' 149 j = B 149 j) ∧ B' 148 19 = 0 ∧ B' 148 4 = B 148 4 := by
  have hst := law_stream rfl hD hr
  obtain ⟨s, e, hx, hrest⟩ : stream 0 b t ((20, 0) :: (lawToks D).tail) 0 := hst
  have hB6 : onB (zs (zs (zs (zs (zs B 148 26 0) 148 28 (-1)) 148 24 0) 148 20 0) 148 14 0) b t := ⟨by simp only [zs_sm]; exact hB.1, fun i hi => by simp only [zs_df (show (158 : Nat) ≠ 148 by decide)]; exact hB.2 i hi⟩
  obtain ⟨B7, n1, n2, n3, n4, n5, n6, n7⟩ := next_tok hb hB6 (a := 0) (by rw [zs_sm, if_pos rfl]; rfl) (by decide) (i := 0) (by simp only [zs_sm]; rfl) (by omega) hx
  have hP : pT 0 b t B7 (lawToks D) := ⟨⟨by rw [n7 19 (by decide) (by decide) (by decide) (by decide)]; exact hB6.1, fun i hi => by rw [n6 158 (by decide)]; exact hB6.2 i hi⟩, by rw [n7 14 (by decide) (by decide) (by decide) (by decide), zs_sm, if_pos rfl]; rfl, n3, n5, e, hx.2.1, n2, hrest⟩
  obtain ⟨B9, r1, r2, r3, r4⟩ := reads_law hb (by decide) hP
  have h15 : (zs B9 148 19 0) 148 15 = znn 5 := by rw [zs_sm, if_neg (by decide)]; exact r3.2.1
  have h16 : (zs B9 148 19 0) 148 16 = znn 45 := by rw [zs_sm, if_neg (by decide)]; exact r2.2.1
  obtain ⟨B', p1, p2, p3, p4, p5, p6⟩ := puts_law h15 h16 (by decide) (by decide)
  have h149 : B9 149 = B 149 := by rw [r4.1 149 (by decide) (by decide) (by decide), n6 149 (by decide)]; simp only [zs_df (show (149 : Nat) ≠ 148 by decide)]
  refine ⟨B', ?_, ?_, fun o q1 q2 q3 q4 => ?_, fun j q1 q2 => ?_, ?_, ?_⟩
  · unfold f156_text
    simp only [zlet]
    rw [show f149_isIn 0 0 3 = some 1 by decide]
    simp only [Option.bind_some]
    rw [if_neg (by decide), n1]
    simp only [Option.bind_some]
    unfold f167_reads
    rw [if_pos rfl, r1]
    simp only [Option.bind_some]
    rw [if_pos (by decide)]
    simp only [Option.bind_some]
    rw [if_neg (by decide)]
    unfold f192_putsText
    rw [if_pos rfl, p1]
    rfl
  · intro v q1 q2 q3
    refine law_body ⟨q2.trans p3, fun i hi => ?_⟩ (fun j hj => ?_) q3
    · obtain ⟨g1, g2, g3, g4⟩ := p4 i hi
      obtain ⟨l1, l2, l3, l4⟩ := r3.2.2 i hi
      rw [q1 _ (by omega), q1 _ (by omega), q1 _ (by omega), q1 _ (by omega), g1, g2, g3, g4]
      simp only [zs_df (show (153 : Nat) ≠ 148 by decide)]
      exact ⟨l1, l2, l3, l4⟩
    · have hj45 : j < 45 := hj
      obtain ⟨c1, c2⟩ := r2.2.2 j hj
      rw [Nat.zero_add, q1 _ (by omega), q1 _ (by omega), p5 (2 * j) (by omega), show 1245 + 2 * j = 1244 + (2 * j + 1) by omega, p5 (2 * j + 1) (by omega)]
      simp only [zs_df (show (154 : Nat) ≠ 148 by decide)]
      exact ⟨c1, c2⟩
  · rw [p2 o q2, zs_df q1, r4.1 o q1 q3 q4, n6 o q1]
    simp only [zs_df q1]
  · rw [p6 j q1 (by omega), zs_df (by decide), h149]
  · rw [p2 148 (by decide), zs_sm, if_pos rfl]
  · rw [p2 148 (by decide), zs_sm, if_neg (by decide), r4.2 4 (by decide) (by decide) (by decide) (by decide) (by decide) (by decide) (by decide), n7 4 (by decide) (by decide) (by decide) (by decide)]
    simp only [zs_sm]
    rfl
