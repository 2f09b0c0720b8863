-- ===== the law: all that is left is text =====
def zBL : List (Nat × Nat × Int32) := (List.range 150).flatMap fun i => [(8, i, 0), (9, i, 0), (10, i, 0), (11, i, 0), (149, 578 + 4 * i, 0), (149, 579 + 4 * i, 0), (149, 580 + 4 * i, 0), (149, 581 + 4 * i, 0)]
def zB0 (M : ZI) : Prop := ∀ z ∈ zBL, M z.1 z.2.1 = z.2.2
theorem first_book {M : ZI} (h : zB0 M) : bookIs M 7 (M 149) := by
  intro i hi
  have g : ∀ z, z ∈ [(8, i, (0 : Int32)), (9, i, 0), (10, i, 0), (11, i, 0), (149, 578 + 4 * i, 0), (149, 579 + 4 * i, 0), (149, 580 + 4 * i, 0), (149, 581 + 4 * i, 0)] → M z.1 z.2.1 = z.2.2 := fun z hz => h z (List.mem_flatMap.mpr ⟨i, List.mem_range.mpr hi, hz⟩)
  have e1 : M 8 i = 0 := g (8, i, 0) (by simp)
  have e2 : M 9 i = 0 := g (9, i, 0) (by simp)
  have e3 : M 10 i = 0 := g (10, i, 0) (by simp)
  have e4 : M 11 i = 0 := g (11, i, 0) (by simp)
  have f1 : M 149 (578 + 4 * i) = 0 := g (149, 578 + 4 * i, 0) (by simp)
  have f2 : M 149 (579 + 4 * i) = 0 := g (149, 579 + 4 * i, 0) (by simp)
  have f3 : M 149 (580 + 4 * i) = 0 := g (149, 580 + 4 * i, 0) (by simp)
  have f4 : M 149 (581 + 4 * i) = 0 := g (149, 581 + 4 * i, 0) (by simp)
  exact ⟨e1.trans f1.symm, e2.trans f2.symm, e3.trans f3.symm, e4.trans f4.symm⟩
theorem first_Inv {M : ZI} (h : zI0 M) (hb : zB0 M) : Inv2 M M := by
  have g : ∀ z, zIL.contains z = true → M z.1 z.2.1 = z.2.2 := fun z hz => h z (List.contains_iff_mem.mp hz)
  have w0 : M 149 0 = 0 := g (149, 0, 0) (by decide)
  have w1 : M 149 1 = 0 := g (149, 1, 0) (by decide)
  have w2 : M 149 2 = 0 := g (149, 2, 0) (by decide)
  have w3 : M 149 3 = 0 := g (149, 3, 0) (by decide)
  have w4 : M 149 4 = 0 := g (149, 4, 0) (by decide)
  have w5 : M 149 5 = 0 := g (149, 5, 0) (by decide)
  have w6 : M 149 6 = 0 := g (149, 6, 0) (by decide)
  have w48 : M 149 48 = 0 := g (149, 48, 0) (by decide)
  have w49 : M 149 49 = 2 := g (149, 49, 2) (by decide)
  have w50 : M 149 50 = 12 := g (149, 50, 12) (by decide)
  have w51 : M 149 51 = 0 := g (149, 51, 0) (by decide)
  have w52 : M 149 52 = 0 := g (149, 52, 0) (by decide)
  have w53 : M 149 53 = 0 := g (149, 53, 0) (by decide)
  have w54 : M 149 54 = 0 := g (149, 54, 0) (by decide)
  have w55 : M 149 55 = 0 := g (149, 55, 0) (by decide)
  have w56 : M 149 56 = 0 := g (149, 56, 0) (by decide)
  have w57 : M 149 57 = 0 := g (149, 57, 0) (by decide)
  have w58 : M 149 58 = 0 := g (149, 58, 0) (by decide)
  have zz : zi (0 : Int32) = 0 := rfl
  have hfix : fixIs M 1 (M 149) 0 0 0 0 := by
    refine ⟨⟨⟨?_, ?_, ?_, ?_, ?_⟩, fun p hp => by omega⟩, ⟨?_, ?_, fun j hj => by omega, fun i hi => ?_⟩, ⟨?_, fun i hi => by omega⟩, ⟨?_, ?_, fun j hj => ?_⟩, ⟨?_, fun i hi => by omega⟩⟩
    · rw [w48]; exact g (1, 11, 0) (by decide)
    · rw [w49]; exact g (1, 12, 2) (by decide)
    · rw [w50]; exact g (1, 13, 12) (by decide)
    · rw [w56]; exact g (1, 14, 0) (by decide)
    · rw [w57]; exact g (1, 15, 0) (by decide)
    · rw [w58]; exact g (12, 5, 0) (by decide)
    · exact g (13, 3, 0) (by decide)
    · rw [w58, zz] at hi; omega
    · rw [w52]; exact g (21, 6, 0) (by decide)
    · rw [w53]; exact g (29, 1, 0) (by decide)
    · rw [w54]; exact g (30, 3, 0) (by decide)
    · rw [w54, zz] at hj; omega
    · rw [w55]; exact g (34, 2, 0) (by decide)
  have hok : fixOk (M 149) 0 0 0 0 := by
    refine ⟨⟨by decide, w48, ⟨2, by decide, w49⟩, ⟨12, by decide, by decide, w50⟩, ⟨0, by decide, w56⟩, ⟨0, by decide, w57⟩, w51, fun p hp => by omega⟩, ⟨by decide, 0, by decide, w58, fun i hi => by omega⟩, ⟨by decide, w52, fun i hi => by omega⟩, ⟨0, by decide, w54, ⟨fun _ => w53, fun _ => rfl⟩, fun j hj => by omega, fun S hS => Or.inl rfl⟩, by decide, w55⟩
  refine ⟨0, 0, 0, 0, ⟨hfix, hok, ⟨⟨?_, ?_, ?_, ?_, ?_, ?_, ?_⟩, fun p hp => by omega⟩, ⟨⟨0, by decide, w1⟩, ⟨0, by decide, w0, fun p hp => by omega⟩, ⟨0, by decide, w5⟩, ⟨0, by decide, w6⟩, fun p hp => by omega⟩, first_book hb⟩, ⟨0, 0, by decide, by decide, g (0, 4, 0) (by decide), g (0, 5, 0) (by decide), g (148, 4, 0) (by decide), fun j hj => by omega⟩, ⟨?_, Or.inl (g (0, 2, 0) (by decide))⟩, ⟨0, by decide, g (119, 1, 0) (by decide), g (148, 19, 0) (by decide), fun i hi => by omega, ?_, ?_⟩⟩
  · rw [w1]; exact g (2, 4, 0) (by decide)
  · rw [w0]; exact g (2, 5, 0) (by decide)
  · rw [w2]; exact g (2, 6, 0) (by decide)
  · rw [w3]; exact g (2, 7, 0) (by decide)
  · rw [w6]; exact g (2, 8, 0) (by decide)
  · rw [w4]; exact g (2, 9, 0) (by decide)
  · rw [w5]; exact g (2, 10, 0) (by decide)
  · exact (g (0, 2, 0) (by decide)).trans (g (148, 5, 0) (by decide)).symm
  · exact (g (119, 10, 0) (by decide)).trans (g (148, 26, 0) (by decide)).symm
  · exact (g (119, 11, -1) (by decide)).trans (g (148, 28, -1) (by decide)).symm
