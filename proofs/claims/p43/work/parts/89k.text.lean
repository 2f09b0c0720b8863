-- ===== text =====
def badB (B : ZI) : ZI := zs (zs (zs B 148 19 0) 148 26 ((zs B 148 19 0) 148 24)) 148 28 ((zs (zs B 148 19 0) 148 26 ((zs B 148 19 0) 148 24)) 148 25)
theorem text_bad {A A' B B' : ZI} (hI : Inv2 A B) (hA : KA A A') (hB : KB B B') (a10 : A' 119 10 = B' 148 24) (a11 : A' 119 11 = B' 148 25) : Inv2 A' (badB B') := by
  unfold badB
  refine Inv2_text hI hA.1 (fun o o1 o2 => by rw [zs_df o1, zs_df o1, zs_df o1]; exact hB.1 o o1 o2) ?_ ?_ hA.2 ?_ ?_ ?_
  · rw [zs_sm, if_neg (by decide), zs_sm, if_neg (by decide), zs_sm, if_neg (by decide)]; exact hB.2.2.2.1
  · rw [zs_sm, if_neg (by decide), zs_sm, if_neg (by decide), zs_sm, if_neg (by decide)]; exact hB.2.2.2.2
  · rw [zs_sm, if_neg (by decide), zs_sm, if_neg (by decide), zs_sm, if_pos rfl]
  · rw [zs_sm, if_neg (by decide), zs_sm, if_pos rfl, zs_sm, if_neg (by decide)]; exact a10
  · rw [zs_sm, if_pos rfl, zs_sm, if_neg (by decide), zs_sm, if_neg (by decide)]; exact a11
def refTail (a1 : Int32) (p : Int32 × ZI) : Option (Int32 × ZI) := match p with | (v8, M9) => zlet (zs M9 148 19 (0 : Int32)) fun (M10 : ZI) => (if v8 = 0 then zlet (zs M10 148 26 (M10 148 24)) fun (M11 : ZI) => zlet (zs M11 148 28 (M11 148 25)) fun (M12 : ZI) => some ((-1 : Int32), M12) else (f192_putsText a1 M10).bind fun (v13, M14) => some (v13, M14))
theorem refTail_0 (a1 : Int32) (B : ZI) : refTail a1 (0, B) = some (-1, badB B) := by
  unfold refTail badB
  dsimp only
  rw [zlet_e, if_pos rfl, zlet_e, zlet_e]
theorem refTail_1 (a1 : Int32) (B : ZI) : refTail a1 (1, B) = (f192_putsText a1 (zs B 148 19 0)).bind fun (v13, M14) => some (v13, M14) := by
  unfold refTail
  dsimp only
  rw [zlet_e, if_neg (by decide)]
theorem text_in {a : Nat} {B B1 : ZI} (ha : a ≤ 3) (e : f157_next0 (zs (zs (zs (zs (zs B 148 26 0) 148 28 (-1)) 148 24 0) 148 20 0) 148 14 (znn a)) = some B1) : f156_text (znn a) B = (f167_reads (znn a) B1).bind (refTail (znn a)) := by
  unfold f156_text
  rw [zlet_e, zlet_e]
  unfold f149_isIn
  rw [if_neg (zn_nneg (by omega)), if_neg (show ¬ (3 : Int32) < znn a by rw [zl3, zn_lt (by decide) (by omega)]; omega), Option.bind_some, if_neg (show ¬ (1 : Int32) = 0 by decide), zlet_e, zlet_e, zlet_e, e, Option.bind_some]
  rfl
theorem sync_text (x : Int32) : sync (f52_text x) (f156_text x) := by
  rintro A B ⟨n, k, c, b, h0, h6, h7, h8⟩
  have hI : Inv2 A B := ⟨n, k, c, b, h0, h6, h7, h8⟩
  obtain ⟨by0, t, hb, hA, hB⟩ := tape_b h8
  have h48 : B 149 48 = znn n := h0.2.1.1.2.1
  have h11 : A 1 11 = znn n := h0.1.1.1.1.trans h48
  have hn : n ≤ 10 := h0.2.1.1.1
  by_cases hx : ∃ a, a ≤ 3 ∧ x = znn a
  case neg =>
    have n0 : ¬ x = 0 := fun h => hx ⟨0, by decide, h⟩
    have n1 : ¬ x = 1 := fun h => hx ⟨1, by decide, h⟩
    have n2 : ¬ x = 2 := fun h => hx ⟨2, by decide, h⟩
    have n3 : ¬ x = 3 := fun h => hx ⟨3, by decide, h⟩
    obtain ⟨A1, N, e1, e2, e3, e4, e5, e6⟩ := begin_cls hb hA (A 1 11)
    have hin : f149_isIn x 0 3 = some 0 := by
      unfold f149_isIn
      by_cases h1 : x < 0
      · rw [if_pos h1]
      · rw [if_neg h1]
        by_cases h2 : (3 : Int32) < x
        · rw [if_pos h2]
        · exfalso
          refine hx ⟨zi x, ?_, (zi_zn h1).symm⟩
          have hxi : zi x < 2147483648 := Int32.toNatClampNeg_lt x
          rw [← zi_zn h1, zl3, zn_lt (show 3 < 2147483648 by decide) hxi] at h2
          omega
    refine ⟨-1, A1, zs (zs (zs B 148 26 0) 148 28 (-1)) 148 19 0, ?_, ?_, Inv2_text hI (fun o ho => e6 o (by omega) (by omega) (by omega) (by omega)) (fun o o1 o2 => by rw [zs_df o1, zs_df o1, zs_df o1]) ?_ ?_ e5 ?_ ?_ ?_, fun o ho => e6 o (by omega) (by omega) (by omega) (by omega), fun o ho => by rw [zs_df (by omega), zs_df (by omega), zs_df (by omega)]⟩
    · unfold f52_text
      rw [e1, Option.bind_some, if_neg n0, if_neg n1, if_neg n2, if_neg n3]
    · unfold f156_text
      rw [zlet_e, zlet_e, hin, Option.bind_some, if_pos rfl, zlet_e]
    · rw [zs_sm, if_neg (by decide), zs_sm, if_neg (by decide), zs_sm, if_neg (by decide)]
    · rw [zs_sm, if_neg (by decide), zs_sm, if_neg (by decide), zs_sm, if_neg (by decide)]
    · rw [zs_sm, if_pos rfl]
    · rw [zs_sm, if_neg (by decide), zs_sm, if_neg (by decide), zs_sm, if_pos rfl]; exact e4.2.2.2.1
    · rw [zs_sm, if_neg (by decide), zs_sm, if_pos rfl]; exact e4.2.2.2.2
  obtain ⟨a, ha, rfl⟩ := hx
  obtain ⟨A1, B1, N, e1, e2, hC, hP, t1, t2, t3, t4, t5, t6, t7⟩ := text_begin hb hA hB h11 h48 hn ha
  have kA : ∀ A', frA A1 A' → KA A A' := fun A' h => KA_of t1 t2 h
  have kB : ∀ B', frB B1 B' → KB B B' := fun B' h => KB_of t3 t4 t5 t6 t7 h
  have bad : ∀ A' B', Bad A1 B1 A' B' → Inv2 A' (badB B') ∧ (∀ o, 148 ≤ o → A' o = A o) ∧ ∀ o, o < 148 → (badB B') o = B o := by
    intro A' B' h
    refine ⟨text_bad hI (kA A' h.1) (kB B' h.2.1) h.2.2.1 h.2.2.2, fun o ho => (kA A' h.1).1 o (by omega), fun o ho => ?_⟩
    unfold badB
    rw [zs_df (by omega), zs_df (by omega), zs_df (by omega)]
    exact (kB B' h.2.1).1 o (by omega) (by omega)
  have hcl : ∀ r, f52_text (znn a) A = r ↔ (if znn a = (0 : Int32) then (f69_readLaw 119 A1).bind fun (v2, M3) => (if v2 = 0 then some ((-1 : Int32), M3) else (f81_copy 12 124 M3).bind fun M4 => some ((M4 12 5), M4)) else if znn a = (1 : Int32) then (f83_readVoices 119 A1).bind fun (v5, M6) => (if v5 = 0 then some ((-1 : Int32), M6) else (f11_forgetPasts M6).bind fun M7 => zlet (zc M7 39 133 0 0 10) fun (M8 : ZI) => (f84_voices 1 M8).bind fun v9 => some (v9, M8)) else if znn a = (2 : Int32) then (f85_readWorks 119 A1).bind fun (v10, M11) => (if v10 = 0 then some ((-1 : Int32), M11) else (f11_forgetPasts M11).bind fun M12 => (f88_copy 21 134 M12).bind fun M13 => zlet (zs M13 2 8 (0 : Int32)) fun (M14 : ZI) => some ((M14 21 6), M14)) else if znn a = (3 : Int32) then (f89_readCouncil 119 A1).bind fun (v15, M16) => (if v15 = 0 then some ((-1 : Int32), M16) else (f90_copy 29 142 M16).bind fun M17 => some ((M17 29 1), M17)) else some ((-1 : Int32), A1)) = r := by
    intro r
    unfold f52_text
    rw [e1, Option.bind_some]
  have hrf := text_in ha e2
  have h4 : a = 0 ∨ a = 1 ∨ a = 2 ∨ a = 3 := by omega
  have h10 : ¬ (1 : Int32) = 0 := by decide
  rcases h4 with rfl | rfl | rfl | rfl
  · rcases law_read hC hP with ⟨A', B', r1, r2, r3⟩ | ⟨A', B', r1, r2, m, L, c', q1, q2, q3, q4, q5, q6, q7⟩
    · obtain ⟨b1, b2, b3⟩ := bad A' B' r3
      refine ⟨-1, A', badB B', (hcl _).mpr ?_, ?_, b1, b2, b3⟩
      · rw [if_pos (show znn 0 = 0 from rfl), r1]
        rfl
      · rw [hrf]
        unfold f167_reads
        rw [if_pos (show znn 0 = 0 from rfl), r2]
        exact refTail_0 (znn 0) _
    · obtain ⟨A2, B2, f1, f2, f3, f4, f5, f6⟩ := end_law h0 h6 h7 (kA A' q1.1.1) (kB B' q1.1.2.1) q1.2.1.2.2.2.1 q1.2.1.2.2.2.2 q2 q3 q4 q5 q6 q7
      refine ⟨znn L, A2, B2, (hcl _).mpr ?_, ?_, f4, f5, f6⟩
      · rw [if_pos (show znn 0 = 0 from rfl), r1, Option.bind_some]
        dsimp only
        rw [if_neg h10, f1, Option.bind_some, f2]
      · rw [hrf]
        unfold f167_reads
        rw [if_pos (show znn 0 = 0 from rfl), r2, Option.bind_some]
        dsimp only
        rw [if_pos (show zbl (1 : Int32) = true from rfl), Option.bind_some, refTail_1]
        unfold f192_putsText
        rw [if_pos (show znn 0 = 0 from rfl), f3]
        rfl
  · rcases voice_read hC hP with ⟨A', B', r1, r2, r3⟩ | ⟨A', B', r1, r2, m, q1, q2⟩
    · obtain ⟨b1, b2, b3⟩ := bad A' B' r3
      refine ⟨-1, A', badB B', (hcl _).mpr ?_, ?_, b1, b2, b3⟩
      · rw [if_neg (show ¬ znn 1 = 0 by decide), if_pos (show znn 1 = 1 from rfl), r1]
        rfl
      · rw [hrf]
        unfold f167_reads
        rw [if_neg (show ¬ znn 1 = 0 by decide), if_pos (show znn 1 = 1 from rfl), r2]
        exact refTail_0 (znn 1) _
    · obtain ⟨A2, B2, v, f1, f3, f4, f5, f6⟩ := end_voices h0 h6 h7 (kA A' q1.1.1) (kB B' q1.1.2.1) q1.2.1.2.2.2.1 q1.2.1.2.2.2.2 q2
      refine ⟨v, A2, B2, (hcl _).mpr ?_, ?_, f4, f5, f6⟩
      · rw [if_neg (show ¬ znn 1 = 0 by decide), if_pos (show znn 1 = 1 from rfl), r1, Option.bind_some]
        dsimp only
        rw [if_neg h10]
        exact f1
      · rw [hrf]
        unfold f167_reads
        rw [if_neg (show ¬ znn 1 = 0 by decide), if_pos (show znn 1 = 1 from rfl), r2, Option.bind_some]
        dsimp only
        rw [if_pos (show zbl (1 : Int32) = true from rfl), Option.bind_some, refTail_1]
        unfold f192_putsText
        rw [if_neg (show ¬ znn 1 = 0 by decide), if_pos (show znn 1 = 1 from rfl), f3]
        rfl
  · rcases work_read hC hP with ⟨A', B', r1, r2, r3⟩ | ⟨A', B', r1, r2, m, k', q1, q2⟩
    · obtain ⟨b1, b2, b3⟩ := bad A' B' r3
      refine ⟨-1, A', badB B', (hcl _).mpr ?_, ?_, b1, b2, b3⟩
      · rw [if_neg (show ¬ znn 2 = 0 by decide), if_neg (show ¬ znn 2 = 1 by decide), if_pos (show znn 2 = 2 from rfl), r1]
        rfl
      · rw [hrf]
        unfold f167_reads
        rw [if_neg (show ¬ znn 2 = 0 by decide), if_neg (show ¬ znn 2 = 1 by decide), if_pos (show znn 2 = 2 from rfl), r2]
        exact refTail_0 (znn 2) _
    · obtain ⟨A2, B2, v, f1, f3, f4, f5, f6⟩ := end_works h0 h6 h7 (kA A' q1.1.1) (kB B' q1.1.2.1) q1.2.1.2.2.2.1 q1.2.1.2.2.2.2 q2
      refine ⟨v, A2, B2, (hcl _).mpr ?_, ?_, f4, f5, f6⟩
      · rw [if_neg (show ¬ znn 2 = 0 by decide), if_neg (show ¬ znn 2 = 1 by decide), if_pos (show znn 2 = 2 from rfl), r1, Option.bind_some]
        dsimp only
        rw [if_neg h10]
        exact f1
      · rw [hrf]
        unfold f167_reads
        rw [if_neg (show ¬ znn 2 = 0 by decide), if_neg (show ¬ znn 2 = 1 by decide), if_pos (show znn 2 = 2 from rfl), r2, Option.bind_some]
        dsimp only
        rw [if_pos (show zbl (1 : Int32) = true from rfl), Option.bind_some, refTail_1]
        unfold f192_putsText
        rw [if_neg (show ¬ znn 2 = 0 by decide), if_neg (show ¬ znn 2 = 1 by decide), if_pos (show znn 2 = 2 from rfl), f3]
        rfl
  · rcases council_read hC hP with ⟨A', B', r1, r2, r3⟩ | ⟨A', B', r1, r2, m, c', q1, q2, q3, q4⟩
    · obtain ⟨b1, b2, b3⟩ := bad A' B' r3
      refine ⟨-1, A', badB B', (hcl _).mpr ?_, ?_, b1, b2, b3⟩
      · rw [if_neg (show ¬ znn 3 = 0 by decide), if_neg (show ¬ znn 3 = 1 by decide), if_neg (show ¬ znn 3 = 2 by decide), if_pos (show znn 3 = 3 from rfl), r1]
        rfl
      · rw [hrf]
        unfold f167_reads
        rw [if_neg (show ¬ znn 3 = 0 by decide), if_neg (show ¬ znn 3 = 1 by decide), if_neg (show ¬ znn 3 = 2 by decide), r2]
        exact refTail_0 (znn 3) _
    · obtain ⟨A2, B2, v, f1, f2, f3, f4, f5, f6⟩ := end_council h0 h6 h7 (kA A' q1.1.1) (kB B' q1.1.2.1) q1.2.1.2.2.2.1 q1.2.1.2.2.2.2 q2 q3 q4
      refine ⟨v, A2, B2, (hcl _).mpr ?_, ?_, f4, f5, f6⟩
      · rw [if_neg (show ¬ znn 3 = 0 by decide), if_neg (show ¬ znn 3 = 1 by decide), if_neg (show ¬ znn 3 = 2 by decide), if_pos (show znn 3 = 3 from rfl), r1, Option.bind_some]
        dsimp only
        rw [if_neg h10, f1, Option.bind_some, f2]
      · rw [hrf]
        unfold f167_reads
        rw [if_neg (show ¬ znn 3 = 0 by decide), if_neg (show ¬ znn 3 = 1 by decide), if_neg (show ¬ znn 3 = 2 by decide), r2, Option.bind_some]
        dsimp only
        rw [if_pos (show zbl (1 : Int32) = true from rfl), Option.bind_some, refTail_1]
        unfold f192_putsText
        rw [if_neg (show ¬ znn 3 = 0 by decide), if_neg (show ¬ znn 3 = 1 by decide), if_neg (show ¬ znn 3 = 2 by decide), f3]
        rfl
