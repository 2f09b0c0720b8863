-- ===== rounds: the copy; YEARS; undone =====
/-- a copy X of the LAND stands beside the others -/
def zCP (M : ZI) (R : ZF) (L : ZY) (B : ZI) (T Bb : Nat → Nat) (m n k X Bx : Nat) : Prop := landIs M R L X Bx (B 149) n k ∧ (∀ j, j ≤ m → X ≠ T j ∧ (Bx + n ≤ Bb j ∨ Bb j + n ≤ Bx)) ∧ R X 14 = R (T m) 14
theorem round_copy {M B : ZI} {R : ZF} {L : ZY} {r14 m n k Y : Nat} {T Bb : Nat → Nat} (h : zWS M R L B r14 T Bb m n k Y) (hL : L.length ≤ 490000) : ∃ M' R', g91_copy (T m) M R L = some (L.length, M', R', L ++ cpL n) ∧ zWS M' R' (L ++ cpL n) B r14 T Bb m n k Y ∧ zCP M' R' (L ++ cpL n) B T Bb m n k L.length (L.length + 4) := by
  obtain ⟨hI, hw, hs⟩ := h
  obtain ⟨a1, a2, a3, a4, a5, a6, a7, a8, a9, a10, a11⟩ := id hw
  have h148 := zg_len a1
  have hc := LWx_cur hw
  obtain ⟨l, hl, h5⟩ := (a9 m (Nat.le_refl _)).2.2.1
  rw [rwW_m] at h5
  obtain ⟨M2, R2, e2, f2, g2, i13, i14⟩ := land_copy hc (by omega) a3 a2 a5 hl h5 a1
  have hg : gF (fun _ => False) M R L M2 R2 (L ++ cpL n) := gF_hFr g2 h148 (fun _ hh => hh.elim)
  refine ⟨M2, R2, e2, ⟨Inv2_of hI (fun o ho => (g2.2 o (by omega) (fun hh => hh)).1) (fun _ _ => rfl), LWx_gF hw hg (fun _ _ _ hh => hh.elim), SH_gF hs hg (fun hh => hh)⟩, f2, fun j hj => ?_, by rw [i14, (hg.2.1 (T m) hc.1.2.2.2.2.2 (lay_le hc.1.1) (fun hh => hh)).2]⟩
  obtain ⟨q1, q2⟩ := rows_end (a9 j hj).1
  refine ⟨by omega, ?_⟩
  by_cases hn : 0 < n
  · have := q2 hn; omega
  · omega
/-- how a round ends: the loop goes on, and all stands -/
def zRE (r14 n Y : Nat) (M : ZI) (R : ZF) (L : ZY) (f : ZS → (Nat → ZI → ZF → ZY → Option (Int32 × ZH)) → Nat → Int32 → Option (Int32 × ZH)) : Prop := ∃ M' R' L' B' T' Bb' m' k', (∀ sc k50 fu x20, f sc k50 fu x20 = g152_l41 sc r14 k50 fu (T' m') (znn m') (x20 + 1) M' R' L') ∧ zWS M' R' L' B' r14 T' Bb' m' n k' (Y + 15) ∧ ∃ X, L' = L ++ X ∧ X.length ≤ 700 ∧ (X.map Prod.snd).sum ≤ 40000
theorem zWS_Y {M : ZI} {R : ZF} {L : ZY} {B : ZI} {r14 : Nat} {T Bb : Nat → Nat} {m n k Y Y' : Nat} (h : zWS M R L B r14 T Bb m n k Y) (hY : Y ≤ Y') : zWS M R L B r14 T Bb m n k Y' := ⟨h.1, LWx_Y h.2.1 hY, h.2.2⟩
theorem round_ye {M B : ZI} {R : ZF} {L : ZY} {r14 m n k Y X : Nat} {T Bb : Nat → Nat} {x v55 v56 : Int32} (h : zWS M R L B r14 T Bb m n k Y) (hL : L.length ≤ 480000) (hY : Y ≤ 850) : zRE r14 n Y M R L (fun sc k50 fu x20 => g152_ye sc r14 k50 fu x20 x v55 v56 X (T m) (znn m) M R L) := by
  obtain ⟨hI, hw, hs⟩ := h
  let N := 1 + bw (zshr x 5) (if zshr x 9 &&& 1 = 0 then 3 else 15)
  have hN : 1 ≤ N ∧ N ≤ 15 := by
    have h1 := bw_lt (zshr x 5) (show 0 < (if zshr x 9 &&& 1 = 0 then 3 else 15) by split <;> decide)
    have h2 : (if zshr x 9 &&& 1 = 0 then 3 else 15) ≤ 15 := by split <;> decide
    show 1 ≤ 1 + bw _ _ ∧ 1 + bw _ _ ≤ 15
    omega
  have e1 : (if zshr x 9 &&& 1 = 0 then some (3 : Int32) else some 15) = some (if zshr x 9 &&& 1 = 0 then 3 else 15) := by split <;> rfl
  have e2 : g115_between (zshr x 5) 1 (if zshr x 9 &&& 1 = 0 then 3 else 15) = some (znn N) := by
    show _ = some (znn (1 + bw (zshr x 5) (if zshr x 9 &&& 1 = 0 then 3 else 15)))
    by_cases hh : zshr x 9 &&& 1 = 0
    · rw [if_pos hh, if_pos hh]; exact btw (lo := 1) (hi := 3) _ (by decide) (by decide)
    · rw [if_neg hh, if_neg hh]; exact btw (lo := 1) (hi := 15) _ (by decide) (by decide)
  obtain ⟨giv, M1, R1, L1, M2, B2, T2, Bb2, m2, g1, g2, g3, g4, g5, g6, x1⟩ := years_op hI hw hs hN.1 hN.2 (by omega) (by omega)
  obtain ⟨X1, x11, x12, x13⟩ := id x1
  obtain ⟨M3, R3, L3, B3, t1, t2, x3⟩ := tail0' (r14 := r14) ⟨g3, g4, g5⟩ (by rw [x11]; simp; omega)
  refine ⟨M3, R3, L3, B3, T2, Bb2, m2, k, fun sc k50 fu x20 => ?_, zWS_Y t2 (by omega), ?_⟩
  · unfold g152_ye
    rw [e1]
    simp only [Option.bind_some]
    rw [e2]
    simp only [Option.bind_some]
    rw [g1]
    simp only [Option.bind_some]
    rw [if_pos g4.1, g2]
    simp only [Option.bind_some]
    rw [if_pos trivial, ← g6]
    exact t1 sc k50 fu x20 X
  · obtain ⟨X, z1, z2, z3⟩ := room_add x1 x3
    exact ⟨X, z1, by omega, by omega⟩
theorem round_un {M B : ZI} {R : ZF} {L : ZY} {r14 m n k Y X : Nat} {T Bb : Nat → Nat} {x v55 v56 : Int32} (h : zWS M R L B r14 T Bb m n k Y) (hL : L.length ≤ 480000) : zRE r14 n Y M R L (fun sc k50 fu x20 => g152_un sc r14 k50 fu x20 x v55 v56 X (T m) (znn m) M R L) := by
  obtain ⟨hI, hw, hs⟩ := h
  have a4 := hw.2.2.2.1
  have a8 := hw.2.2.2.2.2.2.2.1
  by_cases hm : m = 0
  · subst hm
    obtain ⟨M1, c1, c2, c3⟩ := call_r sync_undo hI (undo_none (B := B) a8)
    obtain ⟨M3, R3, L3, B3, t1, t2, X3, x31, x32, x33⟩ := tail0' (r14 := r14) ⟨c2, LWx_gF hw (gF_call (own := fun _ => False) c3) (fun _ _ _ hh => hh.elim), hs⟩ (by omega)
    refine ⟨M3, R3, L3, B3, T, Bb, 0, k, fun sc k50 fu x20 => ?_, zWS_Y t2 (by omega), X3, x31, by omega, by omega⟩
    show g152_un sc r14 k50 fu x20 x v55 v56 X (T 0) (znn 0) M R L = _
    unfold g152_un
    rw [if_pos hw.1, c1]
    simp only [Option.bind_some]
    rw [if_neg (show ¬ (0 : Int32) < znn 0 by decide)]
    simp only [Option.bind_some]
    rw [if_pos trivial, if_neg (show ¬ (0 : Int32) < znn 0 by decide)]
    exact t1 sc k50 fu x20 X
  · obtain ⟨j, rfl⟩ : ∃ j, m = j + 1 := ⟨m - 1, by omega⟩
    obtain ⟨B1, u1, u2, u3, u4, u5⟩ := undo_r (B := B) (m := j) (by omega) a8
    obtain ⟨M1, c1, c2, c3⟩ := call_r sync_undo hI u1
    have hw1 : LWx M1 R L B1 T Bb j n k Y := LWx_undo (LWx_gF hw (gF_call (own := fun _ => False) c3) (fun _ _ _ hh => hh.elim)) u5 (u2 151 (by decide) (by decide)) u3 (u4 19 (by decide))
    obtain ⟨M3, R3, L3, B3, t1, t2, X3, x31, x32, x33⟩ := tail0' (r14 := r14) ⟨c2, hw1, hs.1, hs.2.1, fun i hi => hs.2.2 i (by omega)⟩ (by omega)
    refine ⟨M3, R3, L3, B3, T, Bb, j, k, fun sc k50 fu x20 => ?_, zWS_Y t2 (by omega), X3, x31, by omega, by omega⟩
    have hpos : (0 : Int32) < znn (j + 1) := by rw [zl0, zn_lt (by decide) (by omega)]; omega
    have hd : znn (j + 1) + -1 = znn j := by rw [add_m1, sub_m1]
    show g152_un sc r14 k50 fu x20 x v55 v56 X (T (j + 1)) (znn (j + 1)) M R L = _
    unfold g152_un
    rw [if_pos hw.1, c1]
    simp only [Option.bind_some]
    rw [if_pos hpos]
    simp only [Option.bind_some]
    rw [if_pos trivial, if_pos hpos, hd, if_pos (gar52 hs.1 (by omega) (by omega)), zn_zi (by omega), hs.2.2 j (by omega)]
    simp only [Option.bind_some]
    exact t1 sc k50 fu x20 X
