-- ===== the end of a round =====
def zWS (M : ZI) (R : ZF) (L : ZY) (B : ZI) (r14 : Nat) (T Bb : Nat → Nat) (m n k Y : Nat) : Prop := Inv2 M B ∧ LWx M R L B T Bb m n k Y ∧ SH R L r14 T m
theorem tail0 {M B : ZI} {R : ZF} {L : ZY} {r14 m n k Y : Nat} {T Bb : Nat → Nat} (h : zWS M R L B r14 T Bb m n k Y) (hL : L.length ≤ 490000) : ∃ M' R' L' B', (∀ sc k50 fu x20, g152_j82 sc r14 k50 fu x20 (T m) M L (znn m) R = g152_l41 sc r14 k50 fu (T m) (znn m) (x20 + 1) M' R' L') ∧ zWS M' R' L' B' r14 T Bb m n k Y ∧ ∃ X, L' = L ++ X ∧ X.length ≤ 1 ∧ (X.map Prod.snd).sum ≤ 9 := by
  obtain ⟨hI, hw, hs⟩ := h
  obtain ⟨a1, a2, a3, a4, a5, a6, a7, a8, a9, a10, a11⟩ := id hw
  have h148 := zg_len a1
  have hc := LWx_cur hw
  obtain ⟨M1, c1, c2, c3⟩ := call_r (sync_look 14) hI (look_r14 (B := B))
  have hc1 : landIs M1 R L (T m) (Bb m) (B 149) n k := landIs_cls hc c3 a1
  obtain ⟨M', R', e1, e2, B', e3, e4⟩ := land_same c2 hc1 (by omega) a1 a5 a6 a3 a2
  have hg : gF (fun _ => False) M R L M' R' (L ++ [(0, 9)]) := gF_trans (gF_call c3) (gF_evo e2 h148)
  refine ⟨M', R', L ++ [(0, 9)], B', fun sc k50 fu x20 => ?_, ⟨e3, LWx_B (LWx_gF hw hg (fun _ _ _ hh => hh.elim)) (e4 149 (by decide) (by decide)) (e4 151 (by decide) (by decide)) (by rw [e4 148 (by decide) (by decide)]) (by rw [e4 148 (by decide) (by decide)]), SH_gF hs hg (fun hh => hh)⟩, _, rfl, by simp, by simp⟩
  unfold g152_j82
  rw [if_pos a1, c1]
  simp only [Option.bind_some]
  rw [if_pos a8, if_pos (gob_of hc.1.1 (by have := lay_le hc.1.1; omega)), e1]
  simp only [Option.bind_some]
  rw [if_neg (by decide)]
theorem tail0' {M B : ZI} {R : ZF} {L : ZY} {r14 m n k Y : Nat} {T Bb : Nat → Nat} (h : zWS M R L B r14 T Bb m n k Y) (hL : L.length ≤ 490000) : ∃ M' R' L' B', (∀ sc k50 fu x20 r57, g152_j98 sc r14 k50 fu x20 r57 (T m) (znn m) 0 M R L = g152_l41 sc r14 k50 fu (T m) (znn m) (x20 + 1) M' R' L') ∧ zWS M' R' L' B' r14 T Bb m n k Y ∧ ∃ X, L' = L ++ X ∧ X.length ≤ 1 ∧ (X.map Prod.snd).sum ≤ 9 := by
  obtain ⟨M', R', L', B', e1, e2, e3⟩ := tail0 h hL
  refine ⟨M', R', L', B', fun sc k50 fu x20 r57 => ?_, e2, e3⟩
  rw [← e1]
  unfold g152_j98
  rw [if_pos rfl]
theorem tail1 {M B : ZI} {R : ZF} {L : ZY} {r14 m m' n k Y X Bx : Nat} {T Bb : Nat → Nat} (hI : Inv2 M B) (hw : LWx M R L B (pushT m m' T X) (pushT m m' Bb Bx) m' n k Y) (hm : m ≤ 6) (hm' : m' = if m = 6 then 6 else m + 1) (hs : SH R L r14 T m) (hX : L[X]? = some (13, 15)) (hT : ∀ j, j < m → L[T j]? = some (13, 15)) (hL : L.length ≤ 490000) : ∃ M' R' L' B', (∀ sc k50 fu x20, g152_j98 sc r14 k50 fu x20 X (T m) (znn m) 1 M R L = g152_l41 sc r14 k50 fu (T m) (znn m') (x20 + 1) M' R' L') ∧ zWS M' R' L' B' r14 (pushT m m' T X) (pushT m m' Bb Bx) m' n k Y ∧ ∃ X, L' = L ++ X ∧ X.length ≤ 1 ∧ (X.map Prod.snd).sum ≤ 9 := by
  have hrl := lay_le hs.1
  let p := if m = 6 then 5 else m
  have hp6 : p < 6 := by show (if m = 6 then 5 else m) < 6; split <;> omega
  have hpm : m' = p + 1 := by rw [hm']; show _ = (if m = 6 then 5 else m) + 1; split <;> rfl
  obtain ⟨R1, hR1, hsh, hm6, hR6⟩ : ∃ R1, (∀ c, c ≠ r14 → R1 c = R c) ∧ SH R1 L r14 (shU m T) p ∧ (m = 6 → g152_l810 r14 L zfu 1 R = some R1) ∧ (m ≠ 6 → R1 = R) := by
    by_cases h6 : m = 6
    · obtain ⟨R1, -, e1, e3, e4⟩ := SH_room hs h6 (by omega) (fun j hj => hT j (by omega))
      refine ⟨R1, e3, ?_, fun _ => e1, fun hh => absurd h6 hh⟩
      show SH R1 L r14 (fun j => if m = 6 then T (j + 1) else T j) (if m = 6 then 5 else m)
      simp only [h6, if_true]
      exact e4
    · refine ⟨R, fun _ _ => rfl, ?_, fun hh => absurd hh h6, fun _ => rfl⟩
      show SH R L r14 (fun j => if m = 6 then T (j + 1) else T j) (if m = 6 then 5 else m)
      simp only [h6, if_false]
      exact hs
  have hs2' : SH R1 L r14 (pushT m m' T X) (m' - 1) := ⟨hsh.1, hsh.2.1, fun j hj => by
    rw [hsh.2.2 j (by omega)]
    show some (if m = 6 then T (j + 1) else T j) = some (if j = m' then T m else if j = m' - 1 then X else if m = 6 then T (j + 1) else T j)
    rw [if_neg (show ¬ j = m' by omega), if_neg (show ¬ j = m' - 1 by omega)]⟩
  have hTp : pushT m m' T X (m' - 1) = X := by
    show (if m' - 1 = m' then T m else if m' - 1 = m' - 1 then X else _) = X
    rw [if_neg (by omega), if_pos rfl]
  have hTm : pushT m m' T X m' = T m := if_pos rfl
  let R2 : ZF := zr R1 r14 (m' - 1) (some X)
  have hs3 : SH R2 L r14 (pushT m m' T X) m' := SH_put hs2' (by omega) hTp
  have hg : gF (fun c => c = r14) M R L M R2 L := gF_shelf hs.2.1 (fun c hc => by show zr R1 r14 (m' - 1) (some X) c = R c; rw [zr_off hc, hR1 c hc])
  have hw2 : LWx M R2 L B (pushT m m' T X) (pushT m m' Bb Bx) m' n k Y := LWx_gF hw hg (fun c x y hcc hl => by rw [hcc, hs.1] at hl; cases hl; exact Or.inl rfl)
  obtain ⟨M', R', L', B', e1, e2, e3⟩ := tail0 (r14 := r14) ⟨hI, hw2, hs3⟩ hL
  refine ⟨M', R', L', B', fun sc k50 fu x20 => ?_, e2, e3⟩
  rw [hTm] at e1
  rw [← e1]
  unfold g152_j98
  rw [if_neg (by decide)]
  have hp1 : m' - 1 = p := by omega
  have hpz : znn p + 1 = znn m' := by rw [zadd1, hpm]
  by_cases h6 : m = 6
  · have hp5 : p = 5 := by show (if m = 6 then 5 else m) = 5; rw [if_pos h6]
    have e5 : znn m + -1 = znn p := by rw [h6, hp5]; rfl
    rw [if_pos (show znn m = 6 by rw [h6]; rfl), hm6 h6]
    simp only [Option.bind_some]
    rw [e5, if_pos (gar52 hs.1 (by omega) hp6), if_pos (gek_of hX), zlet_e, zn_zi (by omega), hpz, ← hp1]
  · have hpe : p = m := by show (if m = 6 then 5 else m) = m; rw [if_neg h6]
    rw [if_neg (show ¬ znn m = 6 by rw [show (6 : Int32) = znn 6 from rfl, zn_eq (by omega) (by decide)]; exact h6), ← hpe, if_pos (gar52 hs.1 (by omega) hp6), if_pos (gek_of hX), zlet_e, zn_zi (by omega), hpz, ← hp1]
    show _ = g152_j82 sc r14 k50 fu x20 _ M L (znn m') (zr R1 r14 (m' - 1) (some X))
    rw [hR6 h6]
