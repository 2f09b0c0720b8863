-- ===== isSame says yes =====
def lookAtW (w : Nat → Int32) (i : Nat) : Int32 := w (if i = 0 then 48 else if i = 1 then 0 else if i = 2 then 1 else if i = 3 then 49 else if i = 4 then 50 else if i = 5 then 2 else if i = 6 then 3 else if i = 7 then 5 else 4)
theorem same_l346 {Post : Option (Int32 × ZH) → Prop} {M0 B0 M : ZI} {R : ZF} {L : ZY} {r : Nat} (hr : L[r]? = some (0, 9)) (hr148 : 148 ≤ r) (hL : L.length ≤ 900000) (hz : zgood R L = true) (hrow : ∀ i, i < 9 → M0 r i = lookAtW (B0 149) i) {k126 : ZI → Option (Int32 × ZH)} (hk : ∀ M, SQ M0 B0 M → Post (k126 M)) (hM : SQ M0 B0 M) : Post (g113_l346 r R L k126 zfu 0 M) := by
  refine kloop (fun f c a => g113_l346 r R L k126 f c a) 9 1 (by decide) (SQ M0 B0) Post (fun f i a hi ha => ?_) (fun f i a h1 h2 ha => ?_) zfu 0 M (by decide) (by rw [zfu_eq]; decide) hM
  · obtain ⟨M', a1, a2⟩ := ask_m (sync_look (znn i)) (v := lookAtW (B0 149) i) ha (fun B hB => ⟨B, by rw [look_r (B := B) hi, hB 149 (by decide) (by decide)]; rfl, bSame_refl B⟩)
    have e1 : M' r i = lookAtW (B0 149) i := by
      obtain ⟨B, -, -, h3⟩ := a2
      rw [h3 _ hr148]
      exact hrow i hi
    have gi : gar L r 0 (znn i) = true := gar_of hr (lay_lt hr hL) hi (by decide)
    have zii : zi (znn i) = i := zn_zi (by omega)
    refine ⟨M', a2, ?_⟩
    simp only [g113_l346]
    rw [if_pos (show znn i < 9 by rw [zl9, zn_lt (by omega) (by omega)]; exact hi), if_pos hz, a1]
    simp only [Option.bind_some, gi, zii, e1, if_true]
    rw [zadd1]
  · have hi : i = 9 := by omega
    subst hi
    simp only [g113_l346]
    rw [if_neg (by decide)]
    exact hk a ha
def sameP (M B : ZI) (R : ZF) (L : ZY) (o : Option (Int32 × ZH)) : Prop := ∃ M' R', o = some (1, M', R', L ++ [(0, 9)]) ∧ evo M R L M' R' (L ++ [(0, 9)]) ∧ ∃ B', Inv2 M' B' ∧ bSame B B'
theorem land_same {M B : ZI} {R : ZF} {L : ZY} {t b n k : Nat} (hI : Inv2 M B) (h : landIs M R L t b (B 149) n k) (hL : L.length ≤ 600000) (hz : zgood R L = true) (h48 : B 149 48 = znn n) (h52 : B 149 52 = znn k) (hk9 : k ≤ 9) (hn10 : n ≤ 10) :
    ∃ M' R', g113_isSame t M R L = some (1, M', R', L ++ [(0, 9)]) ∧ evo M R L M' R' (L ++ [(0, 9)]) ∧ ∃ B', Inv2 M' B' ∧ bSame B B' := by
  obtain ⟨n', k', c, bd, ⟨i1, i2, i3, i4, i5⟩, -⟩ := id hI
  have en : n' = n := by
    have := i2.1.2.1
    rw [h48, zn_eq (by omega) (by have := i2.1.1; omega)] at this
    exact this.symm
  subst en
  have ek : k' = k := by
    have := i2.2.2.1.2.1
    rw [h52, zn_eq (by omega) (by have := i2.2.2.1.1; omega)] at this
    exact this.symm
  subst ek
  obtain ⟨l, hl, h5⟩ := i4.2.2.1
  have hr : ruleOk (B 149) := i2.2.2.2.1
  obtain ⟨⟨o1, o2, o3, o4, o5, o6⟩, ⟨f0, f1, f2, f3, f4, f5, f6, f7, f8, f9⟩, -, hW, -⟩ := id h
  have tl := lay_le o1
  show sameP M B R L (g113_isSame t M R L)
  unfold g113_isSame
  refine same_l2 (Post := sameP M B R L) h (by omega) hz i2 i4 (fun M50 h50 => ?_) ⟨B, hI, bSame_refl B, fun _ _ => rfl⟩
  refine same_l145 h (by omega) hz i2 i4 ?_ h50
  refine same_l227 h (by omega) hz hl h5 ?_ h50
  -- the row of nine
  obtain ⟨B1, j1, j2, j3⟩ := h50
  have hnew : (L ++ [(0, 9)])[L.length]? = some (0, 9) := lay_new
  have hL1 : (L ++ [(0, 9)]).length ≤ 900000 := by simp; omega
  have gn : gnn 9 = true := by decide
  have gf : gfr L = true := gfr_of (by omega)
  have go : gob (L ++ [(0, 9)]) t 10 = true := gob_app (gob_of o1 (by omega))
  have ga : ∀ j, j < 9 → gar (L ++ [(0, 9)]) L.length 0 (znn j) = true := fun j hj => gar_of hnew (lay_lt hnew hL1) hj (by decide)
  have g0 : gar (L ++ [(0, 9)]) L.length 0 0 = true := ga 0 (by decide)
  have g1 : gar (L ++ [(0, 9)]) L.length 0 1 = true := ga 1 (by decide)
  have g2 : gar (L ++ [(0, 9)]) L.length 0 2 = true := ga 2 (by decide)
  have g3 : gar (L ++ [(0, 9)]) L.length 0 3 = true := ga 3 (by decide)
  have g4 : gar (L ++ [(0, 9)]) L.length 0 4 = true := ga 4 (by decide)
  have g5 : gar (L ++ [(0, 9)]) L.length 0 5 = true := ga 5 (by decide)
  have g6 : gar (L ++ [(0, 9)]) L.length 0 6 = true := ga 6 (by decide)
  have g7 : gar (L ++ [(0, 9)]) L.length 0 7 = true := ga 7 (by decide)
  have g8 : gar (L ++ [(0, 9)]) L.length 0 8 = true := ga 8 (by decide)
  have zi9 : zi (9 : Int32) = 9 := rfl
  rw [if_pos gn, if_pos gf]
  simp only [gnew, zi9]
  rw [if_pos go]
  simp only [zlet, g0, g1, g2, g3, g4, g5, g6, g7, g8, if_true]
  generalize hM : (zs (zs (zs (zs (zs (zs (zs (zs (zs (zw M50 L.length fun _ => 0) L.length (zi 0) _) L.length (zi 1) _) L.length (zi 2) _) L.length (zi 3) _) L.length (zi 4) _) L.length (zi 5) _) L.length (zi 6) _) L.length (zi 7) _) L.length (zi 8) _) = M121
  have tL : t ≠ L.length := by omega
  have mc : ∀ c, c ≠ L.length → M121 c = M50 c := fun c hc => by
    rw [← hM]
    simp only [zs_ap, zwF_ap, if_neg hc]
  have mr : ∀ i, i < 9 → M121 L.length i = lookAtW (B 149) i := fun i hi => by
    have hi9 : i = 0 ∨ i = 1 ∨ i = 2 ∨ i = 3 ∨ i = 4 ∨ i = 5 ∨ i = 6 ∨ i = 7 ∨ i = 8 := by omega
    rw [← hM]
    simp only [zs_ap, zwF_ap, upd_ap, if_neg tL, if_true, j3 t o6]
    rcases hi9 with rfl | rfl | rfl | rfl | rfl | rfl | rfl | rfl | rfl
    · exact f7
    · exact f1
    · exact f2
    · exact f3
    · exact f4
    · exact f5
    · exact f6
    · exact f8
    · exact f0
  have hR : ∀ c, c < L.length → (zw R L.length fun _ => none) c = R c := fun c hc => zw_ne _ _ (by omega)
  have ev1 : evo M R L M121 (zw R L.length fun _ => none) (L ++ [(0, 9)]) := ⟨⟨_, rfl⟩, fun c q1 q2 => by rw [mc c (by omega)]; exact j3 c q1, hR⟩
  have hz1 := zgood_evo ev1 hz
  have hI1 : Inv2 M121 B1 := Inv2_of j1 (fun o ho => mc o (by omega)) (fun _ _ => rfl)
  have hla := landIs_evo h ev1 hz
  refine same_l346 (M0 := M121) (B0 := B) hnew (by omega) hL1 hz1 mr (fun M131 h131 => ?_) ⟨B1, hI1, j2, fun _ _ => rfl⟩
  have e7 : ∀ M, SQ M121 B M → M t 7 = znn n' := fun M hM => by
    obtain ⟨B', -, -, h3⟩ := hM
    rw [h3 t o6, mc t tL, j3 t o6, f7]
    exact h48
  have e8 : ∀ M, SQ M121 B M → M t 8 = znn l := fun M hM => by
    obtain ⟨B', -, -, h3⟩ := hM
    rw [h3 t o6, mc t tL, j3 t o6, f8]
    exact h5
  obtain ⟨a, q, w1, w2, w3, w4⟩ := land_wrk hla.2.2.2.1 hL1 (by omega)
  obtain ⟨M2, a1, a2⟩ := ask_m (sync_of (znn n') 0) (v := -2) h131 (fun B' hB => ⟨B', of_rn (B := B') (by rw [hB 149 (by decide) (by decide)]; exact i2), bSame_refl B'⟩)
  obtain ⟨M3, b1, b2⟩ := ask_m (sync_after (znn n') 0 1) (v := -1) a2 (fun B' hB => ⟨B', after_rn (B := B') (by rw [hB 149 (by decide) (by decide)]; exact i2), bSame_refl B'⟩)
  have c1 : f95_work (znn k') 0 M3 = some (-2) := ask_i (syncP_work (znn k') 0) b2 (fun B' hB => work_rn (B := B') (by rw [hB 149 (by decide) (by decide)]; exact i2))
  have c2 : f96_book (znn l) 0 M3 = some (-2) := ask_i (syncP_book (znn l) 0) b2 (fun B' hB => book_rn (B := B') hl (by rw [hB 149 (by decide) (by decide)]; exact h5))
  obtain ⟨M4, d1, d2⟩ := ask_m (sync_look 11) (v := znn k') b2 (fun B' hB => ⟨B', by rw [look_r11, hB 149 (by decide) (by decide), h52], bSame_refl B'⟩)
  obtain ⟨M5, p1, p2⟩ := ask_m (sync_look 15) (v := optI (sGiv (B 149) (fun v => B 149 (80 + v)) n' n')) d2 (fun B' hB => by
    obtain ⟨B'', q1, q2⟩ := look_r15 (B := B') (by rw [hB 149 (by decide) (by decide)]; exact i2) (by rw [hB 149 (by decide) (by decide)]; exact i4)
    rw [hB 149 (by decide) (by decide)] at q1
    exact ⟨B'', q1, q2⟩)
  have hla5 := landIs_cls hla (M' := M5) (by obtain ⟨B', -, -, h3⟩ := p2; exact h3) hz1
  rw [if_pos go, if_pos hz1, e7 M131 h131, a1]
  simp only [Option.bind_some, if_true]
  rw [e7 M2 a2, b1]
  simp only [Option.bind_some, if_true]
  rw [w1]
  simp only [Option.bind_some]
  rw [if_pos w2, w3, show Int32.ofNat k' = znn k' from rfl, c1]
  simp only [Option.bind_some, if_true]
  rw [e8 M3 b2, c2]
  simp only [Option.bind_some, if_true]
  rw [d1]
  simp only [Option.bind_some, if_true, w1, w2, w3]
  rw [p1]
  simp only [Option.bind_some]
  rw [land_given hla5 hL1 hn10 h48 (by decide) i4 hr]
  simp only [Option.bind_some, if_true]
  obtain ⟨B5, r1, r2, r3⟩ := p2
  exact ⟨M5, _, rfl, evo_trans ev1 ⟨⟨[], by simp⟩, fun c q1 _ => r3 c q1, fun _ _ => rfl⟩, B5, r1, r2⟩
