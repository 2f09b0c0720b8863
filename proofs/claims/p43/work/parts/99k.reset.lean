-- ===== a round with texts; a round with a council =====
theorem LWx_ly {M : ZI} {R : ZF} {L : ZY} {B : ZI} {T Bb : Nat → Nat} {m n k Y : Nat} (h : LWx M R L B T Bb m n k Y) : (∃ l, l ≤ 150 ∧ B 149 5 = znn l) ∧ ∃ y, y ≤ Y ∧ B 149 0 = znn y := by
  have := (h.2.2.2.2.2.2.2.2.1 m (Nat.le_refl _)).2.2
  rw [rwW_m] at this
  exact this
theorem round_te {M B : ZI} {R : ZF} {L : ZY} {r14 m n k Y X : Nat} {T Bb : Nat → Nat} {x v55 v56 : Int32} (h : zWS M R L B r14 T Bb m n k Y) (hL : L.length ≤ 480000) : zRE r14 n Y M R L (fun sc k50 fu x20 => g152_te sc r14 k50 fu x20 x v55 v56 X (T m) (znn m) M R L) := by
  obtain ⟨hI, hw, hs⟩ := h
  obtain ⟨a1, a2, a3, a4, a5, a6, a7, a8, a9, a10, a11⟩ := id hw
  have hc := LWx_cur hw
  obtain ⟨hl, hy⟩ := LWx_ly hw
  obtain ⟨M1, R1, L1, B1, k', e1, e2, e3, e4, e5, ⟨e6, e7, e8, e9, e10⟩, e11, e12, x1⟩ := texts_ok x hI hc a1 (by omega) a5 a2 a7
  have hz1 := zgood_gF e5 a1
  obtain ⟨X1, x11, x12, x13⟩ := id x1
  have hw1 : LWx M1 R1 L1 B1 (fun _ => T m) (fun _ => Bb m) 0 n k' Y := LWx_reset hz1 a2 e2 (by rw [e7 48 (by decide) (by decide) (by decide) (by omega)]; exact a5) e8 e9 e10 e4 (by rw [e7 5 (by decide) (by decide) (by decide) (by omega)]; exact hl) (by rw [e7 0 (by decide) (by decide) (by decide) (by omega)]; exact hy)
  have hs1 : SH R1 L1 r14 (fun _ => T m) 0 := ⟨gF_lay e5 hs.1, hs.2.1, fun j hj => absurd hj (Nat.not_lt_zero _)⟩
  obtain ⟨M3, R3, L3, B3, t1, t2, x3⟩ := tail0' (r14 := r14) ⟨e3, hw1, hs1⟩ (by rw [x11]; simp; omega)
  refine ⟨M3, R3, L3, B3, _, _, 0, k', fun sc k50 fu x20 => ?_, zWS_Y t2 (by omega), ?_⟩
  · show g152_te sc r14 k50 fu x20 x v55 v56 X (T m) (znn m) M R L = _
    unfold g152_te
    rw [e1]
    simp only [Option.bind_some]
    rw [if_neg (show ¬ (1 : Int32) = 0 by decide)]
    exact t1 sc k50 fu x20 X
  · obtain ⟨X, z1, z2, z3⟩ := room_add x1 x3
    exact ⟨X, z1, by omega, by omega⟩
theorem landIs_rule {M M' : ZI} {R R' : ZF} {L L' : ZY} {t b n k : Nat} {w w' : Nat → Int32} (h : landIs M R L t b w n k) (hn : n ≤ 10) (hk : k ≤ 9) (hX : ∃ X, L' = L ++ X) (hM : ∀ c, 148 ≤ c → c < L.length → M' c = M c) (hR : ∀ c j, 148 ≤ c → c < L.length → (L[c]? ≠ some (13, 15) ∨ j ≠ 13) → R' c j = R c j) (hw : ∀ j, j ≠ 53 → j ≠ 54 → ¬ (162 ≤ j ∧ j < 562) → w' j = w j) (hC : lndC M' R' L' t w') : landIs M' R' L' t b w' n k := by
  obtain ⟨⟨o1, o2, o3, o4, o5, o6⟩, ⟨f0, f1, f2, f3, f4, f5, f6, f7, f8, f9⟩, ⟨hb, hP⟩, ⟨a, q, a1, a2, a3, a4⟩, hB, -, hL⟩ := id h
  obtain ⟨X, rfl⟩ := hX
  have lt := lay_le o1
  have n13 : ∀ {c x y : Nat}, L[c]? = some (x, y) → x ≠ 13 → L[c]? ≠ some (13, 15) := fun hc hx he => by rw [hc] at he; cases he; exact hx rfl
  refine ⟨⟨lay_app o1, lay_app o2, lay_app o3, by rw [hR t 10 o6 lt (Or.inr (by decide))]; exact o4, by rw [hR t 12 o6 lt (Or.inr (by decide))]; exact o5, o6⟩, ?_, ⟨hb, fun p hp => ?_⟩, ⟨a, q, a1, by rw [hR t 11 o6 lt (Or.inr (by decide))]; exact a2, lay_app a3, fun i hi => ?_⟩, fun i hi => ?_, hC, ?_⟩
  · unfold lndF
    rw [hM t o6 lt, hw 4 (by decide) (by decide) (by omega), hw 0 (by decide) (by decide) (by omega), hw 1 (by decide) (by decide) (by omega), hw 49 (by decide) (by decide) (by omega), hw 50 (by decide) (by decide) (by omega), hw 2 (by decide) (by decide) (by omega), hw 3 (by decide) (by decide) (by omega), hw 48 (by decide) (by decide) (by omega), hw 5 (by decide) (by decide) (by omega), hw 6 (by decide) (by decide) (by omega)]
    exact ⟨f0, f1, f2, f3, f4, f5, f6, f7, f8, f9⟩
  · obtain ⟨p1, p2, p3⟩ := hP p hp
    refine ⟨by rw [hR (t + 1) p (by omega) (lay_le o2) (Or.inl (n13 o2 (by decide)))]; exact p1, lay_app p2, ?_⟩
    unfold lndQ at p3 ⊢
    rw [hM (b + p) (by omega) (lay_le p2), hw _ (by omega) (by omega) (by omega), hw _ (by omega) (by omega) (by omega), hw _ (by omega) (by omega) (by omega), hw _ (by omega) (by omega) (by omega), hw _ (by omega) (by omega) (by omega), hw _ (by omega) (by omega) (by omega), hw _ (by omega) (by omega) (by omega)]
    exact p3
  · obtain ⟨g1, g2, g3, g4⟩ := a4 i hi
    exact ⟨g1, by rw [hR a i a1 (lay_le a3) (Or.inl (n13 a3 (by decide)))]; exact g2, lay_app g3, fun f hf => by rw [hM (q i) g1 (lay_le g3), g4 f hf, hw _ (by omega) (by omega) (by omega)]⟩
  · rw [hw 5 (by decide) (by decide) (by omega)] at hi
    obtain ⟨r, r1, r2, r3, r4⟩ := hB i hi
    exact ⟨r, r1, by rw [hR (t + 3) i (by omega) (lay_le o3) (Or.inl (n13 o3 (by decide)))]; exact r2, lay_app r3, fun f hf => by rw [hM r r1 (lay_le r3), r4 f hf, hw _ (by omega) (by omega) (by omega)]⟩
  · unfold lndL at hL ⊢
    rw [hR t 14 o6 lt (Or.inr (by decide))]
    cases hd : R t 14 with
    | none =>
      rw [hd] at hL
      simp only at hL ⊢
      rw [hw 58 (by decide) (by decide) (by omega)]
      exact hL
    | some d =>
      rw [hd] at hL
      obtain ⟨l1, l2, l3, l4⟩ := hL
      refine ⟨lay_app l1, l2, l3, ?_⟩
      rw [hM d l2 (lay_le l1)]
      intro v v1 v2 v3
      exact l4 v (fun x hx => (v1 x hx).trans (hw x (by omega) (by omega) (by omega))) (v2.trans (hw 58 (by decide) (by decide) (by omega))) v3
theorem rules_loop {r14 t m : Nat} {L : ZY} {T : Nat → Nat} (hr : L[r14]? = some (52, 6)) (hL : L.length ≤ 900000) (ht : L[t]? = some (13, 15)) (hT : ∀ j, j < m → L[T j]? = some (13, 15)) (hm : m ≤ 6) (htT : ∀ j, j < m → T j ≠ t) : ∀ q i fuel (R : ZF), i + q = m → q < fuel → (∀ j, j < m → R r14 j = some (T j)) → gio (R t 13) = true → ∃ R', g152_l736 r14 t (znn m) L fuel (znn i) R = some R' ∧ (∀ c j, (L[c]? ≠ some (13, 15) ∨ j ≠ 13) → R' c j = R c j) ∧ (∀ j, j < i → R' (T j) 13 = R (T j) 13 ∨ R' (T j) 13 = R t 13) ∧ (∀ j, i ≤ j → j < m → R' (T j) 13 = R t 13) ∧ R' t = R t := by
  intro q
  induction q with
  | zero =>
    intro i fuel R hi hf hs hg
    obtain ⟨fu, rfl⟩ : ∃ k, fuel = k + 1 := ⟨fuel - 1, by omega⟩
    have : i = m := by omega
    subst this
    refine ⟨R, ?_, fun _ _ _ => rfl, fun _ _ => Or.inl rfl, fun j q1 q2 => by omega, rfl⟩
    rw [g152_l736, if_neg (by rw [zn_lt (by omega) (by omega)]; omega)]
  | succ q ih =>
    intro i fuel R hi hf hs hg
    obtain ⟨fu, rfl⟩ : ∃ k, fuel = k + 1 := ⟨fuel - 1, by omega⟩
    have hTi := hT i (by omega)
    have hne := htT i (by omega)
    have hrt : r14 ≠ T i := fun he => by rw [← he, hr] at hTi; cases hTi
    have eR : ∀ c, c ≠ T i → (zr R (T i) 13 (R t 13)) c = R c := fun c hc => zr_off hc
    obtain ⟨R', e1, e2, e3, e4, e5⟩ := ih (i + 1) fu (zr R (T i) 13 (R t 13)) (by omega) (by omega) (fun j hj => by rw [eR r14 hrt]; exact hs j hj) (by rw [eR t (Ne.symm hne)]; exact hg)
    have et : (zr R (T i) 13 (R t 13)) t = R t := eR t (Ne.symm hne)
    refine ⟨R', ?_, fun c j hcj => ?_, fun j hj => ?_, fun j q1 q2 => ?_, by rw [e5, et]⟩
    · rw [g152_l736, if_pos ((zn_lt (by omega) (by omega)).mpr (by omega)), if_pos (gar52 hr hL (by omega)), zn_zi (by omega), hs i (by omega)]
      simp only [Option.bind_some, zlet]
      rw [if_pos (gob_of ht (by have := lay_le ht; omega)), if_pos (gob_of hTi (by have := lay_le hTi; omega)), if_pos hg, zadd1]
      exact e1
    · rw [e2 c j hcj]
      by_cases hc : c = T i
      · subst hc
        rw [zr_at, if_neg]
        rcases hcj with h | h
        · exact absurd hTi h
        · exact h
      · rw [eR c hc]
    · rcases e3 j (by omega) with h | h
      · by_cases hj2 : T j = T i
        · right; rw [h, hj2, zr_at, if_pos rfl]
        · left; rw [h, eR _ hj2]
      · right; rw [h, et]
    · by_cases hji : j = i
      · subst hji
        rcases e3 j (by omega) with h | h
        · rw [h, zr_at, if_pos rfl]
        · rw [h, et]
      · rw [e4 j (by omega) q2, et]
