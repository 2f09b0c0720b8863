theorem law_loop {b : Nat → Nat} {t n N : Nat} {A0 B0 : ZI} (hC : CX 0 b t n N A0 B0) : ∀ f m x3 c L g A B, N - m < f → N - m < g → 2 * x3 + (N - m) ≤ 400 → PS 0 b t N A0 B0 A B m → LC A B c → c ≤ m → L ≤ 16 → A 124 5 = znn L → B 148 15 = znn L → (∀ i, i < L → lineR A B c i) →
    Both A0 B0 (f69_l21 119 f (znn x3) A) (f168_l12 g 1 B) (LawQ b t N A0 B0)
  | 0, m, x3, c, L, g, A, B, h1, h2, h3, h, hc, hcm, hL, hA5, hB15, hl => by omega
  | f + 1, m, x3, c, L, g, A, B, h1, h2, h3, h, hc, hcm, hL, hA5, hB15, hl => by
    obtain ⟨g, rfl⟩ : ∃ q, g = q + 1 := ⟨g - 1, by omega⟩
    have hN := hC.2.1.1
    have hmN := h.1.2.2
    have hA7 : A 119 7 = tkK b t m := h.2.1.2.1
    have hB21 : B 148 21 = tkT 0 b t m := h.2.2.2.2.1
    have iend := tk_iff (a := 0) (k := -1) (x := 0) (by decide +kernel) b t m
    have i259 := fun m => tk_iff (a := 0) (k := 259) (x := 3) (by decide +kernel) b t m
    rw [f69_l21, l12_eq, if_pos (show znn x3 < 400 by rw [zl400, zn_lt (by omega) (by decide)]; omega), if_neg (show ¬ (1 : Int32) = 0 by decide), hA7, hB21]
    by_cases kend : tkK b t m = -1
    · rw [if_pos kend, if_pos (iend.mp kend)]
      exact Or.inr ⟨A, B, rfl, rfl, m, L, c, h, hc, by omega, hL, hA5, hB15, hl⟩
    rw [if_neg kend, if_neg (fun hx => kend (iend.mpr hx))]
    have hm : m < N := (tk_end hC h).2 kend
    obtain ⟨g, rfl⟩ : ∃ q, g = q + 1 := ⟨g - 1, by omega⟩
    have hk := tk_on line_pair b t m
    dsimp only at hk
    simp only [Bool.or_eq_true, Bool.and_eq_true, beq_iff_eq, decide_eq_true_eq, Bool.not_eq_true', beq_eq_false_iff_ne] at hk
    unfold f169_aLine f149_isIn
    rw [zlet_e, zlet_e, zlet_e, hB21, hB15]
    -- the word is one of the three
    have good : wordRel (tkK b t m) (tkT 0 b t m) → Both A0 B0 (clsLine f (znn x3) (tkK b t m) A) ((refLine (tkT 0 b t m) L B).bind (lineK (g + 1))) (LawQ b t N A0 B0) := by
      intro hw
      unfold clsLine refLine
      by_cases hL16 : L = 16
      · obtain ⟨A', B', r1, r2, r3⟩ := rfz hC h 3
        rw [hA5, if_neg (show ¬ znn L < 16 by rw [zl16, zn_lt (by omega) (by decide)]; omega), if_pos (show znn L = 16 by rw [hL16]; rfl), r1, r2]
        exact Or.inl ⟨A', B', rfl, lineK_0 _ _, r3⟩
      rw [hA5, if_pos (show znn L < 16 by rw [zl16, zn_lt (by omega) (by decide)]; omega), if_neg (show ¬ znn L = 16 by rw [zl16, zn_eq (by omega) (by decide)]; exact hL16)]
      -- the reference's word
      rw [zlet_e (zs B 148 27 0)]
      have a15 : (zs B 148 27 0) 148 15 = znn L := by rw [zs_sm, if_neg (by decide)]; exact hB15
      have a21 : (zs B 148 27 0) 148 21 = tkT 0 b t m := by rw [zs_sm, if_neg (by decide)]; exact hB21
      have a27 : (zs B 148 27 0) 148 27 = znn 0 := by rw [zs_sm, if_pos rfl]; rfl
      have wa : wrL B (zs B 148 27 0) := wrL_148 B (Or.inr rfl) 0
      have na : (zs B 148 27 0) 153 = B 153 := by rw [zs_df (by decide)]
      have na4 : (zs B 148 27 0) 154 = B 154 := by rw [zs_df (by decide)]
      generalize zs B 148 27 0 = Ba at *
      rw [a15, a21, zl4, zn_mul, zl3, zn_add, if_pos ((zn_zin (by omega)).mpr (by omega)), zn_zi (by omega), zlet_e (zs Ba 153 _ _)]
      have wb := wrL_153 Ba (4 * L + 3) (tkT 0 b t m)
      have nb : ∀ j, (zs Ba 153 (4 * L + 3) (tkT 0 b t m)) 153 j = if j = 4 * L + 3 then tkT 0 b t m else B 153 j := fun j => by rw [zs_sm, na]
      have nb4 : (zs Ba 153 (4 * L + 3) (tkT 0 b t m)) 154 = B 154 := by rw [zs_df (by decide)]; exact na4
      have nb5 : (zs Ba 153 (4 * L + 3) (tkT 0 b t m)) 148 = Ba 148 := by rw [zs_df (by decide)]
      generalize zs Ba 153 (4 * L + 3) (tkT 0 b t m) = Bb at *
      have hPb : PS 0 b t N A0 B0 A Bb m := PS_wrL (PS_wrL h wa) wb
      have hCb : LC A Bb c := LC_wrL (LC_wrL hc wa) wb
      obtain ⟨A1, Bc, e1, e2, e3, e4, e5, e6⟩ := fwdL hC hPb hCb hm
      rw [e1, e2, Option.bind_some, Option.bind_some]
      have c15 : Bc 148 15 = znn L := by rw [e5.2.2.1 15 rfl, nb5]; exact a15
      have c16 : Bc 148 16 = znn c := e4.2.1
      have nc : Bc 153 = Bb 153 := e5.2.1 153 (by decide) (by decide)
      rw [c15, c16, zn_mul, if_pos ((zn_zin (by omega)).mpr (by omega)), zn_zi (by omega), zlet_e (zs Bc 153 _ _)]
      have wd := wrL_153 Bc (4 * L) (znn c)
      have nd : ∀ j, (zs Bc 153 (4 * L) (znn c)) 153 j = if j = 4 * L then znn c else if j = 4 * L + 3 then tkT 0 b t m else B 153 j := fun j => by rw [zs_sm, nc, nb]
      have nd4 : (zs Bc 153 (4 * L) (znn c)) 154 = B 154 := by rw [zs_df (by decide), e6]; exact nb4
      have nd5 : (zs Bc 153 (4 * L) (znn c)) 148 = Bc 148 := by rw [zs_df (by decide)]
      generalize zs Bc 153 (4 * L) (znn c) = Bd at *
      have hPd := PS_wrL e3 wd
      have hCd := LC_wrL e4 wd
      have x11 : A1 125 3 = znn c := e4.1
      rw [zlet_e (A1 125 3), x11, Option.bind_assoc]
      refine both_bind (sum_step hC hPd hCd (by omega)) (fun _ => rfl) (fun B' => lineK_0 _ _) (fun A2 Be hq => ?_)
      obtain ⟨m2, c2, q1, q2, q3, q4, q5, q6, q7⟩ := hq
      have hm2 := q1.1.2.2
      have ee15 : Be 148 15 = znn L := by rw [q3.2.2.1 15 rfl, nd5]; exact c15
      have ee16 : Be 148 16 = znn c2 := q2.2.1
      have x14 : A2 125 3 = znn c2 := q2.1
      have ne : Be 153 = Bd 153 := q3.2.1 153 (by decide) (by decide)
      dsimp only
      rw [if_neg (show ¬ (1 : Int32) = 0 by decide), if_neg (show ¬ (1 : Int32) = 0 by decide), zlet_e (A2 125 3), x14, ee15, ee16, zn_mul, zl1, zn_add, if_pos ((zn_zin (by omega)).mpr (by omega)), zn_zi (by omega), zlet_e (zs Be 153 _ _)]
      have wf := wrL_153 Be (4 * L + 1) (znn c2)
      have nf : ∀ j, (zs Be 153 (4 * L + 1) (znn c2)) 153 j = if j = 4 * L + 1 then znn c2 else if j = 4 * L then znn c else if j = 4 * L + 3 then tkT 0 b t m else B 153 j := fun j => by rw [zs_sm, ne, nd]
      have nf4 : (zs Be 153 (4 * L + 1) (znn c2)) 154 = Be 154 := by rw [zs_df (by decide)]
      have nf5 : (zs Be 153 (4 * L + 1) (znn c2)) 148 = Be 148 := by rw [zs_df (by decide)]
      generalize zs Be 153 (4 * L + 1) (znn c2) = Bf at *
      have hPf := PS_wrL q1 wf
      have hCf := LC_wrL q2 wf
      have f15 : Bf 148 15 = znn L := by rw [nf5]; exact ee15
      have f27 : Bf 148 27 = znn 0 := by rw [nf5, q3.2.2.1 27 rfl, nd5, e5.2.2.1 27 rfl, nb5]; exact a27
      have f154 : ∀ j, j < 2 * c → Bf 154 j = B 154 j := fun j hj => by rw [nf4, q3.2.2.2 j hj, nd4]
      have fp : pushes Bf c c2 3 anyV := pushes_keep q7 (fun j _ => by rw [nf4])
      have fA : ∀ o, o ≠ 119 → o ≠ 125 → o ≠ 126 → o ≠ 127 → A2 o = A o := fun o o1 o2 o3 o4 => (q3.1 o o1 o2 o3 o4).trans (e5.1 o o1 o2 o3 o4)
      -- behind the condition
      have tail : ∀ A3 Bg m3 c3, PS 0 b t N A0 B0 A3 Bg m3 → LC A3 Bg c3 → m2 ≤ m3 → c2 ≤ c3 → c3 + m2 ≤ c2 + m3 → Bg 148 15 = znn L → Bg 153 = Bf 153 → (∀ j, j < 2 * c2 → Bg 154 j = Bf 154 j) → (∀ o, o ≠ 119 → o ≠ 125 → o ≠ 126 → o ≠ 127 → A3 o = A o) → (c2 = c3 ∨ pushes Bg c2 c3 22 bitV) → Both A0 B0 (clsEnd f (znn x3) (tkK b t m) (znn c) (znn c2) A3) ((refEnd Bg).bind (lineK (g + 1))) (LawQ b t N A0 B0) := by
        intro A3 Bg m3 c3 p1 p2 p3 p4 p5 p6 p7 p8 p9 p10
        have g16 : Bg 148 16 = znn c3 := p2.2.1
        have hm3 := p1.1.2.2
        unfold clsEnd refEnd
        rw [p6, g16, zl4, zn_mul, zl2, zn_add, if_pos ((zn_zin (by omega)).mpr (by omega)), zn_zi (by omega), zlet_e (zs Bg 153 _ _)]
        have wh := wrL_153 Bg (4 * L + 2) (znn c3)
        have nh : ∀ j, (zs Bg 153 (4 * L + 2) (znn c3)) 153 j = if j = 4 * L + 2 then znn c3 else if j = 4 * L + 1 then znn c2 else if j = 4 * L then znn c else if j = 4 * L + 3 then tkT 0 b t m else B 153 j := fun j => by rw [zs_sm, p7, nf]
        have nh4 : (zs Bg 153 (4 * L + 2) (znn c3)) 154 = Bg 154 := by rw [zs_df (by decide)]
        have nh5 : (zs Bg 153 (4 * L + 2) (znn c3)) 148 = Bg 148 := by rw [zs_df (by decide)]
        generalize zs Bg 153 (4 * L + 2) (znn c3) = Bh at *
        have hPh := PS_wrL p1 wh
        have hCh := LC_wrL p2 wh
        rcases skip_need (k := 59) (x := 159) hC hPh (by decide +kernel) (by decide) with ⟨s1, s2, s3⟩ | ⟨A', B', r1, r2, r3⟩
        · obtain ⟨A4, Bi, l1, l2, l3, l4, l5, l6⟩ := fwdL hC hPh hCh s1
          have i15 : Bi 148 15 = znn L := by rw [l5.2.2.1 15 rfl, nh5]; exact p6
          have ni : Bi 153 = Bh 153 := l5.2.1 153 (by decide) (by decide)
          have A4k : ∀ o, o ≠ 119 → o ≠ 125 → o ≠ 126 → o ≠ 127 → A4 o = A o := fun o o1 o2 o3 o4 => (l5.1 o o1 o2 o3 o4).trans (p9 o o1 o2 o3 o4)
          have a5 : A4 124 5 = znn L := by rw [A4k 124 (by decide) (by decide) (by decide) (by decide)]; exact hA5
          rw [s2, s3, l1, l2, Option.bind_some, Option.bind_some, Option.bind_some, Option.bind_some]
          dsimp only
          rw [if_neg (show ¬ (1 : Int32) = 0 by decide), add80 a5 (by omega) l4.1, Option.bind_some, zadd1, if_pos (show zbl (1 : Int32) = true from rfl), Option.bind_some, lineK_1, i15, zadd1]
          have i154 : ∀ j, j < 2 * c2 → Bi 154 j = Bf 154 j := fun j hj => by rw [l6, nh4]; exact p8 j hj
          refine law_loop hC f (m3 + 1) (x3 + 1) c3 (L + 1) (g + 1) _ _ (by omega) (by omega) (by omega) (PS_clsL (PS_wrL l3 (wrL_148 Bi (Or.inl rfl) _)) (fun o ho => by rw [zs_df (by omega), zs_df (by omega), zs_df (by omega), zs_df (by omega), zs_df (by omega)])) (LC_of (LC_wrL l4 (wrL_148 Bi (Or.inl rfl) _)) (fun o o1 o2 => by rw [zs_df (by omega), zs_df (by omega), zs_df (by omega), zs_df (by omega), zs_df (by omega)]) rfl rfl) (by omega) (by omega) (by rw [zs_sm, if_pos rfl]) (by rw [zs_sm, if_pos rfl]) (fun i hi => ?_)
          have z153 : (zs Bi 148 15 (znn (L + 1))) 153 = Bh 153 := by rw [zs_df (by decide)]; exact ni
          have z154 : (zs Bi 148 15 (znn (L + 1))) 154 = Bi 154 := by rw [zs_df (by decide)]
          by_cases hiL : i = L
          · subst hiL
            unfold lineR
            rw [z153, nh, nh, nh, nh, if_neg (by omega), if_neg (by omega), if_neg (by omega), if_pos rfl, if_neg (by omega), if_neg (by omega), if_pos rfl, if_neg (by omega), if_pos rfl, if_pos rfl]
            refine ⟨?_, ?_, ?_, ?_, c, c2, c3, q5, p4, Nat.le_refl _, rfl, rfl, rfl, ?_, ?_⟩
            · rw [zs_df (by decide), zs_df (by decide), zs_df (by decide), zs_df (by decide), zs_sm, if_pos rfl]; exact hw
            · rw [zs_df (by decide), zs_df (by decide), zs_df (by decide), zs_sm, if_pos rfl]
            · rw [zs_df (by decide), zs_df (by decide), zs_sm, if_pos rfl]
            · rw [zs_df (by decide), zs_sm, if_pos rfl]
            · exact pushes_keep fp (fun j hj => by rw [z154]; exact i154 j hj)
            · rcases p10 with p10 | p10
              · exact Or.inl p10
              · exact Or.inr (pushes_keep p10 (fun j _ => by rw [z154, l6, nh4]))
          · refine lineR_of (hl i (by omega)) ⟨?_, ?_, ?_, ?_⟩ (fun k hk => ?_) (fun j hj => ?_) (by omega)
            · rw [zs_df (by decide), zs_df (by decide), zs_df (by decide), zs_df (by decide), zs_sm, if_neg hiL, A4k 129 (by decide) (by decide) (by decide) (by decide)]
            · rw [zs_df (by decide), zs_df (by decide), zs_df (by decide), zs_sm, if_neg hiL, zs_df (by decide), A4k 130 (by decide) (by decide) (by decide) (by decide)]
            · rw [zs_df (by decide), zs_df (by decide), zs_sm, if_neg hiL, zs_df (by decide), zs_df (by decide), A4k 131 (by decide) (by decide) (by decide) (by decide)]
            · rw [zs_df (by decide), zs_sm, if_neg hiL, zs_df (by decide), zs_df (by decide), zs_df (by decide), A4k 132 (by decide) (by decide) (by decide) (by decide)]
            · rw [z153, nh, if_neg (by omega), if_neg (by omega), if_neg (by omega), if_neg (by omega)]
            · rw [z154, i154 j (by omega), f154 j hj]
        · rw [r1, r2]
          exact Or.inl ⟨A', B', rfl, lineK_0 _ _, r3⟩
      rw [zlet_e, zlet_e, show A2 119 7 = tkK b t m2 from q1.2.1.2.1, show Bf 148 21 = tkT 0 b t m2 from hPf.2.2.2.2.1]
      by_cases k259 : tkK b t m2 = 259
      · have hmm : m2 < N := pos_N hC q1 k259 (by decide)
        obtain ⟨A3, Bg, l1, l2, l3, l4, l5, l6⟩ := fwdL hC hPf hCf hmm
        rw [if_pos k259, if_pos (show tkT 0 b t m2 = znn 3 from (i259 m2).mp k259), l1, l2, Option.bind_some, Option.bind_some, Option.bind_assoc]
        have htest : OneOK b t N A0 B0 (f76_readAny zgf 119 125 0 0) (f175_any zgf) 0 22 := (tests_ok hC 8 0 rfl).2 zgf zgf (by unfold zgf; decide) (by unfold zgf; decide)
        refine both_bind (htest (m2 + 1) c2 A3 Bg l3 l4 (by omega) (by rw [l5.2.2.1 27 rfl]; exact f27)) (fun _ => rfl) (fun B' => lineK_0 _ _) (fun A4 Bh hq => ?_)
        obtain ⟨m4, c4, w1, w2, w3, w4, w5, w6, w7⟩ := hq
        have K := keepL_trans l5 w3 (Nat.le_refl _)
        dsimp only
        rw [if_neg (show ¬ (1 : Int32) = 0 by decide), if_neg (show ¬ (1 : Int32) = 0 by decide)]
        exact tail A4 Bh m4 c4 w1 w2 (by omega) w5 (by omega) (by rw [K.2.2.1 15 rfl]; exact f15) (K.2.1 153 (by decide) (by decide)) K.2.2.2 (fun o o1 o2 o3 o4 => (K.1 o o1 o2 o3 o4).trans (fA o o1 o2 o3 o4)) (Or.inr w7)
      · rw [if_neg k259, if_neg (show ¬ tkT 0 b t m2 = znn 3 from fun hx => k259 ((i259 m2).mpr hx))]
        exact tail A2 Bf m2 c2 hPf hCf (Nat.le_refl _) (Nat.le_refl _) (by omega) f15 rfl (fun _ _ => rfl) fA (Or.inl rfl)
    rcases hk with ((⟨k1, k2⟩ | ⟨k1, k2⟩) | ⟨k1, k2⟩) | ⟨⟨⟨k1, k2⟩, k3⟩, k4⟩
    · have good := good (Or.inl ⟨k1, k2⟩)
      rw [k1, k2] at good ⊢
      exact good
    · have good := good (Or.inr (Or.inl ⟨k1, k2⟩))
      rw [k1, k2] at good ⊢
      exact good
    · have good := good (Or.inr (Or.inr ⟨k1, k2⟩))
      rw [k1, k2] at good ⊢
      exact good
    · have e2 : ((if tkT 0 b t m < 20 then some (0 : Int32) else (if (22 : Int32) < tkT 0 b t m then some (0 : Int32) else some (1 : Int32))) : Option Int32) = some 0 := by
        rcases k4 with k4 | k4
        · rw [if_pos k4]
        · rw [if_pos k4]
          split <;> rfl
      obtain ⟨A', B', r1, r2, r3⟩ := rfz hC h 1
      rw [if_neg k1, if_neg k2, if_neg k3, e2, Option.bind_some, if_pos rfl, r1, r2]
      exact Or.inl ⟨A', B', rfl, lineK_0 _ _, r3⟩
