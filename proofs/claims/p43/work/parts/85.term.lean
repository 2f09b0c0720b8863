-- ===== text of THE LAW: products and sums =====
theorem tk_iff {a : Nat} {k x : Int32} (h : (pairs a).all (fun q => (q.1 == k) == (q.2 == x)) = true) (b : Nat → Nat) (t m : Nat) : tkK b t m = k ↔ tkT a b t m = x := by
  have := tk_on h b t m
  dsimp only at this
  have e := eq_of_beq this
  constructor
  · intro h1
    rw [h1, beq_self_eq_true] at e
    exact eq_of_beq e.symm
  · intro h1
    rw [h1, beq_self_eq_true] at e
    exact eq_of_beq e
theorem op43 : opRel 43 0 23 0 := Or.inr (Or.inr (Or.inr (Or.inr (Or.inl ⟨rfl, rfl⟩))))
theorem op45 : opRel 45 0 24 0 := Or.inr (Or.inr (Or.inr (Or.inr (Or.inr (Or.inl ⟨rfl, rfl⟩)))))
theorem op42 : opRel 42 0 25 0 := Or.inr (Or.inr (Or.inr (Or.inr (Or.inr (Or.inr (Or.inl ⟨rfl, rfl⟩))))))
theorem op60 : opRel 60 0 27 0 := Or.inr (Or.inr (Or.inr (Or.inr (Or.inr (Or.inr (Or.inr (Or.inl ⟨rfl, rfl⟩)))))))
theorem op61 : opRel 61 0 28 0 := Or.inr (Or.inr (Or.inr (Or.inr (Or.inr (Or.inr (Or.inr (Or.inr (Or.inl ⟨rfl, rfl⟩))))))))
theorem op62 : opRel 62 0 29 0 := Or.inr (Or.inr (Or.inr (Or.inr (Or.inr (Or.inr (Or.inr (Or.inr (Or.inr (Or.inl ⟨rfl, rfl⟩)))))))))
theorem op261 : opRel 261 0 31 0 := Or.inr (Or.inr (Or.inr (Or.inr (Or.inr (Or.inr (Or.inr (Or.inr (Or.inr (Or.inr (Or.inl ⟨rfl, rfl⟩))))))))))
theorem op260 : opRel 260 0 32 0 := Or.inr (Or.inr (Or.inr (Or.inr (Or.inr (Or.inr (Or.inr (Or.inr (Or.inr (Or.inr (Or.inr ⟨rfl, rfl⟩))))))))))
theorem op262 : opRel 262 0 30 0 := Or.inr (Or.inr (Or.inr (Or.inl ⟨rfl, rfl⟩)))
theorem tkV_lt {b : Nat → Nat} {t m : Nat} (hb : tapB b t) (h : tkK b t m = -2) : tkV b t m < 10000 := by
  unfold tkK at h
  obtain ⟨h1, h2, h3⟩ := lex_fact hb h
  unfold tkV lexVal
  generalize tkS b t m = s at *
  have hnl : ¬ isLet (b s) = true := by
    unfold isDig at h2
    unfold isLet
    simp only [Bool.and_eq_true, Bool.or_eq_true, decide_eq_true_eq] at h2 ⊢
    omega
  have e0 : lexEnd b t s = runEnd isDig b t (t - s) s := by unfold lexEnd; rw [if_pos h1, if_neg hnl, if_pos h2]
  have h4 : lexEnd b t s - s ≤ 4 := by
    unfold lexKind at h
    rw [if_pos h1, if_neg hnl, if_pos h2] at h
    rw [e0]
    split at h
    · exact absurd h (by decide)
    · omega
  have hv := valN_le (b := b) (s := s) (lexEnd b t s - s) (fun j hj => runEnd_all (P := isDig) (t - s) s (s + j) (by omega) (by rw [← e0]; omega))
  have := pow4 h4
  omega
/-- what the class makes of a number at the token -/
theorem num_at {a : Nat} {b : Nat → Nat} {t N m : Nat} {A0 B0 A B : ZI} (h : PS a b t N A0 B0 A B m) (lo hi : Int32) :
    (tkK b t m ≠ -2 ∧ ∀ A', f70_refuse 119 1 A = some (0, A') → f75_isNumber 119 lo hi A = some (0, A')) ∨ (tkK b t m = -2 ∧ (znn (tkV b t m) < lo ∨ hi < znn (tkV b t m)) ∧ ∀ A', f70_refuse 119 2 A = some (0, A') → f75_isNumber 119 lo hi A = some (0, A')) ∨ (tkK b t m = -2 ∧ ¬ znn (tkV b t m) < lo ∧ ¬ hi < znn (tkV b t m) ∧ f75_isNumber 119 lo hi A = some (1, A)) := by
  have hA7 : A 119 7 = tkK b t m := h.2.1.2.1
  unfold f75_isNumber f13_within
  rw [hA7]
  by_cases hk : tkK b t m = -2
  · right
    rw [if_pos hk, h.2.1.2.2.1 hk]
    by_cases h1 : znn (tkV b t m) < lo
    · left
      refine ⟨hk, Or.inl h1, fun A' e => ?_⟩
      rw [if_pos h1, Option.bind_some, if_pos rfl, e]
      rfl
    · rw [if_neg h1]
      by_cases h2 : hi < znn (tkV b t m)
      · left
        refine ⟨hk, Or.inr h2, fun A' e => ?_⟩
        rw [if_pos h2, Option.bind_some, if_pos rfl, e]
        rfl
      · right
        refine ⟨hk, h1, h2, ?_⟩
        rw [if_neg h2, Option.bind_some, if_neg (by decide)]
  · left
    refine ⟨hk, fun A' e => ?_⟩
    rw [if_neg hk, e]
    rfl
theorem PS_mix {a : Nat} {b : Nat → Nat} {t N m : Nat} {A0 B0 A B A' B' : ZI} (h : PS a b t N A0 B0 A B m) (g : PS a b t N A0 B0 A' B' m) : PS a b t N A0 B0 A B' m := ⟨⟨h.1.1, g.1.2.1, h.1.2.2⟩, h.2.1, g.2.2⟩
/-- the class lays and goes on, the reference goes on and lays -/
theorem slashL {b : Nat → Nat} {t n N m c : Nat} {A0 B0 A B : ZI} {v : Int32} (hC : CX 0 b t n N A0 B0) (h : PS 0 b t N A0 B0 A B m) (hc : LC A B c) (hm : m < N) (hc4 : c < 400) (hr : opRel 47 v 26 v) :
    ∃ A' A2 B' B1, f74_add 125 47 v A = some A2 ∧ f68_forward 119 A2 = some A' ∧ f157_next0 B = some B1 ∧ f174_lay 26 v B1 = some B' ∧ PS 0 b t N A0 B0 A' B' (m + 1) ∧ LC A' B' (c + 1) ∧ keepL A B A' B' c ∧ B' 154 (2 * c) = 26 ∧ B' 154 (2 * c + 1) = v := by
  obtain ⟨A1, B1, e1, e2, e3, e4, e5, e6⟩ := fwdL hC h hc hm
  obtain ⟨A2, B2, g1, g2, g3, g4, g5, g6, g7, g8⟩ := layL h hc hc4 hr
  obtain ⟨A3, B3, i1, i2, i3, i4, i5, i6, i7, i8⟩ := layL e3 e4 hc4 hr
  obtain ⟨A4, B4, j1, j2, j3, j4, j5, j6⟩ := fwdL hC g3 g4 hm
  refine ⟨A4, A2, B3, B1, g1, j1, e2, i2, PS_mix j3 i3, LC_of j4 (fun _ _ _ => rfl) (by rw [i4.2.1, j4.2.1]) (by rw [i6, j6, g6, e6]), ⟨(keepL_trans g5 j5 (by omega)).1, (keepL_trans e5 i5 (by omega)).2⟩, i7, i8⟩
theorem term_loop {b : Nat → Nat} {t n N : Nat} {A0 B0 : ZI} (hC : CX 0 b t n N A0 B0) : ∀ f m x3 c c0 g A B, N - m < f → N - m < g → x3 + (N - m) ≤ 399 → PS 0 b t N A0 B0 A B m → LC A B c → c ≤ m → c0 ≤ c → pushes B c0 c 2 anyV →
    Both A0 B0 (f72_l12 119 125 f (znn x3) A) (f172_l9 g B) (LQ b t N A0 B0 A B m c 0 (fun B' c' => pushes B' c0 c' 2 anyV))
  | 0, m, x3, c, c0, g, A, B, h1, h2, h3, h, hc, hcm, hc0, hp => by omega
  | f + 1, m, x3, c, c0, g, A, B, h1, h2, h3, h, hc, hcm, hc0, hp => by
    obtain ⟨g, rfl⟩ : ∃ q, g = q + 1 := ⟨g - 1, by omega⟩
    have hN := hC.2.1.1
    have hA7 : A 119 7 = tkK b t m := h.2.1.2.1
    have hB21 : B 148 21 = tkT 0 b t m := h.2.2.2.2.1
    have i42 := tk_iff (a := 0) (k := 42) (x := 142) (by decide +kernel) b t m
    have i47 := tk_iff (a := 0) (k := 47) (x := 147) (by decide +kernel) b t m
    rw [f72_l12, f172_l9, if_pos (show znn x3 < 400 by rw [zl400, zn_lt (by omega) (by decide)]; omega), zlet_e, zlet_e, zlet_e, hA7, hB21]
    by_cases k42 : tkK b t m = 42
    · have hm : m < N := pos_N hC h k42 (by decide)
      obtain ⟨A1, B1, e1, e2, e3, e4, e5, e6⟩ := fwdL hC h hc hm
      rw [if_pos k42, if_pos (i42.mp k42)]
      dsimp only
      rw [e1, e2, Option.bind_some, if_pos k42, if_neg (show ¬ tkT 0 b t m = 147 by rw [i42.mp k42]; decide), Option.bind_some, Option.bind_some, if_pos rfl]
      refine both_bind (unit_step hC e3 e4 (by omega)) (fun _ => rfl) (fun _ => rfl) (fun A2 B2 hq => ?_)
      obtain ⟨m2, c2, q1, q2, q3, q4, q5, q6, q7⟩ := hq
      have hm2 := q1.1.2.2
      dsimp only
      rw [if_neg (show ¬ (1 : Int32) = 0 by decide), if_neg (show ¬ (1 : Int32) = 0 by decide)]
      obtain ⟨A3, B3, l1, l2, l3, l4, l5, -, l6, -⟩ := layL q1 q2 (by omega) op42
      rw [l1, l2, Option.bind_some, Option.bind_some, zadd1]
      have K := keepL_trans (keepL_trans e5 q3 (Nat.le_refl _)) l5 q5
      refine both_mono (term_loop hC f m2 (x3 + 1) (c2 + 1) c0 g A3 B3 (by omega) (by omega) (by omega) l3 l4 (by omega) (by omega) ?_) (fun A' B' hq => LQ_step K (by omega) (by omega) (by omega) (by omega) hq)
      exact pushes_two (pushes_keep hp K.2.2.2) (pushes_keep q7 l5.2.2.2) (Nat.le_refl _) (by decide) 25 l6 (by decide) (both_any 25)
    · rw [if_neg k42, if_neg (fun hx => k42 (i42.mpr hx))]
      by_cases k47 : tkK b t m = 47
      · have hm : m < N := pos_N hC h k47 (by decide)
        obtain ⟨A1, B1, e1, e2, e3, e4, e5, e6⟩ := fwdL hC h hc hm
        have hB1 : B1 148 21 = tkT 0 b t (m + 1) := e3.2.2.2.2.1
        have i2 := tk_iff (a := 0) (k := -2) (x := 2) (by decide +kernel) b t (m + 1)
        rw [if_pos k47, if_pos (i47.mp k47)]
        dsimp only
        rw [e1, e2, Option.bind_some, if_neg k42, if_pos (i47.mp k47), Option.bind_some, Option.bind_some, if_neg (show ¬ (1 : Int32) = 0 by decide), zlet_e, hB1]
        rcases num_at e3 1 9999 with ⟨n1, n2⟩ | ⟨n1, n2, n3⟩ | ⟨n1, n2, n3, n4⟩
        · obtain ⟨A', B', r1, r2, r3⟩ := rfz hC e3 1
          rw [n2 _ r1, if_neg (fun hx => n1 (i2.mpr hx)), r2]
          exact Or.inl ⟨A', B', rfl, rfl, r3⟩
        · obtain ⟨A', B', r1, r2, r3⟩ := rfz hC e3 2
          have hv := e3.2.2.2.2.2 n1
          have hlt := tkV_lt hC.1.1 n1
          have h0 : znn (tkV b t (m + 1)) = 0 := by
            rcases n2 with n2 | n2
            · rw [zl1, zn_lt (by omega) (by decide)] at n2
              rw [show tkV b t (m + 1) = 0 by omega]
              rfl
            · rw [zl9999, zn_lt (by decide) (by omega)] at n2
              omega
          rw [n3 _ r1, if_pos (i2.mp n1), hv, if_pos h0, r2]
          exact Or.inl ⟨A', B', rfl, rfl, r3⟩
        · have hv := e3.2.2.2.2.2 n1
          have hv8 := e3.2.1.2.2.1 n1
          have hlt := tkV_lt hC.1.1 n1
          have hm1 : m + 1 < N := pos_N hC e3 n1 (by decide)
          have h0 : ¬ znn (tkV b t (m + 1)) = 0 := by
            intro h0
            rw [h0] at n2
            exact n2 (by decide)
          obtain ⟨A3, A2, B3, B2, s1, s2, s3, s4, s5, s6, s7, s8, s9⟩ := slashL (v := znn (tkV b t (m + 1))) hC e3 e4 hm1 (by omega) (Or.inr (Or.inr (Or.inl ⟨rfl, rfl, rfl, h0⟩)))
          rw [n4, if_pos (i2.mp n1), hv, if_neg h0, Option.bind_some]
          dsimp only
          rw [if_neg (show ¬ (1 : Int32) = 0 by decide), hv8, s1, Option.bind_some, s2, Option.bind_some, s3, Option.bind_some, s4, Option.bind_some, zadd1]
          have K := keepL_trans e5 s7 (Nat.le_refl _)
          refine both_mono (term_loop hC f (m + 1 + 1) (x3 + 1) (c + 1) c0 g A3 B3 (by omega) (by omega) (by omega) s5 s6 (by omega) (by omega) ?_) (fun A' B' hq => LQ_step K (by omega) (by omega) (by omega) (by omega) hq)
          exact pushes_div (pushes_keep hp K.2.2.2) s8 (by rw [s9]; exact h0)
      · rw [if_neg k47, if_neg (fun hx => k47 (i47.mpr hx))]
        exact Or.inr ⟨A, B, rfl, rfl, m, c, h, hc, keepL_refl _ _ _, by omega, Nat.le_refl _, by omega, hp⟩
theorem term_step {b : Nat → Nat} {t n N m c : Nat} {A0 B0 A B : ZI} (hC : CX 0 b t n N A0 B0) (h : PS 0 b t N A0 B0 A B m) (hc : LC A B c) (hcm : c ≤ m) :
    Both A0 B0 (f72_readTerm 119 125 A) (f172_product B) (LQ b t N A0 B0 A B m c 1 (fun B' c' => pushes B' c c' 2 anyV)) := by
  have hN := hC.2.1.1
  unfold f72_readTerm f172_product
  refine both_bind (unit_step hC h hc hcm) (fun _ => rfl) (fun _ => rfl) (fun A2 B2 hq => ?_)
  obtain ⟨m2, c2, q1, q2, q3, q4, q5, q6, q7⟩ := hq
  dsimp only
  rw [if_neg (show ¬ (1 : Int32) = 0 by decide), if_neg (show ¬ (1 : Int32) = 0 by decide)]
  exact both_mono (term_loop hC zfu m2 0 c2 c zfu A2 B2 (by rw [zfu_eq]; omega) (by rw [zfu_eq]; omega) (by omega) q1 q2 (by omega) q5 (pushes_mono q7 (by decide))) (fun A' B' hq => LQ_step q3 (by omega) q5 q6 (by omega) hq)
