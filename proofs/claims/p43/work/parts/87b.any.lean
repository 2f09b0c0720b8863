-- any and every, in one loop of the class
def anyTail (g77 : Nat → Nat → Int32 → Int32 → ZI → Option (Int32 × ZI)) (a3 : Int32) (n : Nat) (x1 x3 : Int32) (M10 : ZI) : Option (Int32 × ZI) :=
  ((if (M10 119 7) = (261 : Int32) then some (1 : Int32) else some (0 : Int32)) : Option (Int32)).bind fun v11 =>
  zlet (fun (x12 : Int32) (M13 : ZI) => ((f68_forward 119 M13).bind fun M14 => f76_l9 g77 119 125 0 a3 n x12 v11 (x3 + (1 : Int32)) M14 : Option (Int32 × ZI))) fun j15 =>
  (if v11 = 0 then ((if x1 = 0 then some M10 else (f74_add 125 (260 : Int32) (0 : Int32) M10).bind fun M16 => some M16) : Option (ZI)).bind fun M17 =>
  ((if (M17 119 7) = (260 : Int32) then some (1 : Int32) else some (0 : Int32)) : Option (Int32)).bind fun v18 =>
  (if v18 = 0 then some ((1 : Int32), M17) else j15 v18 M17) else j15 x1 M10)
theorem any_l9 (g77 : Nat → Nat → Int32 → Int32 → ZI → Option (Int32 × ZI)) (a3 : Int32) (n : Nat) (x1 x2 x3 : Int32) (M4 : ZI) : f76_l9 g77 119 125 0 a3 (n + 1) x1 x2 x3 M4 = (if x3 < (400 : Int32) then (g77 119 125 0 a3 M4).bind fun (v7, M8) => (if v7 = 0 then some ((0 : Int32), M8) else ((if x2 = 0 then some M8 else (f74_add 125 (261 : Int32) (0 : Int32) M8).bind fun M9 => some M9) : Option (ZI)).bind fun M10 => anyTail g77 a3 n x1 x3 M10) else (f70_refuse 119 (1 : Int32) M4).bind fun (v5, M6) => if zbl v5 = true then some (v5, M6) else none) := rfl
def bitI (x : Bool) : Int32 := if x = true then 1 else 0
def anyRest (g177 : ZI → Option (Int32 × ZI)) (x1 : Bool) (hh : Nat) (p : Int32 × ZI) : Option (Int32 × ZI) := match p with | (v, M2) => if v = 0 then some ((0 : Int32), M2) else if x1 = true then (f174_lay (32 : Int32) (0 : Int32) M2).bind fun M7 => f175_l9 (f176_every_b g177) hh M7 else f175_l9 (f176_every_b g177) hh M2
theorem any_tail {b : Nat → Nat} {t n N d h ms c0 : Nat} {A0 B0 As Bs : ZI} {g77 : Nat → Nat → Int32 → Int32 → ZI → Option (Int32 × ZI)} {g177 : ZI → Option (Int32 × ZI)} (hC : CX 0 b t n N A0 B0) (hone : OneOK b t N A0 B0 (g77 119 125 0 (znn d)) g177 d h) : ∀ f m x3 c ce gg hh A B (x1 : Bool), N - m < f → N - m < gg → N - m < hh → x3 + (N - m) ≤ 399 → PS 0 b t N A0 B0 A B m → LC A B c → c ≤ m → B 148 27 = znn d → keepL As Bs A B c0 → c0 ≤ ce → ce ≤ c → ms + 1 ≤ m → (x1 = false → ce = c0 ∧ c + ms ≤ c0 + m) → (x1 = true → pushes B c0 ce (h + 2) bitV ∧ c + 1 + ms ≤ c0 + m ∧ c + 1 ≤ m) → pushes B ce c (h + 1) bitV →
    Both A0 B0 (anyTail g77 (znn d) f (bitI x1) (znn x3) A) ((f176_l9 g177 gg B).bind (anyRest g177 x1 hh)) (LQ b t N A0 B0 As Bs ms c0 1 (fun B' c' => pushes B' c0 c' (h + 2) bitV))
  | 0, m, x3, c, ce, gg, hh, A, B, x1, h1, h2, h3, h4, hP, hc, hcm, h27, hk, he1, he2, hms, hx0, hx1, hp => by omega
  | f + 1, m, x3, c, ce, gg, hh, A, B, x1, h1, h2, h3, h4, hP, hc, hcm, h27, hk, he1, he2, hms, hx0, hx1, hp => by
    obtain ⟨gg, rfl⟩ : ∃ q, gg = q + 1 := ⟨gg - 1, by omega⟩
    obtain ⟨hh, rfl⟩ : ∃ q, hh = q + 1 := ⟨hh - 1, by omega⟩
    have hN := hC.2.1.1
    have hmN := hP.1.2.2
    have hA7 : A 119 7 = tkK b t m := hP.2.1.2.1
    have hB21 : B 148 21 = tkT 0 b t m := hP.2.2.2.2.1
    have i261 := tk_iff (a := 0) (k := 261) (x := 5) (by decide +kernel) b t m
    have i260 := tk_iff (a := 0) (k := 260) (x := 4) (by decide +kernel) b t m
    have lx : m < N → znn (x3 + 1) < 400 := fun hm => by rw [zl400, zn_lt (by omega) (by decide)]; omega
    -- behind the or that was to be laid
    have orStep : ∀ A' B' c', PS 0 b t N A0 B0 A' B' m → LC A' B' c' → c' ≤ m → keepL As Bs A' B' c0 → c0 ≤ c' → c' + ms ≤ c0 + m → B' 148 27 = znn d → pushes B' c0 c' (h + 2) bitV → Both A0 B0 (((if (A' 119 7) = (260 : Int32) then some (1 : Int32) else some (0 : Int32)) : Option (Int32)).bind fun v18 => (if v18 = 0 then some ((1 : Int32), A') else (f68_forward 119 A').bind fun M14 => f76_l9 g77 119 125 0 (znn d) (f + 1) v18 0 (znn x3 + (1 : Int32)) M14)) (f175_l9 (f176_every_b g177) (hh + 1) B') (LQ b t N A0 B0 As Bs ms c0 1 (fun B' c' => pushes B' c0 c' (h + 2) bitV)) := by
      intro A' B' c' p1 p2 p3 p4 p5 p6 p7 p8
      rw [f175_l9, show A' 119 7 = tkK b t m from p1.2.1.2.1, show B' 148 21 = tkT 0 b t m from p1.2.2.2.2.1]
      by_cases k260 : tkK b t m = 260
      · have hm : m < N := pos_N hC p1 k260 (by decide)
        obtain ⟨A1, B1, e1, e2, e3, e4, e5, e6⟩ := fwdL hC p1 p2 hm
        rw [if_pos k260, if_pos (i260.mp k260), Option.bind_some, if_neg (show ¬ (1 : Int32) = 0 by decide), e1, e2, Option.bind_some, Option.bind_some, any_l9, zadd1, if_pos (lx hm), f176_every_b, Option.bind_assoc]
        refine both_bind (hone (m + 1) c' A1 B1 e3 e4 (by omega) (by rw [e5.2.2.1 27 rfl]; exact p7)) (fun _ => rfl) (fun _ => rfl) (fun A2 B2 hq => ?_)
        obtain ⟨m2, c2, q1, q2, q3, q4, q5, q6, q7⟩ := hq
        have hm2 := q1.1.2.2
        dsimp only
        rw [if_neg (show ¬ (1 : Int32) = 0 by decide), if_neg (show ¬ (1 : Int32) = 0 by decide), if_pos rfl, Option.bind_some]
        have K := keepL_trans e5 q3 (Nat.le_refl _)
        exact any_tail hC hone f m2 (x3 + 1) c2 c' zfu hh A2 B2 true (by omega) (by rw [zfu_eq]; omega) (by omega) (by omega) q1 q2 (by omega) (by rw [K.2.2.1 27 rfl]; exact p7) (keepL_trans p4 K p5) p5 q5 (by omega) (fun hc => absurd hc (by decide)) (fun _ => ⟨pushes_keep p8 K.2.2.2, by omega, by omega⟩) (pushes_mono q7 (by omega))
      · rw [if_neg k260, if_neg (fun hx => k260 (i260.mpr hx)), Option.bind_some, if_pos rfl]
        exact Or.inr ⟨A', B', rfl, rfl, m, c', p1, p2, p4, by omega, p5, p6, p8⟩
    unfold anyTail
    rw [f176_l9, hA7, hB21]
    by_cases k261 : tkK b t m = 261
    · have hm : m < N := pos_N hC hP k261 (by decide)
      obtain ⟨A1, B1, e1, e2, e3, e4, e5, e6⟩ := fwdL hC hP hc hm
      rw [if_pos k261, if_pos (i261.mp k261), Option.bind_some, zlet_e, if_neg (show ¬ (1 : Int32) = 0 by decide)]
      dsimp only
      rw [e1, e2, Option.bind_some, Option.bind_some, any_l9, zadd1, if_pos (lx hm), Option.bind_assoc]
      refine both_bind (hone (m + 1) c A1 B1 e3 e4 (by omega) (by rw [e5.2.2.1 27 rfl]; exact h27)) (fun _ => rfl) (fun _ => rfl) (fun A2 B2 hq => ?_)
      obtain ⟨m2, c2, q1, q2, q3, q4, q5, q6, q7⟩ := hq
      have hm2 := q1.1.2.2
      dsimp only
      obtain ⟨A3, B3, l1, l2, l3, l4, l5, -, l6, -⟩ := layL q1 q2 (by omega) op261
      rw [if_neg (show ¬ (1 : Int32) = 0 by decide), if_neg (show ¬ (1 : Int32) = 0 by decide), if_neg (show ¬ (1 : Int32) = 0 by decide), l1, l2, Option.bind_some, Option.bind_some, Option.bind_some]
      have K := keepL_trans (keepL_trans e5 q3 (Nat.le_refl _)) l5 q5
      refine any_tail hC hone f m2 (x3 + 1) (c2 + 1) ce gg (hh + 1) A3 B3 x1 (by omega) (by omega) (by omega) (by omega) l3 l4 (by omega) (by rw [K.2.2.1 27 rfl]; exact h27) (keepL_trans hk K (by omega)) he1 (by omega) (by omega) (fun hf => ⟨(hx0 hf).1, by have := (hx0 hf).2; omega⟩) (fun ht => ⟨pushes_keep (hx1 ht).1 (fun j hj => K.2.2.2 j (by omega)), by have := (hx1 ht).2.1; omega, by have := (hx1 ht).2.2; omega⟩) ?_
      exact pushes_two (pushes_keep hp K.2.2.2) (pushes_keep q7 l5.2.2.2) (Nat.le_refl _) (by omega) 31 l6 (by decide) both_and
    · rw [if_neg k261, if_neg (fun hx => k261 (i261.mpr hx)), Option.bind_some, Option.bind_some, zlet_e, if_pos rfl]
      cases x1 with
      | false =>
        obtain ⟨rfl, hx0⟩ := hx0 rfl
        unfold anyRest bitI
        dsimp only
        rw [if_neg (show ¬ (1 : Int32) = 0 by decide), if_neg (show ¬ false = true by decide), if_neg (show ¬ false = true by decide), if_pos rfl, Option.bind_some]
        exact orStep A B c hP hc hcm hk he2 hx0 h27 (pushes_mono hp (by omega))
      | true =>
        obtain ⟨hp1, hx1, hx2⟩ := hx1 rfl
        unfold anyRest bitI
        dsimp only
        obtain ⟨A3, B3, l1, l2, l3, l4, l5, -, l6, -⟩ := layL hP hc (by omega) op260
        rw [if_neg (show ¬ (1 : Int32) = 0 by decide), if_pos (show true = true from rfl), if_pos (show true = true from rfl), if_neg (show ¬ (1 : Int32) = 0 by decide), l1, l2, Option.bind_some, Option.bind_some, Option.bind_some]
        refine orStep A3 B3 (c + 1) l3 l4 (by omega) (keepL_trans hk l5 (by omega)) (by omega) (by omega) (by rw [l5.2.2.1 27 rfl]; exact h27) ?_
        exact pushes_two (pushes_keep hp1 (fun j hj => l5.2.2.2 j (by omega))) (pushes_keep hp l5.2.2.2) (Nat.le_refl _) (by omega) 32 l6 (by decide) both_or
theorem any_step {b : Nat → Nat} {t n N d h : Nat} {A0 B0 : ZI} {g77 : Nat → Nat → Int32 → Int32 → ZI → Option (Int32 × ZI)} {g177 : ZI → Option (Int32 × ZI)} (hC : CX 0 b t n N A0 B0) (hone : OneOK b t N A0 B0 (g77 119 125 0 (znn d)) g177 d h) : OneOK b t N A0 B0 (f76_readAny_b g77 119 125 0 (znn d)) (f175_any_b (f176_every_b g177)) d (h + 2) := by
  intro m c A B hP hc hcm h27
  have hN := hC.2.1.1
  have key : ∀ F, 401 < F → Both A0 B0 (f76_l9 g77 119 125 0 (znn d) F 0 0 0 A) (f175_any_b (f176_every_b g177) B) (LQ b t N A0 B0 A B m c 1 (fun B' c' => pushes B' c c' (h + 2) bitV)) := by
    intro F hF
    obtain ⟨F, rfl⟩ : ∃ q, F = q + 1 := ⟨F - 1, by omega⟩
    unfold f175_any_b
    rw [any_l9, if_pos (show (0 : Int32) < 400 by decide), show f176_every_b g177 B = (g177 B).bind fun (v1, M2) => (if v1 = 0 then some ((0 : Int32), M2) else f176_l9 g177 zfu M2) from rfl, Option.bind_assoc]
    refine both_bind (hone m c A B hP hc hcm h27) (fun _ => rfl) (fun _ => rfl) (fun A2 B2 hq => ?_)
    obtain ⟨m2, c2, q1, q2, q3, q4, q5, q6, q7⟩ := hq
    dsimp only
    rw [if_neg (show ¬ (1 : Int32) = 0 by decide), if_neg (show ¬ (1 : Int32) = 0 by decide), if_pos rfl, Option.bind_some]
    exact any_tail hC hone F m2 0 c2 c zfu zfu A2 B2 false (by omega) (by rw [zfu_eq]; omega) (by rw [zfu_eq]; omega) (by omega) q1 q2 (by omega) (by rw [q3.2.2.1 27 rfl]; exact h27) q3 (Nat.le_refl _) q5 q4 (fun _ => ⟨rfl, by omega⟩) (fun hc => absurd hc (by decide)) (pushes_mono q7 (by omega))
  have := key zfu (by rw [zfu_eq]; omega)
  exact this
/-- one test, any test: in step at every depth -/
theorem tests_ok {b : Nat → Nat} {t n N : Nat} {A0 B0 : ZI} (hC : CX 0 b t n N A0 B0) : ∀ D d, d + D = 8 → (∀ F G, 2 * D + 1 ≤ F → 3 * D + 1 ≤ G → OneOK b t N A0 B0 (f77_readOne F 119 125 0 (znn d)) (f177_oneTest G) d (4 + 2 * D)) ∧ ∀ F G, 2 * D + 2 ≤ F → 3 * D + 3 ≤ G → OneOK b t N A0 B0 (f76_readAny F 119 125 0 (znn d)) (f175_any G) d (6 + 2 * D) := by
  intro D
  induction D with
  | zero =>
    intro d hd
    have one : ∀ F G, 2 * 0 + 1 ≤ F → 3 * 0 + 1 ≤ G → OneOK b t N A0 B0 (f77_readOne F 119 125 0 (znn d)) (f177_oneTest G) d (4 + 2 * 0) := by
      intro F G hF hG
      obtain ⟨F, rfl⟩ : ∃ q, F = q + 1 := ⟨F - 1, by omega⟩
      obtain ⟨G, rfl⟩ : ∃ q, G = q + 1 := ⟨G - 1, by omega⟩
      rw [fe77, fe177]
      exact one_step (h6 := 0) (h7 := 0) hC (by omega) (fun hd8 => by omega) (fun hd8 => by omega) (by omega) (fun hd8 => by omega) (fun hd8 => by omega)
    refine ⟨one, fun F G hF hG => ?_⟩
    obtain ⟨F, rfl⟩ : ∃ q, F = q + 1 := ⟨F - 1, by omega⟩
    obtain ⟨G, rfl⟩ : ∃ q, G = q + 2 := ⟨G - 2, by omega⟩
    have e := any_step hC (one F G (by omega) (by omega))
    rw [fe76, fe175, fe176]
    exact e
  | succ D ih =>
    intro d hd
    have one : ∀ F G, 2 * (D + 1) + 1 ≤ F → 3 * (D + 1) + 1 ≤ G → OneOK b t N A0 B0 (f77_readOne F 119 125 0 (znn d)) (f177_oneTest G) d (4 + 2 * (D + 1)) := by
      intro F G hF hG
      obtain ⟨F, rfl⟩ : ∃ q, F = q + 1 := ⟨F - 1, by omega⟩
      obtain ⟨G, rfl⟩ : ∃ q, G = q + 1 := ⟨G - 1, by omega⟩
      obtain ⟨ih1, ih2⟩ := ih (d + 1) (by omega)
      rw [fe77, fe177]
      exact one_step hC (by omega) (fun hd8 => ih2 F G (by omega) (by omega)) (fun hd8 => ih1 F G (by omega) (by omega)) (by omega) (fun hd8 => by omega) (fun hd8 => by omega)
    refine ⟨one, fun F G hF hG => ?_⟩
    obtain ⟨F, rfl⟩ : ∃ q, F = q + 1 := ⟨F - 1, by omega⟩
    obtain ⟨G, rfl⟩ : ∃ q, G = q + 2 := ⟨G - 2, by omega⟩
    have e := any_step hC (one F G (by omega) (by omega))
    rw [fe76, fe175, fe176, show 6 + 2 * (D + 1) = 4 + 2 * (D + 1) + 2 by omega]
    exact e
