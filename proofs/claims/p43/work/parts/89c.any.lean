theorem rl261 : ruleRel 261 0 40 := Or.inr (Or.inr (Or.inl ⟨rfl, rfl⟩))
theorem rl260 : ruleRel 260 0 41 := Or.inr (Or.inr (Or.inr ⟨rfl, rfl⟩))
-- any and every, in one loop of the class
def anyTailC (g77 : Nat → Nat → Int32 → Int32 → ZI → Option (Int32 × ZI)) (a3 : Int32) (n : Nat) (x1 x3 : Int32) (M10 : ZI) : Option (Int32 × ZI) :=
  ((if (M10 119 7) = (261 : Int32) then some (1 : Int32) else some (0 : Int32)) : Option (Int32)).bind fun v11 =>
  zlet (fun (x12 : Int32) (M13 : ZI) => ((f68_forward 119 M13).bind fun M14 => f76_l9 g77 119 143 1 a3 n x12 v11 (x3 + (1 : Int32)) M14 : Option (Int32 × ZI))) fun j15 =>
  (if v11 = 0 then ((if x1 = 0 then some M10 else (f74_add 143 (260 : Int32) (0 : Int32) M10).bind fun M16 => some M16) : Option (ZI)).bind fun M17 =>
  ((if (M17 119 7) = (260 : Int32) then some (1 : Int32) else some (0 : Int32)) : Option (Int32)).bind fun v18 =>
  (if v18 = 0 then some ((1 : Int32), M17) else j15 v18 M17) else j15 x1 M10)
theorem anyC_l9 (g77 : Nat → Nat → Int32 → Int32 → ZI → Option (Int32 × ZI)) (a3 : Int32) (n : Nat) (x1 x2 x3 : Int32) (M4 : ZI) : f76_l9 g77 119 143 1 a3 (n + 1) x1 x2 x3 M4 = (if x3 < (400 : Int32) then (g77 119 143 1 a3 M4).bind fun (v7, M8) => (if v7 = 0 then some ((0 : Int32), M8) else ((if x2 = 0 then some M8 else (f74_add 143 (261 : Int32) (0 : Int32) M8).bind fun M9 => some M9) : Option (ZI)).bind fun M10 => anyTailC g77 a3 n x1 x3 M10) else (f70_refuse 119 (1 : Int32) M4).bind fun (v5, M6) => if zbl v5 = true then some (v5, M6) else none) := rfl
def anyRestC (g177 : ZI → Option (Int32 × ZI)) (x1 : Bool) (hh : Nat) (p : Int32 × ZI) : Option (Int32 × ZI) := match p with | (v, M2) => if v = 0 then some ((0 : Int32), M2) else if x1 = true then (f191_rules (41 : Int32) M2).bind fun M7 => f188_l9 (f189_anyOf_b g177) hh M7 else f188_l9 (f189_anyOf_b g177) hh M2
theorem anyC_tail {b : Nat → Nat} {t n N d h ms c0 : Nat} {A0 B0 As Bs : ZI} {g77 : Nat → Nat → Int32 → Int32 → ZI → Option (Int32 × ZI)} {g177 : ZI → Option (Int32 × ZI)} (hC : CX 3 b t n N A0 B0) (hh64 : h + 2 ≤ 64) (hone : OneC b t N A0 B0 (g77 119 143 1 (znn d)) g177 d h) : ∀ f m x3 c ce gg hh A B (x1 : Bool), N - m < f → N - m < gg → N - m < hh → x3 + (N - m) ≤ 399 → PS 3 b t N A0 B0 A B m → CC A B c → c ≤ m → B 148 27 = znn d → keepC As Bs A B c0 → c0 ≤ ce → ce ≤ c → ms + 1 ≤ m → (x1 = false → ce = c0 ∧ c + ms ≤ c0 + m) → (x1 = true → pushC B c0 ce (h + 2) ∧ c + 1 + ms ≤ c0 + m ∧ c + 1 ≤ m) → pushC B ce c (h + 1) →
    Both A0 B0 (anyTailC g77 (znn d) f (bitI x1) (znn x3) A) ((f189_l9 g177 gg B).bind (anyRestC g177 x1 hh)) (CQ b t N A0 B0 As Bs ms c0 1 (fun B' c' => pushC B' c0 c' (h + 2)))
  | 0, m, x3, c, ce, gg, hh, A, B, x1, h1, h2, h3, h4, hP, hc, hcm, h27, hk, he1, he2, hms, hx0, hx1, hp => by omega
  | f + 1, m, x3, c, ce, gg, hh, A, B, x1, h1, h2, h3, h4, hP, hc, hcm, h27, hk, he1, he2, hms, hx0, hx1, hp => by
    obtain ⟨gg, rfl⟩ : ∃ q, gg = q + 1 := ⟨gg - 1, by omega⟩
    obtain ⟨hh, rfl⟩ : ∃ q, hh = q + 1 := ⟨hh - 1, by omega⟩
    have hN := hC.2.1.1
    have hmN := hP.1.2.2
    have hA7 : A 119 7 = tkK b t m := hP.2.1.2.1
    have hB21 : B 148 21 = tkT 3 b t m := hP.2.2.2.2.1
    have i261 := tk_iff (a := 3) (k := 261) (x := 5) (by decide +kernel) b t m
    have i260 := tk_iff (a := 3) (k := 260) (x := 4) (by decide +kernel) b t m
    have lx : m < N → znn (x3 + 1) < 400 := fun hm => by rw [zl400, zn_lt (by omega) (by decide)]; omega
    -- behind the or that was to be laid
    have orStep : ∀ A' B' c', PS 3 b t N A0 B0 A' B' m → CC A' B' c' → c' ≤ m → keepC As Bs A' B' c0 → c0 ≤ c' → c' + ms ≤ c0 + m → B' 148 27 = znn d → pushC B' c0 c' (h + 2) → Both A0 B0 (((if (A' 119 7) = (260 : Int32) then some (1 : Int32) else some (0 : Int32)) : Option (Int32)).bind fun v18 => (if v18 = 0 then some ((1 : Int32), A') else (f68_forward 119 A').bind fun M14 => f76_l9 g77 119 143 1 (znn d) (f + 1) v18 0 (znn x3 + (1 : Int32)) M14)) (f188_l9 (f189_anyOf_b g177) (hh + 1) B') (CQ b t N A0 B0 As Bs ms c0 1 (fun B' c' => pushC B' c0 c' (h + 2))) := by
      intro A' B' c' p1 p2 p3 p4 p5 p6 p7 p8
      rw [f188_l9, show A' 119 7 = tkK b t m from p1.2.1.2.1, show B' 148 21 = tkT 3 b t m from p1.2.2.2.2.1]
      by_cases k260 : tkK b t m = 260
      · have hm : m < N := pos_N hC p1 k260 (by decide)
        obtain ⟨A1, B1, e1, e2, e3, e4, e5⟩ := fwdC hC p1 p2 hm
        rw [if_pos k260, if_pos (i260.mp k260), Option.bind_some, if_neg (show ¬ (1 : Int32) = 0 by decide), e1, e2, Option.bind_some, Option.bind_some, anyC_l9, zadd1, if_pos (lx hm), f189_anyOf_b, Option.bind_assoc]
        refine both_bind (hone (m + 1) c' A1 B1 e3 e4 (by omega) (by rw [e5.2.2.1 27 rfl]; exact p7)) (fun _ => rfl) (fun _ => rfl) (fun A2 B2 hq => ?_)
        obtain ⟨m2, c2, q1, q2, q3, q4, q5, q6, q7⟩ := hq
        have hm2 := q1.1.2.2
        dsimp only
        rw [if_neg (show ¬ (1 : Int32) = 0 by decide), if_neg (show ¬ (1 : Int32) = 0 by decide), if_pos rfl, Option.bind_some]
        have K := keepC_trans e5 q3 (Nat.le_refl _)
        exact anyC_tail hC hh64 hone f m2 (x3 + 1) c2 c' zfu hh A2 B2 true (by omega) (by rw [zfu_eq]; omega) (by omega) (by omega) q1 q2 (by omega) (by rw [K.2.2.1 27 rfl]; exact p7) (keepC_trans p4 K p5) p5 q5 (by omega) (fun hc => absurd hc (by decide)) (fun _ => ⟨pushC_keep p8 K.2.2.2, by omega, by omega⟩) (pushC_mono q7 (by omega))
      · rw [if_neg k260, if_neg (fun hx => k260 (i260.mpr hx)), Option.bind_some, if_pos rfl]
        exact Or.inr ⟨A', B', rfl, rfl, m, c', p1, p2, p4, by omega, p5, p6, p8⟩
    unfold anyTailC
    rw [f189_l9, hA7, hB21]
    by_cases k261 : tkK b t m = 261
    · have hm : m < N := pos_N hC hP k261 (by decide)
      obtain ⟨A1, B1, e1, e2, e3, e4, e5⟩ := fwdC hC hP hc hm
      rw [if_pos k261, if_pos (i261.mp k261), Option.bind_some, zlet_e, if_neg (show ¬ (1 : Int32) = 0 by decide)]
      dsimp only
      rw [e1, e2, Option.bind_some, Option.bind_some, anyC_l9, zadd1, if_pos (lx hm), Option.bind_assoc]
      refine both_bind (hone (m + 1) c A1 B1 e3 e4 (by omega) (by rw [e5.2.2.1 27 rfl]; exact h27)) (fun _ => rfl) (fun _ => rfl) (fun A2 B2 hq => ?_)
      obtain ⟨m2, c2, q1, q2, q3, q4, q5, q6, q7⟩ := hq
      have hm2 := q1.1.2.2
      dsimp only
      obtain ⟨A3, B3, l1, l2, l3, l4, l5, l6⟩ := layC q1 q2 (by omega) (by have := pushC_lt q7 (by omega); omega) rl261
      rw [if_neg (show ¬ (1 : Int32) = 0 by decide), if_neg (show ¬ (1 : Int32) = 0 by decide), if_neg (show ¬ (1 : Int32) = 0 by decide), l1, l2, Option.bind_some, Option.bind_some, Option.bind_some]
      have K := keepC_trans (keepC_trans e5 q3 (Nat.le_refl _)) l5 q5
      refine anyC_tail hC hh64 hone f m2 (x3 + 1) (c2 + 1) ce gg (hh + 1) A3 B3 x1 (by omega) (by omega) (by omega) (by omega) l3 l4 (by omega) (by rw [K.2.2.1 27 rfl]; exact h27) (keepC_trans hk K (by omega)) he1 (by omega) (by omega) (fun hf => ⟨(hx0 hf).1, by have := (hx0 hf).2; omega⟩) (fun ht => ⟨pushC_keep (hx1 ht).1 (fun j hj => K.2.2.2 j (by omega)), by have := (hx1 ht).2.1; omega, by have := (hx1 ht).2.2; omega⟩) ?_
      exact pushC_two (pushC_keep hp K.2.2.2) (pushC_keep q7 l5.2.2.2) (Nat.le_refl _) (by omega) 40 l6 (Or.inl rfl)
    · rw [if_neg k261, if_neg (fun hx => k261 (i261.mpr hx)), Option.bind_some, Option.bind_some, zlet_e, if_pos rfl]
      cases x1 with
      | false =>
        obtain ⟨rfl, hx0⟩ := hx0 rfl
        unfold anyRestC bitI
        dsimp only
        rw [if_neg (show ¬ (1 : Int32) = 0 by decide), if_neg (show ¬ false = true by decide), if_neg (show ¬ false = true by decide), if_pos rfl, Option.bind_some]
        exact orStep A B c hP hc hcm hk he2 hx0 h27 (pushC_mono hp (by omega))
      | true =>
        obtain ⟨hp1, hx1, hx2⟩ := hx1 rfl
        unfold anyRestC bitI
        dsimp only
        obtain ⟨A3, B3, l1, l2, l3, l4, l5, l6⟩ := layC hP hc (by omega) (by have := pushC_lt hp (by omega); omega) rl260
        rw [if_neg (show ¬ (1 : Int32) = 0 by decide), if_pos (show true = true from rfl), if_pos (show true = true from rfl), if_neg (show ¬ (1 : Int32) = 0 by decide), l1, l2, Option.bind_some, Option.bind_some, Option.bind_some]
        refine orStep A3 B3 (c + 1) l3 l4 (by omega) (keepC_trans hk l5 (by omega)) (by omega) (by omega) (by rw [l5.2.2.1 27 rfl]; exact h27) ?_
        exact pushC_two (pushC_keep hp1 (fun j hj => l5.2.2.2 j (by omega))) (pushC_keep hp l5.2.2.2) (Nat.le_refl _) (by omega) 41 l6 (Or.inr rfl)
theorem anyC_step {b : Nat → Nat} {t n N d h : Nat} {A0 B0 : ZI} {g77 : Nat → Nat → Int32 → Int32 → ZI → Option (Int32 × ZI)} {g177 : ZI → Option (Int32 × ZI)} (hC : CX 3 b t n N A0 B0) (hh64 : h + 2 ≤ 64) (hone : OneC b t N A0 B0 (g77 119 143 1 (znn d)) g177 d h) : OneC b t N A0 B0 (f76_readAny_b g77 119 143 1 (znn d)) (f188_aRule_b (f189_anyOf_b g177)) d (h + 2) := by
  intro m c A B hP hc hcm h27
  have hN := hC.2.1.1
  have key : ∀ F, 401 < F → Both A0 B0 (f76_l9 g77 119 143 1 (znn d) F 0 0 0 A) (f188_aRule_b (f189_anyOf_b g177) B) (CQ b t N A0 B0 A B m c 1 (fun B' c' => pushC B' c c' (h + 2))) := by
    intro F hF
    obtain ⟨F, rfl⟩ : ∃ q, F = q + 1 := ⟨F - 1, by omega⟩
    unfold f188_aRule_b
    rw [anyC_l9, if_pos (show (0 : Int32) < 400 by decide), show f189_anyOf_b g177 B = (g177 B).bind fun (v1, M2) => (if v1 = 0 then some ((0 : Int32), M2) else f189_l9 g177 zfu M2) from rfl, Option.bind_assoc]
    refine both_bind (hone m c A B hP hc hcm h27) (fun _ => rfl) (fun _ => rfl) (fun A2 B2 hq => ?_)
    obtain ⟨m2, c2, q1, q2, q3, q4, q5, q6, q7⟩ := hq
    dsimp only
    rw [if_neg (show ¬ (1 : Int32) = 0 by decide), if_neg (show ¬ (1 : Int32) = 0 by decide), if_pos rfl, Option.bind_some]
    exact anyC_tail hC hh64 hone F m2 0 c2 c zfu zfu A2 B2 false (by omega) (by rw [zfu_eq]; omega) (by rw [zfu_eq]; omega) (by omega) q1 q2 (by omega) (by rw [q3.2.2.1 27 rfl]; exact h27) q3 (Nat.le_refl _) q5 q4 (fun _ => ⟨rfl, by omega⟩) (fun hc => absurd hc (by decide)) (pushC_mono q7 (by omega))
  have := key zfu (by rw [zfu_eq]; omega)
  exact this
theorem kind_ne {b : Nat → Nat} {t s : Nat} (hb : tapB b t) (hs : s < t) : ¬ (if isLet (b s) = true then kindOf b s (runEnd isLet b t (t - s) s) 24 0 else if isDig (b s) = true then (if 4 < runEnd isDig b t (t - s) s - s then -3 else -2) else if signB (b s) = true then znn (b s) else -3) = (-1 : Int32) := by
  have hx := hb.2 s hs
  split
  · have : ∀ d k, k + d ≤ 24 → kindOf b s (runEnd isLet b t (t - s) s) d k ≠ -1 := by
      intro d
      induction d with
      | zero => intro k _; unfold kindOf; decide
      | succ d ih =>
        intro k hk
        unfold kindOf
        split
        · exact zn_ne_neg (by omega)
        · exact ih (k + 1) (by omega)
    exact this 24 0 (by omega)
  · split
    · split <;> decide
    · split
      · exact zn_ne_neg (by omega)
      · decide
theorem rule_ok {b : Nat → Nat} {t n N : Nat} {A0 B0 : ZI} (hC : CX 3 b t n N A0 B0) : ∀ D d, d + D = 8 → (∀ F G, 2 * D + 1 ≤ F → 3 * D + 1 ≤ G → OneC b t N A0 B0 (f77_readOne F 119 143 1 (znn d)) (f190_oneOf G) d (1 + 2 * D)) ∧ ∀ F G, 2 * D + 2 ≤ F → 3 * D + 3 ≤ G → OneC b t N A0 B0 (f76_readAny F 119 143 1 (znn d)) (f188_aRule G) d (3 + 2 * D) := by
  intro D
  induction D with
  | zero =>
    intro d hd
    have one : ∀ F G, 2 * 0 + 1 ≤ F → 3 * 0 + 1 ≤ G → OneC b t N A0 B0 (f77_readOne F 119 143 1 (znn d)) (f190_oneOf G) d (1 + 2 * 0) := by
      intro F G hF hG
      obtain ⟨F, rfl⟩ : ∃ q, F = q + 1 := ⟨F - 1, by omega⟩
      obtain ⟨G, rfl⟩ : ∃ q, G = q + 1 := ⟨G - 1, by omega⟩
      rw [fe77, fe190]
      exact oneC_step (h6 := 0) hC (by omega) (fun hd8 => by omega) (by omega) (fun hd8 => by omega)
    refine ⟨one, fun F G hF hG => ?_⟩
    obtain ⟨F, rfl⟩ : ∃ q, F = q + 1 := ⟨F - 1, by omega⟩
    obtain ⟨G, rfl⟩ : ∃ q, G = q + 2 := ⟨G - 2, by omega⟩
    have e := anyC_step hC (by decide) (one F G (by omega) (by omega))
    rw [fe76, fe188, fe189]
    exact e
  | succ D ih =>
    intro d hd
    have one : ∀ F G, 2 * (D + 1) + 1 ≤ F → 3 * (D + 1) + 1 ≤ G → OneC b t N A0 B0 (f77_readOne F 119 143 1 (znn d)) (f190_oneOf G) d (1 + 2 * (D + 1)) := by
      intro F G hF hG
      obtain ⟨F, rfl⟩ : ∃ q, F = q + 1 := ⟨F - 1, by omega⟩
      obtain ⟨G, rfl⟩ : ∃ q, G = q + 1 := ⟨G - 1, by omega⟩
      obtain ⟨ih1, ih2⟩ := ih (d + 1) (by omega)
      rw [fe77, fe190]
      exact oneC_step hC (by omega) (fun hd8 => ih2 F G (by omega) (by omega)) (by omega) (fun hd8 => by omega)
    refine ⟨one, fun F G hF hG => ?_⟩
    obtain ⟨F, rfl⟩ : ∃ q, F = q + 1 := ⟨F - 1, by omega⟩
    obtain ⟨G, rfl⟩ : ∃ q, G = q + 2 := ⟨G - 2, by omega⟩
    have e := anyC_step hC (by omega) (one F G (by omega) (by omega))
    rw [fe76, fe188, fe189, show 3 + 2 * (D + 1) = 1 + 2 * (D + 1) + 2 by omega]
    exact e
def RuleQ (b : Nat → Nat) (t N : Nat) (A0 B0 A' B' : ZI) : Prop := ∃ m c, PS 3 b t N A0 B0 A' B' m ∧ CC A' B' c ∧ c ≤ 400 ∧ (c = 0 ∨ pushC B' 0 c 19)
theorem council_read {b : Nat → Nat} {t n N : Nat} {A0 B0 A B : ZI} (hC : CX 3 b t n N A0 B0) (h : PS 3 b t N A0 B0 A B 0) : Both A0 B0 (f89_readCouncil 119 A) (f187_readsCouncil B) (RuleQ b t N A0 B0) := by
  have hN := hC.2.1.1
  have hP : PS 3 b t N A0 B0 (zs (zs A 142 1 0) 143 3 0) (zs (zs (zs B 148 17 0) 148 18 0) 148 27 0) 0 := PS_of h (fun o ho => by rw [zs_df (by omega), zs_df (by omega)]) (fun o o1 o2 => by rw [zs_df o1, zs_df o1, zs_df o1]) (fun j hj => by rw [zs_sm, if_neg (by rintro rfl; exact absurd hj (by decide)), zs_sm, if_neg (by rintro rfl; exact absurd hj (by decide)), zs_sm, if_neg (by rintro rfl; exact absurd hj (by decide))])
  have hc : CC (zs (zs A 142 1 0) 143 3 0) (zs (zs (zs B 148 17 0) 148 18 0) 148 27 0) 0 := ⟨0, by rw [zs_sm, if_pos rfl]; rfl, by rw [zs_sm, if_neg (by decide), zs_sm, if_pos rfl]; rfl, by rw [zs_df (by decide), zs_sm, if_pos rfl]; rfl, by rw [zs_sm, if_neg (by decide), zs_sm, if_neg (by decide), zs_sm, if_pos rfl]; rfl, Nat.le_refl _, Iff.rfl, fun j hj => by omega⟩
  have h27 : (zs (zs (zs B 148 17 0) 148 18 0) 148 27 0) 148 27 = znn 0 := by rw [zs_sm, if_pos rfl]; rfl
  have iend := fun m => tk_iff (a := 3) (k := -1) (x := 0) (by decide +kernel) b t m
  unfold f89_readCouncil f187_readsCouncil
  rw [zlet_e, zlet_e, zlet_e, zlet_e, zlet_e]
  show Both A0 B0 (if (zs (zs A 142 1 0) 143 3 0) 119 7 = -1 then _ else _) _ _
  generalize zs (zs A 142 1 0) 143 3 0 = A1 at *
  generalize zs (zs (zs B 148 17 0) 148 18 0) 148 27 0 = B1 at *
  rw [show A1 119 7 = tkK b t 0 from hP.2.1.2.1, show B1 148 21 = tkT 3 b t 0 from hP.2.2.2.2.1]
  by_cases k0 : tkK b t 0 = -1
  · rw [if_pos k0, if_pos ((iend 0).mp k0)]
    exact Or.inr ⟨A1, B1, rfl, rfl, 0, 0, hP, hc, by omega, Or.inl rfl⟩
  · rw [if_neg k0, if_neg (fun hx => k0 ((iend 0).mpr hx))]
    have hr : OneC b t N A0 B0 (f76_readAny zgf 119 143 1 0) (f188_aRule zgf) 0 19 := (rule_ok hC 8 0 rfl).2 zgf zgf (by unfold zgf; decide) (by unfold zgf; decide)
    refine both_bind (hr 0 0 A1 B1 hP hc (Nat.le_refl _) h27) (fun _ => rfl) (fun _ => rfl) (fun A2 B2 hq => ?_)
    obtain ⟨m2, c2, q1, q2, q3, q4, q5, q6, q7⟩ := hq
    have hm2 := q1.1.2.2
    dsimp only
    rw [if_neg (show ¬ (1 : Int32) = 0 by decide), if_neg (show ¬ (1 : Int32) = 0 by decide)]
    unfold f78_skip
    have hA2 : A2 119 7 = tkK b t m2 := q1.2.1.2.1
    have hB2 : B2 148 21 = tkT 3 b t m2 := q1.2.2.2.2.1
    simp only [hA2, hB2]
    by_cases k2 : tkK b t m2 = -1
    · have hmN : m2 = N := by
        by_cases hmN : m2 = N
        · exact hmN
        · exact absurd (by unfold tkK lexKind at k2; rw [if_pos (hC.2.1.2.2 m2 (by omega))] at k2; exact k2) (kind_ne hC.1.1 (hC.2.1.2.2 m2 (by omega)))
      have hf : f68_forward 119 A2 = some A2 := by
        unfold f68_forward
        rw [q1.2.1.1, q1.1.1.2 5 (by decide) (by decide) (by decide) (by decide) (by decide), hC.2.2.1.2.1, zadd1, if_neg (by rw [zn_lt (by omega) (by omega)]; omega)]
      rw [if_pos k2, if_pos ((iend m2).mp k2), hf]
      exact Or.inr ⟨A2, B2, rfl, rfl, m2, c2, q1, q2, by omega, Or.inr q7⟩
    · obtain ⟨A', B', r1, r2, r3⟩ := rfz hC q1 1
      rw [if_neg k2, if_neg (fun hx => k2 ((iend m2).mpr hx)), r1, r2]
      exact Or.inl ⟨A', B', rfl, rfl, r3⟩
