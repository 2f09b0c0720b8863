-- ===== in thought: given, soonest =====
theorem lie_ref {B : ZI} (F : Nat → Int32 → ZI → Option ZI) (hF : ∀ n x M, F (n + 1) x M = (if x < (48 : Int32) then if zin x 2064 = true then if zin x 48 = true then zlet (zs M 152 (zi x) (M 149 (zi x))) fun (M5 : ZI) => F n (x + (1 : Int32)) M5 else none else none else some M)) : ∃ B', F zfu 0 B = some B' ∧ (∀ o, o ≠ 152 → B' o = B o) ∧ ∀ j, j < 48 → B' 152 j = B 149 j := by
  obtain ⟨b, h1, h2, h3⟩ := zloop (fun fu (b : ZI) c => F fu c b) 48 (fun i b => (∀ o, o ≠ 152 → b o = B o) ∧ ∀ j, j < i → b 152 j = B 149 j) (fun b => (∀ o, o ≠ 152 → b o = B o) ∧ ∀ j, j < 48 → b 152 j = B 149 j) (fun fu i b hi hb => by
    obtain ⟨g1, g2⟩ := hb
    left
    (try dsimp only)
    rw [hF, if_pos (show znn i < 48 by rw [zl48, zn_lt (by omega) (by decide)]; exact hi), if_pos ((zn_zin (by omega)).mpr (by omega)), if_pos ((zn_zin (by omega)).mpr (by omega)), zn_zi (by omega), zadd1, g1 149 (by decide)]
    simp only [zlet]
    refine ⟨_, ⟨fun o ho => ?_, fun j hj => ?_⟩, rfl⟩
    · rw [zs_df ho]; exact g1 o ho
    · rw [zs_sm]
      by_cases hji : j = i
      · rw [if_pos hji, hji]
      · rw [if_neg hji]; exact g2 j (by omega)) (fun fu b hb => by
    refine ⟨b, hb, ?_⟩
    (try dsimp only)
    rw [hF, if_neg (by decide)]) zfu 0 B (by omega) (by rw [zfu_eq]; omega) ⟨fun _ _ => rfl, fun j hj => by omega⟩
  exact ⟨b, h1, h2, h3⟩
theorem unlie_ref {B : ZI} (F : Nat → Int32 → ZI → Option ZI) (hF : ∀ n x M, F (n + 1) x M = (if x < (48 : Int32) then if zin x 48 = true then if zin x 2064 = true then zlet (zs M 149 (zi x) (M 152 (zi x))) fun (M5 : ZI) => F n (x + (1 : Int32)) M5 else none else none else some M)) : ∃ B', F zfu 0 B = some B' ∧ (∀ o, o ≠ 149 → B' o = B o) ∧ ∀ j, B' 149 j = if j < 48 then B 152 j else B 149 j := by
  obtain ⟨b, h1, h2, h3⟩ := zloop (fun fu (b : ZI) c => F fu c b) 48 (fun i b => (∀ o, o ≠ 149 → b o = B o) ∧ ∀ j, b 149 j = if j < i then B 152 j else B 149 j) (fun b => (∀ o, o ≠ 149 → b o = B o) ∧ ∀ j, b 149 j = if j < 48 then B 152 j else B 149 j) (fun fu i b hi hb => by
    obtain ⟨g1, g2⟩ := hb
    left
    (try dsimp only)
    rw [hF, if_pos (show znn i < 48 by rw [zl48, zn_lt (by omega) (by decide)]; exact hi), if_pos ((zn_zin (by omega)).mpr (by omega)), if_pos ((zn_zin (by omega)).mpr (by omega)), zn_zi (by omega), zadd1, g1 152 (by decide)]
    simp only [zlet]
    refine ⟨_, ⟨fun o ho => ?_, fun j => ?_⟩, rfl⟩
    · rw [zs_df ho]; exact g1 o ho
    · rw [zs_sm, g2]
      by_cases hji : j = i
      · rw [if_pos hji, if_pos (by omega), hji]
      · rw [if_neg hji]
        by_cases h : j < i
        · rw [if_pos h, if_pos (by omega)]
        · rw [if_neg h, if_neg (by omega)]) (fun fu b hb => by
    refine ⟨b, hb, ?_⟩
    (try dsimp only)
    rw [hF, if_neg (by decide)]) zfu 0 B (by omega) (by rw [zfu_eq]; omega) ⟨fun _ _ => rfl, fun j => by rw [if_neg (by omega)]⟩
  exact ⟨b, h1, h2, h3⟩
/-- where both stand in thought, i YEARS on -/
def thIs (A B A1 B1 : ZI) (n k c b y : Nat) : Prop := fixIs A1 1 (B1 149) n k c b ∧ fixOk (B1 149) n k c b ∧ momIs A1 114 (B1 149) n ∧ momOk (B1 149) n y ∧ B1 148 30 = 0 ∧ (∀ j, j < 48 → B1 152 j = B 149 j) ∧ (∀ j, 48 ≤ j → B1 149 j = B 149 j) ∧ (∀ o, o ≠ 16 → o ≠ 33 → o ≠ 40 → o ≠ 41 → ¬ (114 ≤ o ∧ o ≤ 118) → A1 o = A o) ∧ (∀ o, o ≠ 148 → o ≠ 149 → o ≠ 152 → o ≠ 159 → o ≠ 160 → B1 o = B o) ∧ ∀ j, j ≠ 30 → B1 148 j = B 148 j
theorem th_start {A B B1 : ZI} {n k c b : Nat} (h0 : Inv5 A B n k c b) (h1 : ∀ o, o ≠ 152 → B1 o = B o) (h2 : ∀ j, j < 48 → B1 152 j = B 149 j) : ∃ A1, f21_copy 114 2 A = some A1 ∧ thIs A B A1 (zs B1 148 30 0) n k c b 999 := by
  have hn10 := h0.2.1.1.1
  obtain ⟨A1, a1, a2, a3⟩ := copy_mom (t := 114) h0.2.2.1 hn10 (by omega)
  have e149 : (zs B1 148 30 0) 149 = B 149 := by rw [zs_df (by decide)]; exact h1 149 (by decide)
  refine ⟨A1, a1, ?_, ?_, ?_, ?_, by rw [zs_sm, if_pos rfl], fun j hj => by rw [zs_df (by decide)]; exact h2 j hj, fun j hj => by rw [e149], fun o _ _ _ _ ho => a3 o ho, fun o q1 q2 q3 q4 q5 => by rw [zs_df q1]; exact h1 o q3, fun j hj => by rw [zs_sm, if_neg hj, h1 148 (by decide)]⟩
  · rw [e149]; exact fixIs_of h0.1 (fun o ho => a3 o (by omega))
  · rw [e149]; exact h0.2.1
  · rw [e149]; exact a2
  · rw [e149]; exact h0.2.2.2.1
theorem th_step {A B A1 B1 : ZI} {n k c b y : Nat} (h : thIs A B A1 B1 n k c b y) : ∃ x v A2 B2, f25_pass 1 114 0 A1 = some (x, A2) ∧ f204_aYear B1 = some (v, B2) ∧ thIs A B A2 B2 n k c b (y + 1) ∧ yAns (B1 149) n x v := by
  obtain ⟨h1, h2, h3, h4, h5, h6, h7, h8, h9, h10⟩ := h
  obtain ⟨x, v, A2, B2, p1, p2, p3, p4, p5, p6, -, p8, p9, p10, p11⟩ := pass_eq (a := 114) (r := 0) (Or.inr ⟨rfl, rfl, h5⟩) h1 h2 h3 h4
  refine ⟨x, v, A2, B2, p1, p2, ⟨p3, p4, p5, p6, by rw [p10 148 (by decide) (by decide) (by decide)]; exact h5, fun j hj => by rw [p10 152 (by decide) (by decide) (by decide)]; exact h6 j hj, fun j hj => (p9 rfl j hj).trans (h7 j hj), fun o q1 q2 q3 q4 q5 => (p11 o q1 q2 q3 q4 (by omega) (by omega) (by omega) (by omega) (fun hc => absurd hc (by decide))).trans (h8 o q1 q2 q3 q4 q5), fun o q1 q2 q3 q4 q5 => (p10 o q2 q4 q5).trans (h9 o q1 q2 q3 q4 q5), fun j hj => by rw [p10 148 (by decide) (by decide) (by decide)]; exact h10 j hj⟩, p8⟩
theorem th_end {A B A1 B1 B2 : ZI} {n k c b y : Nat} (h : thIs A B A1 B1 n k c b y) (h1 : ∀ o, o ≠ 149 → B2 o = B1 o) (h2 : ∀ j, B2 149 j = if j < 48 then B1 152 j else B1 149 j) : scrA A A1 ∧ scrB B B2 ∧ (∀ o, 148 ≤ o → A1 o = A o) ∧ ∀ o, o < 148 → B2 o = B o := by
  obtain ⟨-, -, -, -, -, h6, h7, h8, h9, h10⟩ := h
  have e149 : B2 149 = B 149 := by
    funext j
    rw [h2]
    by_cases hj : j < 48
    · rw [if_pos hj]; exact h6 j hj
    · rw [if_neg hj]; exact h7 j (by omega)
  refine ⟨scrA_of (fun o q1 q2 q3 q4 _ _ q7 => h8 o q1 q2 q3 q4 q7), ⟨fun o q1 q2 q3 q4 q5 => ?_, fun j hj => by rw [h1 148 (by decide)]; exact h10 j hj⟩, fun o ho => h8 o (by omega) (by omega) (by omega) (by omega) (by omega), fun o ho => (h1 o (by omega)).trans (h9 o (by omega) (by omega) (by omega) (by omega) (by omega))⟩
  by_cases h149 : o = 149
  · rw [h149]; exact e149
  · exact (h1 o h149).trans (h9 o q1 h149 q2 q3 q4)
theorem sync_given (x y : Int32) : sync (f100_given x y) (f235_given x y) := sync_q (by
  intro A B n k c b h0
  have hn10 := h0.2.1.1.1
  have bad : f100_given x y A = some (-2, A) → f235_given x y B = some (-2, B) → ∃ v A' B', f100_given x y A = some (v, A') ∧ f235_given x y B = some (v, B') ∧ scrA A A' ∧ scrB B B' ∧ (∀ o, 148 ≤ o → A' o = A o) ∧ ∀ o, o < 148 → B' o = B o := fun e1 e2 => ⟨-2, A, B, e1, e2, scrA_refl A, scrB_refl B, fun _ _ => rfl, fun _ _ => rfl⟩
  rcases within_ex (x := x) (lo := 1) (hi := 40) (by decide) (by decide) with ⟨N, hN1, hN, rfl, e1, e2⟩ | ⟨e1, e2⟩
  case inr => exact bad (by unfold f100_given; rw [show f13_within x 1 40 = some 0 from e1]; rfl) (by unfold f235_given; rw [show f149_isIn x 1 40 = some 0 from e2]; rfl)
  rcases within_ex (x := y) (lo := 0) (hi := 2) (by decide) (by decide) with ⟨u, -, hu, rfl, e3, e4⟩ | ⟨e3, e4⟩
  case inr => exact bad (by unfold f100_given; rw [show f13_within (znn N) 1 40 = some 1 from e1, show f13_within y 0 2 = some 0 from e3]; rfl) (by unfold f235_given; rw [show f149_isIn (znn N) 1 40 = some 1 from e2, show f149_isIn y 0 2 = some 0 from e4]; rfl)
  obtain ⟨B1, b1, b2, b3⟩ := lie_ref (B := B) f235_l24 (fun _ _ _ => rfl)
  obtain ⟨A1, a1, a2⟩ := th_start h0 b2 b3
  obtain ⟨⟨x1, x2, A2⟩, ⟨y1, y2, B2⟩, g1, g2, g3, g4, g5⟩ := zpair (fun f (a : Int32 × Int32 × ZI) c => f100_l44 (znn N) f a.1 a.2.1 c a.2.2) (fun f (a : Int32 × Int32 × ZI) c => f235_l61 (znn N) f a.1 a.2.1 c a.2.2) N (fun i a d => thIs A B a.2.2 d.2.2 n k c b (999 + i) ∧ a.2.1 = d.1 ∧ zmax a.1 (-1) = d.2.1) (fun a d => thIs A B a.2.2 d.2.2 n k c b (999 + N) ∧ a.2.1 = d.1 ∧ zmax a.1 (-1) = d.2.1) (fun f i a d hi had => by
      obtain ⟨w1, w2, A3⟩ := a
      obtain ⟨v1, v2, B3⟩ := d
      obtain ⟨ht, rfl, hz⟩ := had
      simp only at ht hz
      obtain ⟨xx, v, A4, B4, p1, p2, p3, p4⟩ := th_step ht
      have ans := yAns_neg hn10 p4
      left
      (try dsimp only)
      rw [f100_l44, f235_l61, if_pos ((zn_lt (by omega) (by omega)).mpr hi), if_pos ((zn_lt (by omega) (by omega)).mpr hi), p1, p2, zadd1]
      simp only [Option.bind_some, zlet]
      by_cases hr : B3 149 1 < B3 149 50
      · have hx2 : ¬ xx = -2 := fun hc => (ans.2.1.mp hc) hr
        rw [if_neg hx2, if_pos hr]
        simp only [Option.bind_some]
        exact ⟨(xx, w2, A4), (w2, v, B4), ⟨by rw [show 999 + (i + 1) = 999 + i + 1 by omega]; exact p3, rfl, ans.2.2.1⟩, rfl, by rw [Int32.add_zero]⟩
      · have hx2 : xx = -2 := ans.2.1.mpr hr
        rw [if_pos hx2, if_neg hr]
        simp only [Option.bind_some]
        exact ⟨(xx, w2 + 1, A4), (w2 + 1, v, B4), ⟨by rw [show 999 + (i + 1) = 999 + i + 1 by omega]; exact p3, rfl, ans.2.2.1⟩, rfl, rfl⟩) (fun f a d had => by
      refine ⟨a, d, had, ?_, ?_⟩
      · (try dsimp only)
        rw [f100_l44, if_neg (by rw [zn_lt (by omega) (by omega)]; omega)]
      · (try dsimp only)
        rw [f235_l61, if_neg (by rw [zn_lt (by omega) (by omega)]; omega)]) zfu 0 (-1, 0, A1) (0, -1, zs B1 148 30 0) (by omega) (by rw [zfu_eq]; omega) ⟨a2, rfl, show zmax (-1) (-1) = -1 by decide⟩
  simp only at g3 g4 g5
  subst g4
  obtain ⟨B3, d1, d2, d3⟩ := unlie_ref (B := B2) f235_l121 (fun _ _ _ => rfl)
  have hend := th_end g3 d2 d3
  have g1 : f100_l44 (znn N) zfu (-1) 0 0 A1 = some (x1, x2, A2) := g1
  have g2 : f235_l61 (znn N) zfu 0 (-1) 0 (zs B1 148 30 0) = some (x2, y2, B2) := g2
  have hu3 : u = 0 ∨ u = 1 ∨ u = 2 := by omega
  have m7 : A2 114 7 = B2 149 3 := g3.2.2.1.1.2.2.2.1
  have m27 : A2 2 7 = B2 152 3 := by
    rw [g3.2.2.2.2.2.1 3 (by decide), g3.2.2.2.2.2.2.2.1 2 (by decide) (by decide) (by decide) (by decide) (by omega)]
    exact h0.2.2.1.1.2.2.2.1
  have cls : f100_given (znn N) (znn u) A = some (if u = 0 then zmax x1 (-1) else if u = 1 then x2 else A2 114 7 - A2 2 7, A2) := by
    unfold f100_given
    rw [show f13_within (znn N) 1 40 = some 1 from e1, show f13_within (znn u) 0 2 = some 1 from e3, a1]
    simp only [Option.bind_some]
    rw [if_neg (by decide), if_neg (by decide), g1]
    rcases hu3 with rfl | rfl | rfl <;> rfl
  have ref : f235_given (znn N) (znn u) B = some (if u = 0 then y2 else if u = 1 then x2 else B2 149 3 - B2 152 3, B3) := by
    unfold f235_given
    rw [show f149_isIn (znn N) 1 40 = some 1 from e2, show f149_isIn (znn u) 0 2 = some 1 from e4, b1]
    simp only [Option.bind_some, zlet]
    rw [if_neg (by decide), if_neg (by decide), g2]
    simp only [Option.bind_some]
    rw [d1]
    rcases hu3 with rfl | rfl | rfl <;> rfl
  refine ⟨_, A2, B3, cls, ?_, hend⟩
  rw [ref, m7, m27, g5])
theorem sync_soonest (x : Int32) : sync (f130_soonest x) (f236_soonest x) := sync_q (by
  intro A B n k c b h0
  have hn10 := h0.2.1.1.1
  rcases has_eq h0 x with ⟨q, hq, rfl, e1, e2⟩ | ⟨e1, e2⟩
  case inr => exact ⟨-1, A, B, by unfold f130_soonest; rw [e1]; rfl, by unfold f236_soonest; rw [e2]; rfl, scrA_refl A, scrB_refl B, fun _ _ => rfl, fun _ _ => rfl⟩
  obtain ⟨B1, b1, b2, b3⟩ := lie_ref (B := B) f236_l12 (fun _ _ _ => rfl)
  obtain ⟨A1, a1, a2⟩ := th_start h0 b2 b3
  obtain ⟨⟨x1, A2⟩, ⟨y1, B2⟩, g1, g2, ⟨y, g3⟩, g4⟩ := zpair2 (fun f (a : ZI) c => f130_l29 (znn q) f c a) (fun f (d : ZI) c => f236_l45 (znn q) f (-1) c d) 40 (fun i a d => ∃ y, thIs A B a d n k c b y) (fun (a d : Int32 × ZI) => (∃ y, thIs A B a.2 d.2 n k c b y) ∧ a.1 = d.1) (fun f i A3 B3 hi hf had => by
      obtain ⟨y, ht⟩ := had
      obtain ⟨xx, v, A4, B4, p1, p2, p3, p4⟩ := th_step ht
      have ans := (yAns_neg hn10 p4).2.2.2 q hq
      have hlt : znn i < 40 := by rw [zl40, zn_lt (by omega) (by decide)]; exact hi
      (try dsimp only)
      rw [f130_l29, f236_l45, if_pos hlt, if_pos hlt, if_pos rfl, p1, p2, zadd1]
      simp only [Option.bind_some]
      by_cases hx : xx = znn q
      · right
        obtain ⟨m, rfl⟩ : ∃ m, f = m + 1 := ⟨f - 1, by omega⟩
        refine ⟨(znn i, A4), (znn i, B4), ⟨⟨y + 1, p3⟩, rfl⟩, by rw [if_pos hx], ?_⟩
        rw [if_pos (ans.mp hx), f236_l45]
        split
        · rw [if_neg (zn_ne_neg (by omega))]
        · rfl
      · left
        refine ⟨A4, B4, ⟨y + 1, p3⟩, by rw [if_neg hx], by rw [if_neg (fun hc => hx (ans.mpr hc))]⟩) (fun f A3 B3 had => by
      refine ⟨(-1, A3), (-1, B3), ⟨had, rfl⟩, ?_, ?_⟩
      · (try dsimp only)
        rw [f130_l29, if_neg (by decide)]
      · (try dsimp only)
        rw [f236_l45, if_neg (by decide)]) zfu 0 A1 (zs B1 148 30 0) (by omega) (by rw [zfu_eq]; omega) ⟨999, a2⟩
  simp only at g3 g4
  subst g4
  obtain ⟨B3, d1, d2, d3⟩ := unlie_ref (B := B2) f236_l78 (fun _ _ _ => rfl)
  have g1 : f130_l29 (znn q) zfu 0 A1 = some (x1, A2) := g1
  have g2 : f236_l45 (znn q) zfu (-1) 0 (zs B1 148 30 0) = some (x1, B2) := g2
  refine ⟨x1, A2, B3, ?_, ?_, th_end g3 d2 d3⟩
  · unfold f130_soonest
    rw [e1]
    simp only [Option.bind_some]
    rw [if_neg (by decide), a1]
    exact g1
  · unfold f236_soonest
    rw [e2]
    simp only [Option.bind_some, zlet]
    rw [if_neg (by decide), b1]
    simp only [Option.bind_some]
    rw [g2]
    simp only [Option.bind_some]
    rw [d1]
    rfl)
