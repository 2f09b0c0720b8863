-- ===== text of THE LAW: both drafts =====
/-- the steps laid so far, on both sides -/
def LC (A B : ZI) (c : Nat) : Prop := A 125 3 = znn c ∧ B 148 16 = znn c ∧ ∀ j, j < c → opRel (A 126 j) (A 127 j) (B 154 (2 * j)) (B 154 (2 * j + 1))
def lcell (j : Nat) : Bool := decide (j ∈ [16, 20, 21, 22, 23])
/-- what the reading of steps leaves as it was -/
def keepL (A B A' B' : ZI) (c : Nat) : Prop := (∀ o, o ≠ 119 → o ≠ 125 → o ≠ 126 → o ≠ 127 → A' o = A o) ∧ (∀ o, o ≠ 148 → o ≠ 154 → B' o = B o) ∧ (∀ j, lcell j = false → B' 148 j = B 148 j) ∧ ∀ j, j < 2 * c → B' 154 j = B 154 j
theorem keepL_refl (A B : ZI) (c : Nat) : keepL A B A B c := ⟨fun _ _ _ _ _ => rfl, fun _ _ _ => rfl, fun _ _ => rfl, fun _ _ => rfl⟩
theorem keepL_trans {A B A1 B1 A2 B2 : ZI} {c c1 : Nat} (h : keepL A B A1 B1 c) (g : keepL A1 B1 A2 B2 c1) (hc : c ≤ c1) : keepL A B A2 B2 c := ⟨fun o o1 o2 o3 o4 => (g.1 o o1 o2 o3 o4).trans (h.1 o o1 o2 o3 o4), fun o o1 o2 => (g.2.1 o o1 o2).trans (h.2.1 o o1 o2), fun j hj => (g.2.2.1 j hj).trans (h.2.2.1 j hj), fun j hj => (g.2.2.2 j (by omega)).trans (h.2.2.2 j hj)⟩
theorem LC_of {A B A' B' : ZI} {c : Nat} (h : LC A B c) (g1 : ∀ o, 125 ≤ o → o ≤ 127 → A' o = A o) (g2 : B' 148 16 = B 148 16) (g3 : B' 154 = B 154) : LC A' B' c := by
  unfold LC
  rw [g1 125 (by decide) (by decide), g1 126 (by decide) (by decide), g1 127 (by decide) (by decide), g2, g3]
  exact h
/-- both go on -/
theorem fwdL {b : Nat → Nat} {t n N m c : Nat} {A0 B0 A B : ZI} (hC : CX 0 b t n N A0 B0) (h : PS 0 b t N A0 B0 A B m) (hc : LC A B c) (hm : m < N) :
    ∃ A' B', f68_forward 119 A = some A' ∧ f157_next0 B = some B' ∧ PS 0 b t N A0 B0 A' B' (m + 1) ∧ LC A' B' c ∧ keepL A B A' B' c ∧ B' 154 = B 154 := by
  obtain ⟨A', B', e1, e2, e3, e4, e5, e6⟩ := fwd hC h hm
  refine ⟨A', B', e1, e2, e3, LC_of hc (fun o o1 o2 => e4 o (by omega)) (e6 16 (by decide) (by decide) (by decide) (by decide)) (e5 154 (by decide)), ⟨fun o o1 _ _ _ => e4 o o1, fun o o1 _ => e5 o o1, fun j hj => ?_, fun j _ => by rw [e5 154 (by decide)]⟩, e5 154 (by decide)⟩
  exact e6 j (by rintro rfl; exact absurd hj (by decide)) (by rintro rfl; exact absurd hj (by decide)) (by rintro rfl; exact absurd hj (by decide)) (by rintro rfl; exact absurd hj (by decide))
/-- both lay a step -/
theorem layL {b : Nat → Nat} {t N m c : Nat} {A0 B0 A B : ZI} {op arg s v : Int32} (h : PS 0 b t N A0 B0 A B m) (hc : LC A B c) (hc4 : c < 400) (hr : opRel op arg s v) :
    ∃ A' B', f74_add 125 op arg A = some A' ∧ f174_lay s v B = some B' ∧ PS 0 b t N A0 B0 A' B' m ∧ LC A' B' (c + 1) ∧ keepL A B A' B' c ∧ B' 154 = upd (upd (B 154) (2 * c) s) (2 * c + 1) v ∧ B' 154 (2 * c) = s ∧ B' 154 (2 * c + 1) = v := by
  obtain ⟨c1, c2, c3⟩ := hc
  have hz : zin (znn c) 400 = true := (zn_zin (by omega)).mpr hc4
  have e1 : f74_add 125 op arg A = some (zs (zs (zs A 126 c op) 127 c arg) 125 3 (znn (c + 1))) := by
    have k1 : (zs A 126 c op) 125 3 = znn c := by rw [zs_df (by decide)]; exact c1
    have k2 : (zs (zs A 126 c op) 127 c arg) 125 3 = znn c := by rw [zs_df (by decide)]; exact k1
    unfold f74_add
    rw [c1, if_pos (show znn c < 400 by rw [zl400, zn_lt (by omega) (by decide)]; exact hc4), if_pos hz, zn_zi (by omega), show 125 + 1 = 126 from rfl, show 125 + 2 = 127 from rfl, zlet_e, k1, if_pos hz, zn_zi (by omega), zlet_e, k2, zadd1]
    rfl
  have e2 : f174_lay s v B = some (zs (zs (zs B 154 (2 * c) s) 154 (2 * c + 1) v) 148 16 (znn (c + 1))) := by
    have k1 : (zs B 154 (2 * c) s) 148 16 = znn c := by rw [zs_df (by decide)]; exact c2
    have k2 : (zs (zs B 154 (2 * c) s) 154 (2 * c + 1) v) 148 16 = znn c := by rw [zs_df (by decide)]; exact k1
    unfold f174_lay
    rw [c2, zl2, zn_mul, if_pos ((zn_zin (by omega)).mpr (by omega)), zn_zi (by omega), zlet_e, k1, zn_mul, zadd1, if_pos ((zn_zin (by omega)).mpr (by omega)), zn_zi (by omega), zlet_e, k2, zadd1]
    rfl
  have r1 : (zs (zs (zs B 154 (2 * c) s) 154 (2 * c + 1) v) 148 16 (znn (c + 1))) 154 = upd (upd (B 154) (2 * c) s) (2 * c + 1) v := by
    rw [zs_df (by decide), zs_ap, if_pos rfl, zs_ap, if_pos rfl]
  refine ⟨_, _, e1, e2, PS_of h (fun o ho => by rw [zs_df (by omega), zs_df (by omega), zs_df (by omega)]) (fun o o1 o2 => by rw [zs_df o1, zs_df (by omega), zs_df (by omega)]) (fun j hj => by rw [zs_sm, if_neg (by rintro rfl; exact absurd hj (by decide)), zs_df (by decide), zs_df (by decide)]), ⟨by rw [zs_sm, if_pos rfl], by rw [zs_sm, if_pos rfl], fun j hj => ?_⟩, ⟨fun o o1 o2 o3 o4 => by rw [zs_df o2, zs_df o4, zs_df o3], fun o o1 o2 => by rw [zs_df o1, zs_df o2, zs_df o2], fun j hj => by rw [zs_sm, if_neg (by rintro rfl; exact absurd hj (by decide)), zs_df (by decide), zs_df (by decide)], fun j hj => by rw [r1, upd_ap, if_neg (by omega), upd_ap, if_neg (by omega)]⟩, r1, ?_, ?_⟩
  · rw [r1, zs_df (by decide), zs_df (by decide), zs_sm, zs_df (by decide), zs_sm, zs_df (by decide), upd_ap, upd_ap, upd_ap, upd_ap]
    by_cases hjc : j = c
    · rw [hjc, if_pos rfl, if_pos rfl, if_neg (by omega), if_pos rfl, if_pos rfl]
      exact hr
    · rw [if_neg hjc, if_neg hjc, if_neg (by omega), if_neg (by omega), if_neg (by omega), if_neg (by omega)]
      exact c3 j (by omega)
  · rw [r1, upd_ap, if_neg (by omega), upd_ap, if_pos rfl]
  · rw [r1, upd_ap, if_pos rfl]
/-- a reading of steps went well -/
def LQ (b : Nat → Nat) (t N : Nat) (A0 B0 A B : ZI) (m c e : Nat) (R : ZI → Nat → Prop) (A' B' : ZI) : Prop := ∃ m' c', PS 0 b t N A0 B0 A' B' m' ∧ LC A' B' c' ∧ keepL A B A' B' c ∧ m + e ≤ m' ∧ c ≤ c' ∧ c' + m ≤ c + m' ∧ R B' c'
theorem LQ_step {b : Nat → Nat} {t N m c e m1 c1 e1 : Nat} {A0 B0 A B A1 B1 A' B' : ZI} {R : ZI → Nat → Prop} (k : keepL A B A1 B1 c) (g1 : m ≤ m1) (g2 : c ≤ c1) (g3 : c1 + m ≤ c + m1) (g4 : m + e ≤ m1 + e1) (h : LQ b t N A0 B0 A1 B1 m1 c1 e1 R A' B') : LQ b t N A0 B0 A B m c e R A' B' := by
  obtain ⟨m', c', q1, q2, q3, q4, q5, q6, q7⟩ := h
  exact ⟨m', c', q1, q2, keepL_trans k q3 g2, by omega, by omega, by omega, q7⟩
theorem LQ_mono {b : Nat → Nat} {t N m c e : Nat} {A0 B0 A B A' B' : ZI} {R S : ZI → Nat → Prop} (h : LQ b t N A0 B0 A B m c e R A' B') (g : ∀ B' c', R B' c' → S B' c') : LQ b t N A0 B0 A B m c e S A' B' := by
  obtain ⟨m', c', q1, q2, q3, q4, q5, q6, q7⟩ := h
  exact ⟨m', c', q1, q2, q3, q4, q5, q6, g _ _ q7⟩
theorem pos_N {a : Nat} {b : Nat → Nat} {t n N m : Nat} {A0 B0 A B : ZI} {k : Int32} (hC : CX a b t n N A0 B0) (h : PS a b t N A0 B0 A B m) (hk : tkK b t m = k) (hk1 : k ≠ -1) : m < N := (tk_end hC h).2 (by rw [hk]; exact hk1)
theorem unit_pair : (pairs 0).all (fun q => (q.1 == -2 && q.2 == 2) || ((List.range 9).any fun j => q.1 == znn (263 + j) && q.2 == znn (41 + j)) || ((decide (q.1 < 263) || decide (271 < q.1)) && (!(q.1 == -2)) && (!(q.2 == 2)) && (decide (q.2 < 41) || decide (49 < q.2)))) = true := by decide +kernel
theorem unit_step {b : Nat → Nat} {t n N m c : Nat} {A0 B0 A B : ZI} (hC : CX 0 b t n N A0 B0) (h : PS 0 b t N A0 B0 A B m) (hc : LC A B c) (hcm : c ≤ m) :
    Both A0 B0 (f73_readUnit 119 125 A) (f173_unit B) (LQ b t N A0 B0 A B m c 1 (fun B' c' => pushes B' c c' 1 anyV)) := by
  have hN := hC.2.1.1
  have hk := tk_on unit_pair b t m
  dsimp only at hk
  simp only [Bool.or_eq_true, Bool.and_eq_true, beq_iff_eq, List.any_eq_true, List.mem_range, decide_eq_true_eq, Bool.not_eq_true', beq_eq_false_iff_ne] at hk
  have hA7 : A 119 7 = tkK b t m := h.2.1.2.1
  have hB21 : B 148 21 = tkT 0 b t m := h.2.2.2.2.1
  -- once the step is known
  have fin : ∀ (op arg s v : Int32), m < N → opRel op arg s v → (s = 0 ∨ ∃ j, j < 9 ∧ s = znn (j + 1)) → Both A0 B0 ((f74_add 125 op arg A).bind fun M9 => (f68_forward 119 M9).bind fun M2 => some ((1 : Int32), M2)) ((f174_lay s v B).bind fun M4 => (f157_next0 M4).bind fun M5 => some ((1 : Int32), M5)) (LQ b t N A0 B0 A B m c 1 (fun B' c' => pushes B' c c' 1 anyV)) := by
    intro op arg s v hm hr hs
    obtain ⟨A1, B1, e1, e2, e3, e4, e5, -, e6, e7⟩ := layL h hc (by omega) hr
    obtain ⟨A2, B2, g1, g2, g3, g4, g5, g6⟩ := fwdL hC e3 e4 hm
    refine Or.inr ⟨A2, B2, by rw [e1, Option.bind_some, g1]; rfl, by rw [e2, Option.bind_some, g2]; rfl, m + 1, c + 1, g3, g4, keepL_trans e5 g5 (by omega), by omega, by omega, by omega, ?_⟩
    refine pushes_unit ?_
    rw [g6, e6]
    exact hs
  unfold f73_readUnit f173_unit f149_isIn
  rw [zlet_e, zlet_e, hA7, hB21]
  rcases hk with (⟨k1, k2⟩ | ⟨j, hj, k1, k2⟩) | ⟨⟨⟨k1, k2⟩, k3⟩, k4⟩
  · have hm : m < N := pos_N hC h k1 (by decide)
    have hv1 := h.2.1.2.2.1 k1
    have hv2 := h.2.2.2.2.2 k1
    rw [k1, k2, if_pos (show (-2 : Int32) < 263 by decide), if_pos (show (2 : Int32) < 41 by decide), Option.bind_some, zlet_e, if_pos rfl]
    dsimp only
    rw [hA7, k1, if_pos rfl, if_pos rfl, Option.bind_some, hv1, hv2]
    exact fin _ _ _ _ hm (Or.inl ⟨rfl, rfl, rfl⟩) (Or.inl rfl)
  · have hm : m < N := pos_N hC h k1 (zn_ne_neg (by omega))
    rw [k1, k2, if_neg (show ¬ znn (263 + j) < 263 by rw [zl263, zn_lt (by omega) (by decide)]; omega), if_neg (show ¬ (271 : Int32) < znn (263 + j) by rw [zl271, zn_lt (by decide) (by omega)]; omega), if_neg (show ¬ znn (41 + j) < 41 by rw [zl41, zn_lt (by omega) (by decide)]; omega), if_neg (show ¬ (49 : Int32) < znn (41 + j) by rw [zl49, zn_lt (by decide) (by omega)]; omega), Option.bind_some, zlet_e, if_neg (show ¬ znn (41 + j) = 2 by rw [zl2, zn_eq (by omega) (by decide)]; omega), if_neg (show ¬ (1 : Int32) = 0 by decide)]
    dsimp only
    rw [if_neg (show ¬ (1 : Int32) = 0 by decide), Option.bind_some, hB21, k2, zl40, zn_sub (by omega), zl263, zn_sub (by omega), show 263 + j - 263 = j by omega, show 41 + j - 40 = j + 1 by omega]
    exact fin _ _ _ _ hm (Or.inr (Or.inl ⟨rfl, j, hj, rfl, rfl⟩)) (Or.inr ⟨j, hj, rfl⟩)
  · have e1 : (if tkK b t m < 263 then (fun (M4 : ZI) => ((if (M4 119 7) = (-2 : Int32) then (f74_add 125 (-2 : Int32) (M4 119 8) M4).bind fun M7 => (fun (M1 : ZI) => ((f68_forward 119 M1).bind fun M2 => some ((1 : Int32), M2) : Option (Int32 × ZI))) M7 else (f70_refuse 119 (1 : Int32) M4).bind fun (v5, M6) => if zbl v5 = true then some (v5, M6) else none) : Option (Int32 × ZI))) A else (if (271 : Int32) < tkK b t m then (fun (M4 : ZI) => ((if (M4 119 7) = (-2 : Int32) then (f74_add 125 (-2 : Int32) (M4 119 8) M4).bind fun M7 => (fun (M1 : ZI) => ((f68_forward 119 M1).bind fun M2 => some ((1 : Int32), M2) : Option (Int32 × ZI))) M7 else (f70_refuse 119 (1 : Int32) M4).bind fun (v5, M6) => if zbl v5 = true then some (v5, M6) else none) : Option (Int32 × ZI))) A else ((f74_add 125 (300 : Int32) (tkK b t m - (263 : Int32)) A).bind fun M9 => (fun (M1 : ZI) => ((f68_forward 119 M1).bind fun M2 => some ((1 : Int32), M2) : Option (Int32 × ZI))) M9))) = (f70_refuse 119 (1 : Int32) A).bind fun (v5, M6) => if zbl v5 = true then some (v5, M6) else none := by
      rcases k1 with k1 | k1
      · rw [if_pos k1]
        dsimp only
        rw [hA7, if_neg k2]
      · by_cases k0 : tkK b t m < 263
        · rw [if_pos k0]
          dsimp only
          rw [hA7, if_neg k2]
        · rw [if_neg k0, if_pos k1]
          dsimp only
          rw [hA7, if_neg k2]
    have e2 : ((if tkT 0 b t m < 41 then some (0 : Int32) else (if (49 : Int32) < tkT 0 b t m then some (0 : Int32) else some (1 : Int32))) : Option Int32) = some 0 := by
      rcases k4 with k4 | k4
      · rw [if_pos k4]
      · rw [if_pos k4]
        split <;> rfl
    rw [e2, Option.bind_some, zlet_e, if_neg k3, if_pos rfl]
    refine (congrArg (fun x => Both A0 B0 x _ _) e1).mpr ?_
    exact both_rfz hC h 1 (fun _ => rfl) (fun _ => rfl)
