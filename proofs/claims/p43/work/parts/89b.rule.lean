def refPart (M : ZI) : Option (Int32 × ZI) := ((if (M 148 21) = (14 : Int32) then some (1 : Int32) else some (0 : Int32)) : Option (Int32)).bind fun v1 =>
  ((if v1 = 0 then some M else (f157_next0 M).bind fun M2 => some M2) : Option (ZI)).bind fun M3 =>
  ((if v1 = 0 then some (0 : Int32) else some (1 : Int32)) : Option (Int32)).bind fun v4 =>
  ((if v1 = 0 then some ((M3 149 48) - (1 : Int32)) else some (10 : Int32)) : Option (Int32)).bind fun v5 =>
  (f182_number v4 v5 M3).bind fun (v6, M7) => (if v6 = 0 then some ((0 : Int32), M7) else ((if v1 = 0 then some (0 : Int32) else some (20 : Int32)) : Option (Int32)).bind fun v8 =>
  (f191_rules (v8 + (M7 148 29)) M7).bind fun M9 => zlet (zs M9 148 17 ((M9 148 17) + (1 : Int32))) fun (M10 : ZI) => some ((1 : Int32), M10))
theorem oneOf_eq (g188 : ZI → Option (Int32 × ZI)) (M : ZI) : f190_oneOf_b g188 M = (if (M 148 21) = (140 : Int32) then (if (M 148 27) = (8 : Int32) then (f170_bad (3 : Int32) M).bind fun (v18, M19) => if zbl v18 = true then some (v18, M19) else none else zlet (zs M 148 27 ((M 148 27) + (1 : Int32))) fun (M11 : ZI) => (f157_next0 M11).bind fun M12 => (g188 M12).bind fun (v13, M14) => (if v13 = 0 then some ((0 : Int32), M14) else (f179_need (141 : Int32) M14).bind fun (v15, M16) => (if v15 = 0 then some ((0 : Int32), M16) else zlet (zs M16 148 27 ((M16 148 27) - (1 : Int32))) fun (M17 : ZI) => some ((1 : Int32), M17)))) else refPart M) := rfl
theorem zn_pred {n v : Nat} (hn : n ≤ 10) (hv : v < 10000) (h : ¬ (znn n - 1 : Int32) < znn v) : v < n := by
  cases n with
  | zero => exact absurd (show (znn 0 - 1 : Int32) < znn v from neg_lt_zn (by omega)) h
  | succ n =>
    rw [zl1, zn_sub (by omega), zn_lt (by omega) (by omega)] at h
    omega
theorem part_step {b : Nat → Nat} {t n N m c : Nat} {A0 B0 A B : ZI} (hC : CX 3 b t n N A0 B0) (h : PS 3 b t N A0 B0 A B m) (hc : CC A B c) (hcm : c ≤ m) :
    Both A0 B0 (f79_readPart 119 143 A) (refPart B) (CQ b t N A0 B0 A B m c 1 (fun B' c' => pushC B' c c' 1)) := by
  have i := tk_iff (a := 3) (k := 279) (x := 14) (by decide +kernel) b t m
  have hA7 : A 119 7 = tkK b t m := h.2.1.2.1
  have hB21 : B 148 21 = tkT 3 b t m := h.2.2.2.2.1
  unfold f79_readPart refPart
  rw [hA7, hB21]
  by_cases hk : tkK b t m = 279
  · have hm : m < N := pos_N hC h hk (by decide)
    obtain ⟨A1, B1, e1, e2, e3, e4, e5⟩ := fwdC hC h hc hm
    rw [if_pos hk, if_pos (i.mp hk), Option.bind_some, Option.bind_some]
    repeat rw [if_neg (show ¬ (1 : Int32) = 0 by decide)]
    rw [e1, e2]
    repeat rw [Option.bind_some]
    repeat rw [if_neg (show ¬ (1 : Int32) = 0 by decide)]
    repeat rw [Option.bind_some]
    repeat rw [if_neg (show ¬ (1 : Int32) = 0 by decide)]
    repeat rw [Option.bind_some]
    refine both_mono (part_core (op := 279) (s0 := 20) hC e3 e4 (by omega) (fun v hv n1 n2 => ?_)) (fun A' B' hq => ?_)
    · rw [zl10, zn_lt (by decide) (by omega)] at n2
      rw [zl20, zn_add]
      exact ⟨Or.inr (Or.inl ⟨rfl, v, by omega, rfl, rfl⟩), Or.inr ⟨v, by omega, rfl⟩⟩
    · obtain ⟨m', c', q1, q2, q3, q4, q5, q6, q7⟩ := hq
      exact ⟨m', c', q1, q2, keepC_trans e5 q3 (Nat.le_refl _), by omega, by omega, by omega, q7⟩
  · have hA9 : A 119 9 = znn n := by rw [h.1.1.2 9 (by decide) (by decide) (by decide) (by decide) (by decide)]; exact hC.2.2.1.2.2
    have hB48 : B 149 48 = znn n := by rw [h.1.2.1.1 149 (by decide) (by omega)]; exact hC.2.2.2.2.2
    rw [if_neg hk, if_neg (fun hx => hk (i.mpr hx))]
    repeat rw [Option.bind_some]
    repeat rw [if_pos (show (0 : Int32) = 0 from rfl)]
    repeat rw [Option.bind_some]
    repeat rw [if_pos (show (0 : Int32) = 0 from rfl)]
    repeat rw [Option.bind_some]
    repeat rw [if_pos (show (0 : Int32) = 0 from rfl)]
    repeat rw [Option.bind_some]
    rw [hA9, hB48]
    refine part_core (op := 301) (s0 := 0) hC h hc hcm (fun v hv n1 n2 => ?_)
    have := zn_pred hC.1.2.2 hv n2
    have hn := hC.1.2.2
    rw [show (0 : Int32) + znn v = znn v by rw [zl0, zn_add, Nat.zero_add]]
    exact ⟨Or.inl ⟨rfl, v, by omega, rfl, rfl⟩, Or.inl ⟨v, by omega, rfl⟩⟩
def OneC (b : Nat → Nat) (t N : Nat) (A0 B0 : ZI) (fC fR : ZI → Option (Int32 × ZI)) (d h : Nat) : Prop := ∀ m c A B, PS 3 b t N A0 B0 A B m → CC A B c → c ≤ m → B 148 27 = znn d → Both A0 B0 (fC A) (fR B) (CQ b t N A0 B0 A B m c 1 (fun B' c' => pushC B' c c' h))
theorem keepC27 {A B A2 B2 : ZI} {c : Nat} {x y : Int32} (k : keepC A (zs B 148 27 x) A2 B2 c) (h : y = B 148 27) : keepC A B A2 (zs B2 148 27 y) c := by
  obtain ⟨k1, k2, k3, k4⟩ := k
  refine ⟨k1, fun o o1 o2 => by rw [zs_df o1, k2 o o1 o2, zs_df o1], fun j hj => ?_, fun j hj => by rw [zs_df (by decide), k4 j hj, zs_df (by decide)]⟩
  rw [zs_sm]
  by_cases h27 : j = 27
  · rw [if_pos h27, h, h27]
  · rw [if_neg h27, k3 j hj, zs_sm, if_neg h27]
theorem CC_27 {A B : ZI} {c : Nat} (h : CC A B c) (x : Int32) : CC A (zs B 148 27 x) c := CC_of h (fun _ _ _ => rfl) ⟨by rw [zs_sm, if_neg (by decide)], by rw [zs_sm, if_neg (by decide)]⟩ (by rw [zs_df (by decide)])
theorem oneC_step {b : Nat → Nat} {t n N d h6 hh : Nat} {A0 B0 : ZI} {g76 g77 : Nat → Nat → Int32 → Int32 → ZI → Option (Int32 × ZI)} {r188 : ZI → Option (Int32 × ZI)} (hC : CX 3 b t n N A0 B0) (hd : d ≤ 8) (h76 : d < 8 → OneC b t N A0 B0 (g76 119 143 1 (znn (d + 1))) r188 (d + 1) h6) (g4 : 1 ≤ hh) (g6 : d < 8 → h6 ≤ hh) :
    OneC b t N A0 B0 (fun A => f77_readOne_b g76 g77 119 143 1 (znn d) A) (fun B => f190_oneOf_b r188 B) d hh := by
  intro m c A B h hc hcm h27
  have hN := hC.2.1.1
  have hA7 : A 119 7 = tkK b t m := h.2.1.2.1
  have hB21 : B 148 21 = tkT 3 b t m := h.2.2.2.2.1
  have i40 := tk_iff (a := 3) (k := 40) (x := 140) (by decide +kernel) b t m
  dsimp only
  rw [oneOf_eq]
  unfold f77_readOne_b
  rw [zlet_e, zlet_e, hA7, hB21, h27]
  by_cases k40 : tkK b t m = 40
  · have hm : m < N := pos_N hC h k40 (by decide)
    rw [if_pos k40, if_pos (i40.mp k40)]
    dsimp only
    by_cases hd8 : d < 8
    · rw [if_pos (show znn d < 8 by rw [zl8, zn_lt (by omega) (by decide)]; exact hd8), if_neg (show ¬ znn d = 8 by rw [zl8, zn_eq (by omega) (by decide)]; omega), zlet_e, hA7, if_neg (show ¬ tkK b t m = 262 by rw [k40]; decide), Option.bind_some, zadd1]
      obtain ⟨A1, B1, e1, e2, e3, e4, e5⟩ := fwdC hC (PS_27 h (znn (d + 1))) (CC_27 hc (znn (d + 1))) hm
      rw [e1, e2, Option.bind_some, Option.bind_some, if_pos rfl]
      refine both_bind (h76 hd8 (m + 1) c A1 B1 e3 e4 (by omega) (by rw [e5.2.2.1 27 rfl, zs_sm, if_pos rfl])) (fun _ => rfl) (fun _ => rfl) (fun A2 B2 hq => ?_)
      obtain ⟨m2, c2, q1, q2, q3, q4, q5, q6, q7⟩ := hq
      have hm2 := q1.1.2.2
      dsimp only
      rw [if_neg (show ¬ (1 : Int32) = 0 by decide), if_neg (show ¬ (1 : Int32) = 0 by decide)]
      rcases skip_need (k := 41) (x := 141) hC q1 (by decide +kernel) (by decide) with ⟨s1, s2, s3⟩ | ⟨A', B', r1, r2, r3⟩
      · obtain ⟨A3, B3, l1, l2, l3, l4, l5⟩ := fwdC hC q1 q2 s1
        have K := keepC_trans (keepC_trans e5 q3 (Nat.le_refl _)) l5 q5
        have w27 : B3 148 27 = znn (d + 1) := by rw [l5.2.2.1 27 rfl, q3.2.2.1 27 rfl, e5.2.2.1 27 rfl, zs_sm, if_pos rfl]
        rw [s2, s3, l1, l2, Option.bind_some, Option.bind_some, Option.bind_some, Option.bind_some]
        dsimp only
        rw [if_neg (show ¬ (1 : Int32) = 0 by decide), if_neg (show ¬ (1 : Int32) = 0 by decide), zlet_e, w27, zl1, zn_sub (by omega), show d + 1 - 1 = d by omega]
        refine Or.inr ⟨A3, _, rfl, rfl, m2 + 1, c2, PS_27 l3 _, CC_27 l4 _, keepC27 K h27.symm, by omega, by omega, by omega, ?_⟩
        refine pushC_keep (pushC_keep (pushC_mono q7 (g6 hd8)) l5.2.2.2) (fun j _ => ?_)
        rw [zs_df (by decide)]
      · rw [r1, r2, Option.bind_some, Option.bind_some]
        exact Or.inl ⟨A', B', rfl, rfl, r3⟩
    · obtain ⟨A', B', r1, r2, r3⟩ := rfz hC h 3
      rw [if_neg (show ¬ znn d < 8 by rw [zl8, zn_lt (by omega) (by decide)]; exact hd8), if_pos (show znn d = 8 by rw [zl8, zn_eq (by omega) (by decide)]; omega), r1, r2]
      exact Or.inl ⟨A', B', rfl, rfl, r3⟩
  · rw [if_neg k40, if_neg (fun hx => k40 (i40.mpr hx))]
    dsimp only
    have hp := both_mono (part_step hC h hc hcm) (fun A' B' (hq : CQ b t N A0 B0 A B m c 1 (fun B' c' => pushC B' c c' 1) A' B') => (show CQ b t N A0 B0 A B m c 1 (fun B' c' => pushC B' c c' hh) A' B' by
      obtain ⟨m', c', q1, q2, q3, q4, q5, q6, q7⟩ := hq
      exact ⟨m', c', q1, q2, q3, q4, q5, q6, pushC_mono q7 g4⟩))
    by_cases k262 : tkK b t m = 262
    · rw [if_pos k262, if_neg (show ¬ (1 : Int32) = 0 by decide), if_neg (show ¬ (1 : Int32) = 0 by decide)]
      exact both_zbl hp
    · rw [if_neg k262, if_neg (show ¬ (1 : Int32) = 0 by decide)]
      exact both_zbl hp
