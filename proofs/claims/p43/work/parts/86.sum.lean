def sumTail (f : Nat) (x2 : Int32) (A : ZI) : Option (Int32 × ZI) :=
  zlet (fun (_ : Unit) => (zlet (A 119 7) fun (x10 : Int32) => (f68_forward 119 A).bind fun M11 => f71_l4 119 125 f x10 (x2 + (1 : Int32)) M11 : Option (Int32 × ZI))) fun j12 =>
  (if (A 119 7) = (43 : Int32) then j12 () else (if (A 119 7) = (45 : Int32) then j12 () else some ((1 : Int32), A)))
theorem l4_eq (f : Nat) (x1 x2 : Int32) (M3 : ZI) : f71_l4 119 125 (f + 1) x1 x2 M3 = (if x2 < (400 : Int32) then (f72_readTerm 119 125 M3).bind fun (v6, M7) => (if v6 = 0 then some ((0 : Int32), M7) else ((if x1 = 0 then some M7 else (f74_add 125 x1 (0 : Int32) M7).bind fun M8 => some M8) : Option (ZI)).bind fun M9 => sumTail f x2 M9) else (f70_refuse 119 (1 : Int32) M3).bind fun (v4, M5) => if zbl v4 = true then some (v4, M5) else none) := rfl
theorem sum_tail {b : Nat → Nat} {t n N : Nat} {A0 B0 : ZI} (hC : CX 0 b t n N A0 B0) : ∀ f m x2 c c0 g A B, N - m < f → N - m < g → x2 + (N - m) ≤ 399 → PS 0 b t N A0 B0 A B m → LC A B c → c ≤ m → c0 ≤ c → pushes B c0 c 3 anyV →
    Both A0 B0 (sumTail f (znn x2) A) (f171_l9 g B) (LQ b t N A0 B0 A B m c 0 (fun B' c' => pushes B' c0 c' 3 anyV))
  | 0, m, x2, c, c0, g, A, B, h1, h2, h3, h, hc, hcm, hc0, hp => by omega
  | f + 1, m, x2, c, c0, g, A, B, h1, h2, h3, h, hc, hcm, hc0, hp => by
    obtain ⟨g, rfl⟩ : ∃ q, g = q + 1 := ⟨g - 1, by omega⟩
    have hN := hC.2.1.1
    have hA7 : A 119 7 = tkK b t m := h.2.1.2.1
    have hB21 : B 148 21 = tkT 0 b t m := h.2.2.2.2.1
    have i43 := tk_iff (a := 0) (k := 43) (x := 143) (by decide +kernel) b t m
    have i45 := tk_iff (a := 0) (k := 45) (x := 145) (by decide +kernel) b t m
    have step : ∀ k s : Int32, k ≠ 0 → opRel k 0 s 0 → (¬ s < 23 ∧ s ≠ 26 ∧ s ≠ 30) → m < N → Both A0 B0 ((f68_forward 119 A).bind fun M11 => f71_l4 119 125 (f + 1) k (znn x2 + (1 : Int32)) M11) ((f157_next0 B).bind fun M6 => (f172_product M6).bind fun (v7, M8) => (if v7 = 0 then some ((0 : Int32), M8) else (f174_lay s (0 : Int32) M8).bind fun M9 => f171_l9 g M9)) (LQ b t N A0 B0 A B m c 0 (fun B' c' => pushes B' c0 c' 3 anyV)) := by
      intro k s hk hr hs hm
      obtain ⟨A1, B1, e1, e2, e3, e4, e5, e6⟩ := fwdL hC h hc hm
      rw [e1, e2, Option.bind_some, Option.bind_some, l4_eq, zadd1, if_pos (show znn (x2 + 1) < 400 by rw [zl400, zn_lt (by omega) (by decide)]; omega)]
      refine both_bind (term_step hC e3 e4 (by omega)) (fun _ => rfl) (fun _ => rfl) (fun A2 B2 hq => ?_)
      obtain ⟨m2, c2, q1, q2, q3, q4, q5, q6, q7⟩ := hq
      have hm2 := q1.1.2.2
      dsimp only
      obtain ⟨A3, B3, l1, l2, l3, l4, l5, -, l6, -⟩ := layL q1 q2 (by omega) hr
      rw [if_neg (show ¬ (1 : Int32) = 0 by decide), if_neg (show ¬ (1 : Int32) = 0 by decide), if_neg hk, l1, l2, Option.bind_some, Option.bind_some, Option.bind_some]
      have K := keepL_trans (keepL_trans e5 q3 (Nat.le_refl _)) l5 q5
      refine both_mono (sum_tail hC f m2 (x2 + 1) (c2 + 1) c0 g A3 B3 (by omega) (by omega) (by omega) l3 l4 (by omega) (by omega) ?_) (fun A' B' hq => LQ_step K (by omega) (by omega) (by omega) (by omega) hq)
      exact pushes_two (pushes_keep hp K.2.2.2) (pushes_keep q7 l5.2.2.2) (Nat.le_refl _) (by decide) s l6 hs (both_any s)
    unfold sumTail
    rw [zlet_e, zlet_e, f171_l9, zlet_e, hA7, hB21]
    by_cases k43 : tkK b t m = 43
    · rw [if_pos k43, if_pos (i43.mp k43), k43, i43.mp k43]
      exact step 43 23 (by decide) op43 (by decide) (pos_N hC h k43 (by decide))
    · rw [if_neg k43, if_neg (fun hx => k43 (i43.mpr hx))]
      by_cases k45 : tkK b t m = 45
      · rw [if_pos k45, if_pos (i45.mp k45), k45, i45.mp k45]
        exact step 45 24 (by decide) op45 (by decide) (pos_N hC h k45 (by decide))
      · rw [if_neg k45, if_neg (fun hx => k45 (i45.mpr hx))]
        exact Or.inr ⟨A, B, rfl, rfl, m, c, h, hc, keepL_refl _ _ _, by omega, Nat.le_refl _, by omega, hp⟩
theorem sum_step {b : Nat → Nat} {t n N m c : Nat} {A0 B0 A B : ZI} (hC : CX 0 b t n N A0 B0) (h : PS 0 b t N A0 B0 A B m) (hc : LC A B c) (hcm : c ≤ m) :
    Both A0 B0 (f71_readSum 119 125 A) (f171_sumUp B) (LQ b t N A0 B0 A B m c 1 (fun B' c' => pushes B' c c' 3 anyV)) := by
  have hN := hC.2.1.1
  have key : ∀ F, 401 < F → Both A0 B0 (f71_l4 119 125 F 0 0 A) (f171_sumUp B) (LQ b t N A0 B0 A B m c 1 (fun B' c' => pushes B' c c' 3 anyV)) := by
    intro F hF
    obtain ⟨F, rfl⟩ : ∃ q, F = q + 1 := ⟨F - 1, by omega⟩
    unfold f171_sumUp
    rw [l4_eq, if_pos (show (0 : Int32) < 400 by decide)]
    refine both_bind (term_step hC h hc hcm) (fun _ => rfl) (fun _ => rfl) (fun A2 B2 hq => ?_)
    obtain ⟨m2, c2, q1, q2, q3, q4, q5, q6, q7⟩ := hq
    dsimp only
    rw [if_neg (show ¬ (1 : Int32) = 0 by decide), if_neg (show ¬ (1 : Int32) = 0 by decide), if_pos rfl, Option.bind_some]
    exact both_mono (sum_tail hC F m2 0 c2 c zfu A2 B2 (by omega) (by rw [zfu_eq]; omega) (by omega) q1 q2 (by omega) q5 (pushes_mono q7 (by decide))) (fun A' B' hq => LQ_step q3 (by omega) q5 q6 (by omega) hq)
  unfold f71_readSum
  exact key zfu (by rw [zfu_eq]; omega)
-- one test of THE LAW
def OneOK (b : Nat → Nat) (t N : Nat) (A0 B0 : ZI) (fC fR : ZI → Option (Int32 × ZI)) (d h : Nat) : Prop := ∀ m c A B, PS 0 b t N A0 B0 A B m → LC A B c → c ≤ m → B 148 27 = znn d → Both A0 B0 (fC A) (fR B) (LQ b t N A0 B0 A B m c 1 (fun B' c' => pushes B' c c' h bitV))
theorem keep27 {A B A2 B2 : ZI} {c : Nat} {x y : Int32} (k : keepL A (zs B 148 27 x) A2 B2 c) (h : y = B 148 27) : keepL A B A2 (zs B2 148 27 y) c := by
  obtain ⟨k1, k2, k3, k4⟩ := k
  refine ⟨k1, fun o o1 o2 => by rw [zs_df o1, k2 o o1 o2, zs_df o1], fun j hj => ?_, fun j hj => by rw [zs_df (by decide), k4 j hj, zs_df (by decide)]⟩
  rw [zs_sm]
  by_cases h27 : j = 27
  · rw [if_pos h27, h, h27]
  · rw [if_neg h27, k3 j hj, zs_sm, if_neg h27]
theorem PS_27 {a : Nat} {b : Nat → Nat} {t N m : Nat} {A0 B0 A B : ZI} (h : PS a b t N A0 B0 A B m) (x : Int32) : PS a b t N A0 B0 A (zs B 148 27 x) m := PS_of h (fun _ _ => rfl) (fun o o1 _ => by rw [zs_df o1]) (fun j hj => by rw [zs_sm, if_neg (by rintro rfl; exact absurd hj (by decide))])
theorem LC_27 {A B : ZI} {c : Nat} (h : LC A B c) (x : Int32) : LC A (zs B 148 27 x) c := LC_of h (fun _ _ _ => rfl) (by rw [zs_sm, if_neg (by decide)]) (by rw [zs_df (by decide)])
theorem pushes_27 {B : ZI} {c c' h : Nat} {P : Int32 → Prop} (hp : pushes B c c' h P) (x : Int32) : pushes (zs B 148 27 x) c c' h P := pushes_keep hp (fun j _ => by rw [zs_df (by decide)])
theorem skip_need {a : Nat} {b : Nat → Nat} {t n N m : Nat} {A0 B0 A B : ZI} {k x : Int32} (hC : CX a b t n N A0 B0) (h : PS a b t N A0 B0 A B m) (hi : (pairs a).all (fun q => (q.1 == k) == (q.2 == x)) = true) (hk : k ≠ -1) :
    (m < N ∧ f78_skip 119 k A = (f68_forward 119 A).bind (fun M1 => some ((1 : Int32), M1)) ∧ f179_need x B = (f157_next0 B).bind fun M1 => some ((1 : Int32), M1)) ∨ ∃ A' B', f78_skip 119 k A = some (0, A') ∧ f179_need x B = some (0, B') ∧ Bad A0 B0 A' B' := by
  have i := tk_iff hi b t m
  unfold f78_skip f179_need
  rw [h.2.1.2.1, h.2.2.2.2.1]
  by_cases hkk : tkK b t m = k
  · left
    refine ⟨pos_N hC h hkk hk, ?_, ?_⟩
    · rw [if_pos hkk]
    · rw [if_pos (i.mp hkk)]
  · right
    obtain ⟨A', B', e1, e2, e3⟩ := rfz hC h 1
    refine ⟨A', B', ?_, ?_, e3⟩
    · rw [if_neg hkk, e1]
      rfl
    · rw [if_neg (fun hx => hkk (i.mpr hx)), e2]
      rfl
