theorem law_read {b : Nat → Nat} {t n N : Nat} {A0 B0 A B : ZI} (hC : CX 0 b t n N A0 B0) (h : PS 0 b t N A0 B0 A B 0) : Both A0 B0 (f69_readLaw 119 A) (f168_readsLaw B) (LawQ b t N A0 B0) := by
  have hN := hC.2.1.1
  have wB : wrL B (zs B 148 15 0) := wrL_148 B (Or.inl rfl) 0
  have hP : PS 0 b t N A0 B0 (zs (zs A 124 5 0) 125 3 0) (zs (zs B 148 15 0) 148 16 0) 0 := PS_of h (fun o ho => by rw [zs_df (by omega), zs_df (by omega)]) (fun o o1 o2 => by rw [zs_df o1, zs_df o1]) (fun j hj => by rw [zs_sm, if_neg (by rintro rfl; exact absurd hj (by decide)), zs_sm, if_neg (by rintro rfl; exact absurd hj (by decide))])
  have hc : LC (zs (zs A 124 5 0) 125 3 0) (zs (zs B 148 15 0) 148 16 0) 0 := ⟨by rw [zs_sm, if_pos rfl]; rfl, by rw [zs_sm, if_pos rfl]; rfl, fun j hj => by omega⟩
  have key := law_loop hC zfu 0 0 0 0 zfu (zs (zs A 124 5 0) 125 3 0) (zs (zs B 148 15 0) 148 16 0) (by rw [zfu_eq]; omega) (by rw [zfu_eq]; omega) (by omega) hP hc (Nat.le_refl _) (by omega) (by rw [zs_df (by decide), zs_sm, if_pos rfl]; rfl) (by rw [zs_sm, if_neg (by decide), zs_sm, if_pos rfl]; rfl) (fun i hi => by omega)
  unfold f69_readLaw f168_readsLaw
  rw [zlet_e, zlet_e, zlet_e, zlet_e]
  rcases key with ⟨A', B', e1, e2, e3⟩ | ⟨A', B', e1, e2, e3⟩
  · exact Or.inl ⟨A', B', e1, by rw [e2]; rfl, e3⟩
  · exact Or.inr ⟨A', B', e1, by rw [e2]; rfl, e3⟩
-- numbers told, on both sides
theorem fwd_store {a : Nat} {b : Nat → Nat} {t n N m : Nat} {A0 B0 A B A2 : ZI} (hC : CX a b t n N A0 B0) (h : PS a b t N A0 B0 A B m) (hm : m < N) (g : ∀ o, ¬ (124 ≤ o ∧ o ≤ 146) → A2 o = A o) : ∃ A4, f68_forward 119 A2 = some A4 ∧ (∀ o, o ≠ 119 → A4 o = A2 o) ∧ ∀ A1 B1, PS a b t N A0 B0 A1 B1 (m + 1) → PS a b t N A0 B0 A4 B1 (m + 1) := by
  obtain ⟨A', B', e1, e2, e3, e4, -⟩ := fwd hC (PS_clsL h g) hm
  exact ⟨A', e1, e4, fun A1 B1 h1 => PS_mix e3 h1⟩
theorem num_step {a : Nat} {b : Nat → Nat} {t n N m : Nat} {A0 B0 A B : ZI} (hC : CX a b t n N A0 B0) (h : PS a b t N A0 B0 A B m) (lo hi : Int32) (i2 : (pairs a).all (fun q => (q.1 == -2) == (q.2 == 2)) = true) :
    (∃ A' B', f75_isNumber 119 lo hi A = some (0, A') ∧ f182_number lo hi B = some (0, B') ∧ Bad A0 B0 A' B') ∨ ∃ v A1 B1, v < 10000 ∧ ¬ znn v < lo ∧ ¬ hi < znn v ∧ m < N ∧ f75_isNumber 119 lo hi A = some (1, A) ∧ A 119 8 = znn v ∧ B 148 21 = 2 ∧ B 148 23 = znn v ∧ f182_number lo hi B = some (1, B1) ∧ PS a b t N A0 B0 A1 B1 (m + 1) ∧ B1 148 29 = znn v ∧ (∀ o, o ≠ 148 → B1 o = B o) ∧ ∀ j, j ≠ 20 → j ≠ 21 → j ≠ 22 → j ≠ 23 → j ≠ 29 → B1 148 j = B 148 j := by
  have i := tk_iff i2 b t m
  have hB21 : B 148 21 = tkT a b t m := h.2.2.2.2.1
  unfold f182_number f149_isIn
  rw [hB21]
  rcases num_at h lo hi with ⟨n1, n2⟩ | ⟨n1, n2, n3⟩ | ⟨n1, n2, n3, n4⟩
  · left
    obtain ⟨A', B', r1, r2, r3⟩ := rfz hC h 1
    refine ⟨A', B', n2 _ r1, ?_, r3⟩
    rw [if_neg (fun hx => n1 (i.mpr hx)), r2]
    rfl
  · left
    obtain ⟨A', B', r1, r2, r3⟩ := rfz hC h 2
    refine ⟨A', B', n3 _ r1, ?_, r3⟩
    rw [if_pos (i.mp n1), h.2.2.2.2.2 n1]
    have e : ((if znn (tkV b t m) < lo then some (0 : Int32) else (if hi < znn (tkV b t m) then some (0 : Int32) else some (1 : Int32))) : Option Int32) = some 0 := by
      rcases n2 with n2 | n2
      · rw [if_pos n2]
      · rw [if_pos n2]
        split <;> rfl
    rw [e, Option.bind_some, if_pos rfl, r2]
    rfl
  · right
    have hm : m < N := pos_N hC h n1 (by decide)
    have hP : PS a b t N A0 B0 A (zs B 148 29 (znn (tkV b t m))) m := PS_of h (fun _ _ => rfl) (fun o o1 _ => by rw [zs_df o1]) (fun j hj => by rw [zs_sm, if_neg (by rintro rfl; exact absurd hj (by decide))])
    obtain ⟨A1, B1, e1, e2, e3, e4, e5, e6⟩ := fwd hC hP hm
    refine ⟨tkV b t m, A1, B1, tkV_lt hC.1.1 n1, n2, n3, hm, n4, h.2.1.2.2.1 n1, i.mp n1, h.2.2.2.2.2 n1, ?_, e3, ?_, fun o ho => by rw [e5 o ho, zs_df ho], fun j j1 j2 j3 j4 j5 => by rw [e6 j j1 j2 j3 j4, zs_sm, if_neg j5]⟩
    · rw [if_pos (i.mp n1), h.2.2.2.2.2 n1, if_neg n2, if_neg n3, Option.bind_some, if_neg (by decide), zlet_e, e2]
      rfl
    · rw [e6 29 (by decide) (by decide) (by decide) (by decide), zs_sm, if_pos rfl]
