theorem next_ref {B : ZI} {b : Nat → Nat} {t i a : Nat} (hb : tapB b t) (h : onB B b t) (h14 : B 148 14 = znn a) (ha : a ≤ 3) (h20 : B 148 20 = znn i) (hi : i ≤ t) : ∃ B', f157_next0 B = some B' ∧ B' 148 22 = znn (runEnd isBlk b t (t - i) i) ∧ B' 148 20 = znn (lexEnd b t (runEnd isBlk b t (t - i) i)) ∧ B' 148 21 = lexTok a b t (runEnd isBlk b t (t - i) i) ∧ (lexTok a b t (runEnd isBlk b t (t - i) i) = 2 → runEnd isBlk b t (t - i) i < t → isDig (b (runEnd isBlk b t (t - i) i)) = true → B' 148 23 = znn (valN b (runEnd isBlk b t (t - i) i) (lexEnd b t (runEnd isBlk b t (t - i) i) - runEnd isBlk b t (t - i) i))) ∧ (∀ o, o ≠ 148 → B' o = B o) ∧ ∀ j, j ≠ 20 → j ≠ 21 → j ≠ 22 → j ≠ 23 → B' 148 j = B 148 j := by
  have ht := hb.1
  obtain ⟨M6, e1, g1, g2, g3, g4⟩ := lex_start hb h h20 hi
  obtain ⟨r1, r2⟩ := runEnd_bd (P := isBlk) (b := b) (t := t) (t - i) i hi
  generalize runEnd isBlk b t (t - i) i = s at *
  unfold f157_next0
  rw [e1, Option.bind_some, zlet_e]
  generalize zs M6 148 22 (M6 148 20) = M7 at *
  have hB7 : onB M7 b t := ⟨by rw [g4 19 (by decide) (by decide)]; exact h.1, fun j hj => by rw [g3 158 (by decide)]; exact h.2 j hj⟩
  rw [g1]
  by_cases hst : s < t
  case neg =>
    rw [see_out hb hB7 (by omega) (by omega), Option.bind_some, if_pos rfl, zlet_e]
    have e0 : lexEnd b t s = s := by unfold lexEnd; rw [if_neg hst]
    have e2 : lexTok a b t s = 0 := by unfold lexTok; rw [if_neg hst]
    rw [e0, e2]
    exact ⟨_, rfl, by rw [zs_sm, if_neg (by decide)]; exact g2, by rw [zs_sm, if_neg (by decide)]; exact g1, by rw [zs_sm, if_pos rfl], fun _ hc => absurd hc hst, fun o ho => by rw [zs_df ho]; exact g3 o ho, fun j q1 q2 q3 _ => by rw [zs_sm, if_neg q2]; exact g4 j q1 q3⟩
  have hx := hb.2 s hst
  rw [see_in hb hB7 hst, Option.bind_some, if_neg (zn_ne_neg (by omega)), (letter_eq hx).2, Option.bind_some]
  by_cases hl : isLet (b s) = true
  · rw [if_pos hl, if_neg (by decide)]
    have hnd : ¬ isDig (b s) = true := by
      unfold isLet at hl
      unfold isDig
      simp only [Bool.and_eq_true, Bool.or_eq_true, decide_eq_true_eq] at hl ⊢
      omega
    obtain ⟨M30, k1, k2, k3, k4⟩ := letters_ref (B := M7) hb hB7 (t - s) s zfu M7 (by omega) (by rw [zfu_eq]; omega) ⟨g1, fun _ _ => rfl, fun _ _ => rfl⟩
    obtain ⟨p1, p2⟩ := runEnd_bd (P := isLet) (b := b) (t := t) (t - s) s (by omega)
    have e0 : lexEnd b t s = runEnd isLet b t (t - s) s := by unfold lexEnd; rw [if_pos hst, if_pos hl]
    have e2 : lexTok a b t s = wordTok a (fun k => wMatch b s (runEnd isLet b t (t - s) s) k) := by unfold lexTok; rw [if_pos hst, if_pos hl]
    have hB30 : onB M30 b t := onB_at hB7 ⟨k2, k3, k4⟩
    rw [k1, Option.bind_some, wordTok_eq (w := fun k => wMatch b s (runEnd isLet b t (t - s) s) k) (fun k q1 q2 => is_ref hb hB30 k2 ((k4 22 (by decide)).trans g2) p1 p2 q1 q2) ((k4 14 (by decide)).trans ((g4 14 (by decide) (by decide)).trans h14)) ha, Option.bind_some, zlet_e, e0, e2]
    exact ⟨_, rfl, by rw [zs_sm, if_neg (by decide), k4 22 (by decide)]; exact g2, by rw [zs_sm, if_neg (by decide)]; exact k2, by rw [zs_sm, if_pos rfl], fun _ _ hc => absurd hc hnd, fun o ho => by rw [zs_df ho, k3 o ho]; exact g3 o ho, fun j q1 q2 q3 _ => by rw [zs_sm, if_neg q2, k4 j q1]; exact g4 j q1 q3⟩
  rw [if_neg hl, if_pos rfl, (digit_eq hx).2, Option.bind_some]
  by_cases hd : isDig (b s) = true
  · rw [if_pos hd, if_neg (by decide), zlet_e]
    have h22 : (zs M7 148 23 0) 148 22 = znn s := by rw [zs_sm, if_neg (by decide)]; exact g2
    have hB8 : onB (zs M7 148 23 0) b t := ⟨by rw [zs_sm, if_neg (by decide)]; exact hB7.1, fun j hj => by rw [zs_df (by decide)]; exact hB7.2 j hj⟩
    obtain ⟨M23, k1, k2, k3, k4, k5⟩ := digits_ref (B := zs M7 148 23 0) hb hB8 h22 (t - s) s zfu (zs M7 148 23 0) (by omega) (by rw [zfu_eq]; omega) (Nat.le_refl _) (fun j q1 q2 => by omega) ⟨by rw [zs_sm, if_neg (by decide)]; exact g1, by rw [zs_sm, if_pos rfl, Nat.sub_self]; rfl, fun _ _ => rfl, fun _ _ _ => rfl⟩
    obtain ⟨p1, p2⟩ := runEnd_bd (P := isDig) (b := b) (t := t) (t - s) s (by omega)
    have e0 : lexEnd b t s = runEnd isDig b t (t - s) s := by unfold lexEnd; rw [if_pos hst, if_neg hl, if_pos hd]
    have e2 : lexTok a b t s = (if runEnd isDig b t (t - s) s - s < 5 then 2 else 1) := by unfold lexTok; rw [if_pos hst, if_neg hl, if_pos hd]
    have k22 : M23 148 22 = znn s := (k5 22 (by decide) (by decide)).trans h22
    have fr : ∀ o, o ≠ 148 → M23 o = B o := fun o ho => (k4 o ho).trans (by rw [zs_df ho]; exact g3 o ho)
    have fj : ∀ j, j ≠ 20 → j ≠ 22 → j ≠ 23 → M23 148 j = B 148 j := fun j q1 q2 q3 => (k5 j q1 q3).trans (by rw [zs_sm, if_neg q3]; exact g4 j q1 q2)
    rw [k1, Option.bind_some, k2, k22, zn_sub p1, e0, e2]
    by_cases h5 : runEnd isDig b t (t - s) s - s < 5
    · rw [if_pos (show znn (runEnd isDig b t (t - s) s - s) < 5 by rw [zl5, zn_lt (by omega) (by decide)]; exact h5), if_pos h5, zlet_e]
      refine ⟨_, rfl, by rw [zs_sm, if_neg (by decide)]; exact k22, by rw [zs_sm, if_neg (by decide)]; exact k2, by rw [zs_sm, if_pos rfl], fun _ _ _ => ?_, fun o ho => by rw [zs_df ho]; exact fr o ho, fun j q1 q2 q3 q4 => by rw [zs_sm, if_neg q2]; exact fj j q1 q3 q4⟩
      rw [zs_sm, if_neg (by decide), k3, show min (runEnd isDig b t (t - s) s - s) 4 = runEnd isDig b t (t - s) s - s by omega]
    · rw [if_neg (show ¬ znn (runEnd isDig b t (t - s) s - s) < 5 by rw [zl5, zn_lt (by omega) (by decide)]; exact h5), if_neg h5, zlet_e]
      exact ⟨_, rfl, by rw [zs_sm, if_neg (by decide)]; exact k22, by rw [zs_sm, if_neg (by decide)]; exact k2, by rw [zs_sm, if_pos rfl], fun hc => absurd hc (by decide), fun o ho => by rw [zs_df ho]; exact fr o ho, fun j q1 q2 q3 q4 => by rw [zs_sm, if_neg q2]; exact fj j q1 q3 q4⟩
  · rw [if_neg hd, if_pos rfl, zlet_e, zadd1, sign_eq hx, Option.bind_some]
    have e0 : lexEnd b t s = s + 1 := by unfold lexEnd; rw [if_pos hst, if_neg hl, if_neg hd]
    have e2 : lexTok a b t s = (if signB (b s) = true then 100 + znn (b s) else 1) := by unfold lexTok; rw [if_pos hst, if_neg hl, if_neg hd]
    rw [e0, e2]
    by_cases hs : signB (b s) = true
    · rw [if_pos hs, if_neg (by decide), if_pos hs, zlet_e]
      exact ⟨_, rfl, by rw [zs_sm, if_neg (by decide), zs_sm, if_neg (by decide)]; exact g2, by rw [zs_sm, if_neg (by decide), zs_sm, if_pos rfl], by rw [zs_sm, if_pos rfl], fun _ _ hc => absurd hc hd, fun o ho => by rw [zs_df ho, zs_df ho]; exact g3 o ho, fun j q1 q2 q3 _ => by rw [zs_sm, if_neg q2, zs_sm, if_neg q1]; exact g4 j q1 q3⟩
    · rw [if_neg hs, if_pos rfl, if_neg hs, zlet_e]
      exact ⟨_, rfl, by rw [zs_sm, if_neg (by decide), zs_sm, if_neg (by decide)]; exact g2, by rw [zs_sm, if_neg (by decide), zs_sm, if_pos rfl], by rw [zs_sm, if_pos rfl], fun _ _ hc => absurd hc hd, fun o ho => by rw [zs_df ho, zs_df ho]; exact g3 o ho, fun j q1 q2 q3 _ => by rw [zs_sm, if_neg q2, zs_sm, if_neg q1]; exact g4 j q1 q3⟩
