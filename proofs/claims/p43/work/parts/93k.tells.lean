-- ===== THE LAW as read is the law with drawn numbers =====
theorem hasCode_mid {w : Nat → Int32} {a s z : List (Nat × Nat)} (h : hasCode w 0 (a ++ (s ++ z))) : hasCode w a.length s := by
  intro j hj
  have := h (a.length + j) (by simp; omega)
  have e : (a ++ (s ++ z)).getD (a.length + j) (0, 0) = s.getD j (0, 0) := by
    rw [List.getD_eq_getElem?_getD, List.getElem?_append_right (by omega), Nat.add_sub_cancel_left, List.getElem?_append_left hj, ← List.getD_eq_getElem?_getD]
  rw [e, Nat.zero_add] at this
  exact this
def lawRows (w : Nat → Int32) : Prop := w 58 = znn 5 ∧ ∀ i, i < 5 → w (1178 + i) = znn (lawLines.getD i (0, 0, 0, 0)).1 ∧ w (1194 + i) = znn (lawLines.getD i (0, 0, 0, 0)).2.1 ∧ w (1210 + i) = znn (lawLines.getD i (0, 0, 0, 0)).2.2.1 ∧ w (1226 + i) = znn (lawLines.getD i (0, 0, 0, 0)).2.2.2
theorem val_of {F w : Nat → Int32} {cs : List (Nat × Nat)} {i e : Nat} {x : Int32} (hs : ∀ c ∈ cs, c.1 < 1000) (h : hasCode w i cs) (he : e = i + cs.length) (hr : runL F cs [] = some [x]) : sVal F w i e = x := by
  subst he
  apply sVal_of
  rw [Nat.add_sub_cancel_left, run_code cs i [] hs h]
  exact hr
theorem one_iff {c : Prop} [Decidable c] : oneIf c = 1 ↔ c := by
  unfold oneIf
  split
  · simp [*]
  · simp [*]
theorem and_not {a b c : Prop} [Decidable a] [Decidable b] [Decidable c] : oneIf a &&& ((1 : Int32) - (oneIf b ||| oneIf c)) = 1 ↔ a ∧ ¬ b ∧ ¬ c := by
  by_cases ha : a <;> by_cases hb : b <;> by_cases hc : c <;> simp [oneIf, ha, hb, hc] <;> decide
theorem or_one {a b : Prop} [Decidable a] [Decidable b] : oneIf a ||| oneIf b = 1 ↔ a ∨ b := by
  by_cases ha : a <;> by_cases hb : b <;> simp [oneIf, ha, hb] <;> decide
theorem law_body {v : Nat → Int32} {D : Nat → Nat} (hr : lawRows v) (hc : hasCode v 0 (lawCode D)) (hy : ∃ y, y ≤ 999 ∧ v 0 = znn y) : lawBody v (fun j => znn (D j)) := by
  obtain ⟨h58, hrow⟩ := hr
  have r0 := hrow 0 (by decide)
  have r1 := hrow 1 (by decide)
  have r2 := hrow 2 (by decide)
  have r3 := hrow 3 (by decide)
  have r4 := hrow 4 (by decide)
  simp only [lawLines, List.getD_cons_zero, List.getD_cons_succ, Nat.add_zero] at r0 r1 r2 r3 r4
  intro p u hp hu
  have F1 : ∀ q, sF v p q 1 = v (17 + p) := fun _ => rfl
  -- the values
  have v1 : ∀ F, sVal F v 0 4 = F 2 / 4 + znn (D 2) := fun F => val_of (cs := [(3, 0), (26, 4), (0, D 2), (23, 0)]) (by simp) (hasCode_mid (a := []) (z := (lawCode D).drop 4) hc) rfl val_1
  have v1w : ∀ F, sVal F v 4 16 = oneIf (znn (D 0) < F 1) &&& (1 - (oneIf (znn (D 1) < F 3) ||| oneIf ((9 : Int32) < F 5))) := fun F => val_of (cs := [(2, 0), (0, D 0), (29, 0), (4, 0), (0, D 1), (29, 0), (6, 0), (0, 9), (29, 0), (32, 0), (30, 0), (31, 0)]) (by simp) (hasCode_mid (a := (lawCode D).take 4) (z := (lawCode D).drop 16) hc) rfl val_1w
  have v2 : ∀ F, sVal F v 16 21 = F 4 - F 3 * znn (D 3) := fun F => val_of (cs := [(5, 0), (4, 0), (0, D 3), (25, 0), (24, 0)]) (by simp) (hasCode_mid (a := (lawCode D).take 16) (z := (lawCode D).drop 21) hc) rfl val_2
  have v3 : ∀ F, sVal F v 21 25 = F 8 / 3 + F 7 := fun F => val_of (cs := [(9, 0), (26, 3), (8, 0), (23, 0)]) (by simp) (hasCode_mid (a := (lawCode D).take 21) (z := (lawCode D).drop 25) hc) rfl val_3
  have v3w : ∀ F, sVal F v 25 32 = oneIf (znn (D 4) < F 8) ||| oneIf (F 2 < 3) := fun F => val_of (cs := [(9, 0), (0, D 4), (29, 0), (3, 0), (0, 3), (27, 0), (32, 0)]) (by simp) (hasCode_mid (a := (lawCode D).take 25) (z := (lawCode D).drop 32) hc) rfl val_3w
  have v4 : ∀ F, sVal F v 32 33 = znn (D 5) := fun F => val_of (cs := [(0, D 5)]) (by simp) (hasCode_mid (a := (lawCode D).take 32) (z := (lawCode D).drop 33) hc) rfl (by simp only [runL]; rw [ev_num (by simp)]; rfl)
  have v5 : ∀ F, sVal F v 33 45 = F 8 * znn (D 6) + F 6 * 50 - F 6 / 3 * 150 := fun F => val_of (cs := [(9, 0), (0, D 6), (25, 0), (7, 0), (0, 50), (25, 0), (23, 0), (7, 0), (26, 3), (0, 150), (25, 0), (24, 0)]) (by simp) (hasCode_mid (a := (lawCode D).take 33) (z := []) hc) rfl val_5
  have a0 : v 1226 = 20 := r0.2.2.2
  have a1 : v 1227 = 20 := r1.2.2.2
  have a2 : v 1228 = 21 := r2.2.2.2
  have a3 : v 1229 = 21 := r3.2.2.2
  have a4 : v 1230 = 22 := r4.2.2.2
  have z : ∀ q : Nat, q < 1000 → zi (znn q) = q := fun q hq => zn_zi (by omega)
  have so0 : ∀ F, sSo F v 0 = decide (sVal F v 4 16 = 1) := fun F => by
    unfold sSo
    rw [show v (1210 + 0) = znn 16 from r0.2.2.1, show v (1194 + 0) = znn 4 from r0.2.1, z 4 (by decide), z 16 (by decide), decide_eq_false (show ¬ znn 16 = znn 4 by decide), Bool.false_or]
  have so1 : ∀ F, sSo F v 1 = true := fun F => by
    unfold sSo
    rw [show v (1210 + 1) = znn 21 from r1.2.2.1, show v (1194 + 1) = znn 21 from r1.2.1, decide_eq_true rfl, Bool.true_or]
  have so2 : ∀ F, sSo F v 2 = decide (sVal F v 25 32 = 1) := fun F => by
    unfold sSo
    rw [show v (1210 + 2) = znn 32 from r2.2.2.1, show v (1194 + 2) = znn 25 from r2.2.1, z 25 (by decide), z 32 (by decide), decide_eq_false (show ¬ znn 32 = znn 25 by decide), Bool.false_or]
  have so3 : ∀ F, sSo F v 3 = true := fun F => by
    unfold sSo
    rw [show v (1210 + 3) = znn 33 from r3.2.2.1, show v (1194 + 3) = znn 33 from r3.2.1, decide_eq_true rfl, Bool.true_or]
  have so4 : ∀ F, sSo F v 4 = true := fun F => by
    unfold sSo
    rw [show v (1210 + 4) = znn 45 from r4.2.2.1, show v (1194 + 4) = znn 45 from r4.2.1, decide_eq_true rfl, Bool.true_or]
  have L0 : ∀ F, sLine F v 0 = F 2 / 4 + znn (D 2) := fun F => by
    unfold sLine
    rw [show v (1178 + 0) = znn 0 from r0.1, show v (1194 + 0) = znn 4 from r0.2.1, z 0 (by decide), z 4 (by decide)]
    exact v1 F
  have L1 : ∀ F, sLine F v 1 = F 4 - F 3 * znn (D 3) := fun F => by
    unfold sLine
    rw [show v (1178 + 1) = znn 16 from r1.1, show v (1194 + 1) = znn 21 from r1.2.1, z 16 (by decide), z 21 (by decide)]
    exact v2 F
  have L2 : ∀ F, sLine F v 2 = F 8 / 3 + F 7 := fun F => by
    unfold sLine
    rw [show v (1178 + 2) = znn 21 from r2.1, show v (1194 + 2) = znn 25 from r2.2.1, z 21 (by decide), z 25 (by decide)]
    exact v3 F
  have L3 : ∀ F, sLine F v 3 = znn (D 5) := fun F => by
    unfold sLine
    rw [show v (1178 + 3) = znn 32 from r3.1, show v (1194 + 3) = znn 33 from r3.2.1, z 32 (by decide), z 33 (by decide)]
    exact v4 F
  have L4 : ∀ F, sLine F v 4 = F 8 * znn (D 6) + F 6 * 50 - F 6 / 3 * 150 := fun F => by
    unfold sLine
    rw [show v (1178 + 4) = znn 33 from r4.1, show v (1194 + 4) = znn 45 from r4.2.1, z 33 (by decide), z 45 (by decide)]
    exact v5 F
  refine ⟨?_, ?_, ?_⟩
  · -- weight
    have e : sFind (sF v p (znn 0)) v 20 5 0 = if sSo (sF v p (znn 0)) v 0 = true then some 0 else some 1 := by
      simp only [sFind]
      rw [show v (1226 + 0) = 20 from a0, show v (1226 + (0 + 1)) = 20 from a1, show (0 + 1 : Nat) = 1 from rfl, so1]
      simp
    have hs : sAsk v 20 p 0 = zmax 0 (zmin 24 (if sSo (sF v p (znn 0)) v 0 = true then v (60 + p) / 4 + znn (D 2) else v (37 + p) - v (27 + p) * znn (D 3))) := by
      unfold sAsk sSays
      rw [h58, z 5 (by decide), e]
      by_cases h : sSo (sF v p (znn 0)) v 0 = true
      · rw [if_pos h, if_pos h]
        simp only
        rw [L0]
        rfl
      · rw [if_neg h, if_neg h]
        simp only
        rw [L1]
        rfl
    have hb : sSo (sF v p (znn 0)) v 0 = true ↔ znn (D 0) < v (17 + p) ∧ ¬ znn (D 1) < v (27 + p) ∧ ¬ (9 : Int32) < v 1 := by
      rw [so0, decide_eq_true_iff, v1w, and_not]
      exact Iff.rfl
    rw [hs]
    by_cases c0 : znn (D 0) < v (17 + p)
    · rw [if_pos c0]
      by_cases c1 : znn (D 1) < v (27 + p)
      · rw [if_pos c1, if_neg (fun h => (hb.mp h).2.1 c1)]
      · rw [if_neg c1]
        by_cases c2 : (9 : Int32) < v 1
        · rw [if_pos c2, if_neg (fun h => (hb.mp h).2.2 c2)]
        · rw [if_neg c2, if_pos (hb.mpr ⟨c0, c1, c2⟩)]
    · rw [if_neg c0, if_neg (fun h => c0 (hb.mp h).1)]
  · -- wear
    have e : sFind (sF v p (znn u)) v 21 5 0 = if sSo (sF v p (znn u)) v 2 = true then some 2 else some 3 := by
      simp only [sFind]
      rw [show v (1226 + 0) = 20 from a0, show v (1226 + (0 + 1)) = 20 from a1, show v (1226 + (0 + 1 + 1)) = 21 from a2, show v (1226 + (0 + 1 + 1 + 1)) = 21 from a3, show (0 + 1 + 1 + 1 : Nat) = 3 from rfl, show (0 + 1 + 1 : Nat) = 2 from rfl, so3]
      simp
    have hs : sAsk v 21 p u = zmax 0 (zmin 24 (if sSo (sF v p (znn u)) v 2 = true then znn u / 3 + znn (pop (zi (v (7 + p)))) else znn (D 5))) := by
      unfold sAsk sSays
      rw [h58, z 5 (by decide), e]
      by_cases h : sSo (sF v p (znn u)) v 2 = true
      · rw [if_pos h, if_pos h]
        simp only
        rw [L2]
        rfl
      · rw [if_neg h, if_neg h]
        simp only
        rw [L3]
        rfl
    have hb : sSo (sF v p (znn u)) v 2 = true ↔ znn (D 4) < znn u ∨ v (60 + p) < 3 := by
      rw [so2, decide_eq_true_iff, v3w, or_one]
      exact Iff.rfl
    rw [hs]
    by_cases c0 : znn (D 4) < znn u
    · rw [if_pos c0, if_pos (hb.mpr (Or.inl c0))]
    · rw [if_neg c0]
      by_cases c1 : v (60 + p) < 3
      · rw [if_pos c1, if_pos (hb.mpr (Or.inr c1))]
      · rw [if_neg c1, if_neg (fun h => (hb.mp h).elim c0 c1)]
  · -- notice
    obtain ⟨y, hy9, hy0⟩ := hy
    have e : sFind (sF v p (znn u)) v 22 5 0 = some 4 := by
      simp only [sFind]
      rw [show v (1226 + 0) = 20 from a0, show v (1226 + (0 + 1)) = 20 from a1, show v (1226 + (0 + 1 + 1)) = 21 from a2, show v (1226 + (0 + 1 + 1 + 1)) = 21 from a3, show v (1226 + (0 + 1 + 1 + 1 + 1)) = 22 from a4, show (0 + 1 + 1 + 1 + 1 : Nat) = 4 from rfl, so4]
      simp
    unfold sAsk sSays
    rw [h58, z 5 (by decide), e]
    simp only
    rw [L4]
    show zmax 0 (zmin 1000 (znn u * znn (D 6) + v 0 * 50 - v 0 / 3 * 150)) = _
    have ey : v 0 * 50 - v 0 / 3 * 150 = zrem (v 0) 3 * 50 := by
      rw [hy0]
      have : ∀ q : Fin 1000, znn q.val * 50 - znn q.val / 3 * 150 = zrem (znn q.val) 3 * 50 := by decide +kernel
      exact this ⟨y, by omega⟩
    rw [← ey]
    congr 2
    rw [Int32.sub_eq_add_neg, Int32.sub_eq_add_neg, Int32.add_assoc]
