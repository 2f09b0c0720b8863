-- ===== EVAL: what a text's steps come to =====
def stk (m : Nat → Int32) : List Int32 → Prop
  | [] => True
  | x :: r => m r.length = x ∧ stk m r
theorem stk_upd {m : Nat → Int32} {x : Int32} : ∀ {r : List Int32} {k : Nat}, r.length ≤ k → stk m r → stk (upd m k x) r
  | [], _, _, _ => trivial
  | y :: r, k, hk, h => by
    simp only [List.length_cons] at hk
    refine ⟨?_, stk_upd (by omega) h.2⟩
    rw [upd_ap, if_neg (by omega)]
    exact h.1
theorem stk_push {m : Nat → Int32} {x : Int32} {r : List Int32} (h : stk m r) : stk (upd m r.length x) (x :: r) :=
  ⟨by rw [upd_ap, if_pos rfl], stk_upd (Nat.le_refl _) h⟩
/-- one step of THE LAW, as the row has it -/
def sStep (F : Nat → Int32) (s v : Int32) (st : List Int32) : Option (List Int32) :=
  if s < 23 then
    if st.length < 64 then
      if s = 0 then some (v :: st) else if zin s 10 = true then some (F (zi s - 1) :: st) else none
    else none
  else match st with
  | [] => none
  | b :: r =>
    if s = 26 then (if v = 0 then none else some ((b / v) :: r))
    else if s = 30 then some (((1 : Int32) - b) :: r)
    else match r with
    | [] => none
    | a :: q => (f212_both s a b).bind fun x => some (x :: q)
def sRun (F w : Nat → Int32) : Nat → Nat → List Int32 → Option (List Int32)
  | 0, _, st => some st
  | k + 1, i, st => (sStep F (w (1244 + 2 * i)) (w (1245 + 2 * i)) st).bind (sRun F w k (i + 1))
theorem sStep_len {F : Nat → Int32} {s v : Int32} {st st' : List Int32} (h : sStep F s v st = some st') (hl : st.length ≤ 64) : st'.length ≤ 64 := by
  unfold sStep at h
  split at h
  · split at h
    · split at h
      · cases h; simp only [List.length_cons]; omega
      · split at h
        · cases h; simp only [List.length_cons]; omega
        · cases h
    · cases h
  · cases st with
    | nil => cases h
    | cons b r =>
      simp only at h
      split at h
      · split at h
        · cases h
        · cases h; exact hl
      · split at h
        · cases h; exact hl
        · cases r with
          | nil => cases h
          | cons a q =>
            simp only at h
            cases hb : f212_both s a b with
            | none => rw [hb] at h; cases h
            | some x => rw [hb] at h; cases h; simp only [List.length_cons] at hl ⊢; omega
theorem ref_run {F w : Nat → Int32} : ∀ (k i : Nat) (st st' : List Int32) (M : ZI) (fuel : Nat), sRun F w k i st = some st' → k < fuel → st.length ≤ 64 → i + k ≤ 410 → M 149 = w → (∀ j, j < 9 → M 160 (j + 1) = F j) → stk (M 159) st →
    ∃ M', f211_l6 0 (znn (i + k)) fuel (znn st.length) (znn i) M = some M' ∧ stk (M' 159) st' ∧ ∀ o, o ≠ 159 → M' o = M o := by
  intro k
  induction k with
  | zero =>
    intro i st st' M fuel h hf _ hi _ _ hs
    obtain ⟨n, rfl⟩ : ∃ n, fuel = n + 1 := ⟨fuel - 1, by omega⟩
    cases h
    refine ⟨M, ?_, hs, fun _ _ => rfl⟩
    simp (disch := omega) only [f211_l6, zl0, zl1, zl2, zl3, zl4, zl5, zl6, zl7, zl8, zl9, zl10, zl11, zl12, zl13, zl14, zl15, zl16, zl17, zl18, zl19, zl20, zl21, zl22, zl23, zl24, zl25, zl26, zl27, zl28, zl29, zl30, zl31, zl32, zl33, zl34, zl35, zl36, zl37, zl38, zl39, zl40, zl41, zl42, zl43, zl44, zl45, zl46, zl47, zl48, zl49, zl50, zl52, zl53, zl54, zl55, zl56, zl57, zl58, zl59, zl60, zl61, zl62, zl63, zl64, zl65, zl69, zl70, zl72, zl79, zl80, zl90, zl97, zl99, zl100, zl122, zl140, zl141, zl142, zl143, zl145, zl147, zl150, zl159, zl160, zl161, zl162, zl200, zl240, zl255, zl256, zl257, zl258, zl259, zl260, zl261, zl262, zl263, zl271, zl272, zl273, zl274, zl275, zl276, zl277, zl278, zl279, zl288, zl300, zl301, zl364, zl365, zl400, zl401, zl420, zl562, zl578, zl820, zl999, zl1000, zl1024, zl1178, zl1194, zl1210, zl1226, zl1244, zl2064, zl4096, zl9999, zl11264, zl100000, zn_add, zn_mul, zn_lt, zn_eq, zn_zi, zn_zin, zn_shl, zng1, zng2, zng3, zng8, zn_dec, Nat.add_zero, Nat.lt_irrefl, ↓reduceIte]
  | succ k ih =>
    intro i st st' M fuel h hf hl hi hw hF hs
    obtain ⟨n, rfl⟩ : ∃ n, fuel = n + 1 := ⟨fuel - 1, by omega⟩
    unfold sRun at h
    cases hst : sStep F (w (1244 + 2 * i)) (w (1245 + 2 * i)) st with
    | none => rw [hst] at h; cases h
    | some s1 =>
      rw [hst] at h
      simp only [Option.bind_some] at h
      have hl1 := sStep_len hst hl
      have e1 : i + (k + 1) = (i + 1) + k := by omega
      have e3 : znn (1244 + 820 * 0 + 2 * i) = znn (1244 + 2 * i) := by congr 1
      have e4 : znn (1244 + 820 * 0 + 2 * i + 1) = znn (1245 + 2 * i) := by congr 1; omega
      simp (maxSteps := 1000000) (disch := omega) only [f211_l6, zl0, zl1, zl2, zl3, zl4, zl5, zl6, zl7, zl8, zl9, zl10, zl11, zl12, zl13, zl14, zl15, zl16, zl17, zl18, zl19, zl20, zl21, zl22, zl23, zl24, zl25, zl26, zl27, zl28, zl29, zl30, zl31, zl32, zl33, zl34, zl35, zl36, zl37, zl38, zl39, zl40, zl41, zl42, zl43, zl44, zl45, zl46, zl47, zl48, zl49, zl50, zl52, zl53, zl54, zl55, zl56, zl57, zl58, zl59, zl60, zl61, zl62, zl63, zl64, zl65, zl69, zl70, zl72, zl79, zl80, zl90, zl97, zl99, zl100, zl122, zl140, zl141, zl142, zl143, zl145, zl147, zl150, zl159, zl160, zl161, zl162, zl200, zl240, zl255, zl256, zl257, zl258, zl259, zl260, zl261, zl262, zl263, zl271, zl272, zl273, zl274, zl275, zl276, zl277, zl278, zl279, zl288, zl300, zl301, zl364, zl365, zl400, zl401, zl420, zl562, zl578, zl820, zl999, zl1000, zl1024, zl1178, zl1194, zl1210, zl1226, zl1244, zl2064, zl4096, zl9999, zl11264, zl100000, zn_add, zn_mul, zn_lt, zn_eq, zn_zi, zn_zin, zn_shl, zng1, zng2, zng3, zng8, zn_dec, zlet, Option.bind_some, Nat.mul_zero, Nat.add_zero]
      rw [if_pos (show i < i + (k + 1) by omega), if_pos (show 1244 + 2 * i < 2064 by omega), if_pos (show 1244 + 2 * i + 1 < 2064 by omega), hw, show 1244 + 2 * i + 1 = 1245 + 2 * i by omega]
      have fin : ∀ M1 : ZI, stk (M1 159) s1 → (∀ o, o ≠ 159 → M1 o = M o) → ∃ M', f211_l6 (znn 0) (znn (i + (k + 1))) n (znn s1.length) (znn (i + 1)) M1 = some M' ∧ stk (M' 159) st' ∧ ∀ o, o ≠ 159 → M' o = M o := by
        intro M1 h1 h2
        rw [e1]
        obtain ⟨M', a1, a2, a3⟩ := ih (i + 1) s1 st' M1 n h (by omega) hl1 (by omega) ((h2 149 (by decide)).trans hw) (fun j hj => by rw [h2 160 (by decide)]; exact hF j hj) h1
        exact ⟨M', a1, a2, fun o ho => (a3 o ho).trans (h2 o ho)⟩
      generalize hs' : w (1244 + 2 * i) = s at hst ⊢
      generalize hv' : w (1245 + 2 * i) = v at hst ⊢
      unfold sStep at hst
      simp only [zl0, zl1, zl2, zl3, zl4, zl5, zl6, zl7, zl8, zl9, zl10, zl11, zl12, zl13, zl14, zl15, zl16, zl17, zl18, zl19, zl20, zl21, zl22, zl23, zl24, zl25, zl26, zl27, zl28, zl29, zl30, zl31, zl32, zl33, zl34, zl35, zl36, zl37, zl38, zl39, zl40, zl41, zl42, zl43, zl44, zl45, zl46, zl47, zl48, zl49, zl50, zl52, zl53, zl54, zl55, zl56, zl57, zl58, zl59, zl60, zl61, zl62, zl63, zl64, zl65, zl69, zl70, zl72, zl79, zl80, zl90, zl97, zl99, zl100, zl122, zl140, zl141, zl142, zl143, zl145, zl147, zl150, zl159, zl160, zl161, zl162, zl200, zl240, zl255, zl256, zl257, zl258, zl259, zl260, zl261, zl262, zl263, zl271, zl272, zl273, zl274, zl275, zl276, zl277, zl278, zl279, zl288, zl300, zl301, zl364, zl365, zl400, zl401, zl420, zl562, zl578, zl820, zl999, zl1000, zl1024, zl1178, zl1194, zl1210, zl1226, zl1244, zl2064, zl4096, zl9999, zl11264, zl100000] at hst
      by_cases c1 : s < znn 23
      · rw [if_pos c1] at hst
        rw [if_pos c1]
        split at hst
        · by_cases c2 : s = znn 0
          · rw [if_pos c2] at hst
            cases hst
            rw [if_pos c2, if_pos (by omega)]
            exact fin _ (by rw [zs_ap, if_pos rfl]; exact stk_push hs) (fun o ho => by rw [zs_ap, if_neg ho])
          · rw [if_neg c2] at hst
            rw [if_neg c2]
            split at hst
            · rename_i c3
              cases hst
              rw [if_pos c3, if_pos (by omega)]
              obtain ⟨j, hj, hj2, rfl⟩ := zin_ex c3
              have hj0 : j ≠ 0 := fun e => c2 (by rw [e])
              have e5 : M 160 (zi (znn j)) = F (zi (znn j) - 1) := by
                rw [zn_zi hj2]
                have := hF (j - 1) (by omega)
                rwa [show j - 1 + 1 = j by omega] at this
              rw [e5]
              exact fin _ (by rw [zs_ap, if_pos rfl]; exact stk_push hs) (fun o ho => by rw [zs_ap, if_neg ho])
            · cases hst
        · cases hst
      · rw [if_neg c1] at hst
        rw [if_neg c1]
        cases st with
        | nil => cases hst
        | cons b r =>
          have hr : r.length < 64 := by simp only [List.length_cons] at hl; omega
          have eb : M 159 r.length = b := hs.1
          simp (disch := omega) only [List.length_cons, zn_sub, zn_dec, zn_zi, zn_zin, Nat.add_sub_cancel]
          simp only at hst
          by_cases c2 : s = znn 26
          · rw [if_pos c2] at hst
            rw [if_pos c2, if_pos (by omega)]
            split at hst
            · cases hst
            · rename_i c3
              cases hst
              rw [if_neg c3, if_pos (by omega)]
              simp only [eb]
              exact fin _ (by rw [zs_ap, if_pos rfl]; exact stk_push hs.2) (fun o ho => by rw [zs_ap, if_neg ho])
          · rw [if_neg c2] at hst
            rw [if_neg c2]
            by_cases c4 : s = znn 30
            · rw [if_pos c4] at hst
              rw [if_pos c4, if_pos (by omega), if_pos (by omega)]
              cases hst
              simp only [eb]
              exact fin _ (by rw [zs_ap, if_pos rfl]; exact stk_push hs.2) (fun o ho => by rw [zs_ap, if_neg ho])
            · rw [if_neg c4] at hst
              rw [if_neg c4]
              cases r with
              | nil => cases hst
              | cons a q =>
                have ea : M 159 q.length = a := hs.2.1
                simp only [List.length_cons] at hr
                simp (disch := omega) only [List.length_cons, zn_sub, zn_dec, zn_zi, zn_zin, Nat.add_sub_cancel]
                rw [if_pos (by omega), if_pos (by omega)]
                rw [ea]
                rw [show M 159 (q.length + 1) = b from eb]
                simp only at hst
                cases hb : f212_both s a b with
                | none => rw [hb] at hst; cases hst
                | some x =>
                  rw [hb] at hst
                  cases hst
                  simp only [Option.bind_some]
                  rw [if_pos (by omega)]
                  exact fin _ (by rw [zs_ap, if_pos rfl]; exact stk_push hs.2.2) (fun o ho => by rw [zs_ap, if_neg ho])
