-- ===== the parts of the row, one by one =====
theorem sRun_L {F w w' : Nat → Int32} (h : ∀ j, 1178 ≤ j → w' j = w j) : ∀ (k i : Nat) (st : List Int32), sRun F w' k i st = sRun F w k i st
  | 0, _, _ => rfl
  | k + 1, i, st => by
    unfold sRun
    rw [h (1244 + 2 * i) (by omega), h (1245 + 2 * i) (by omega)]
    congr 1
    funext s
    exact sRun_L h k (i + 1) s
theorem lawOk_L {w w' : Nat → Int32} {c : Nat} (h58 : w' 58 = w 58) (h : ∀ j, 1178 ≤ j → w' j = w j) (hk : lawOk w c) : lawOk w' c := by
  obtain ⟨l1, L, l2, l3, l4⟩ := hk
  refine ⟨l1, L, l2, by rw [h58]; exact l3, fun i hi => ?_⟩
  obtain ⟨f, m, t, q1, q2, q3, q4, q5, q6, q7, q8, q9⟩ := l4 i hi
  refine ⟨f, m, t, q1, q2, q3, by rw [h _ (by omega)]; exact q4, by rw [h _ (by omega)]; exact q5, by rw [h _ (by omega)]; exact q6, by rw [h _ (by omega)]; exact q7, fun F => ?_, ?_⟩
  · rw [sRun_L h]; exact q8 F
  · rcases q9 with q9 | q9
    · exact Or.inl q9
    · exact Or.inr fun F => by rw [sRun_L h]; exact q9 F
theorem lawIs_L {A : ZI} {t c : Nat} {w w' : Nat → Int32} (h58 : w' 58 = w 58) (h : ∀ j, 1178 ≤ j → w' j = w j) (hk : lawIs A t w c) : lawIs A t w' c := by
  obtain ⟨g1, g2, g3, g4⟩ := hk
  refine ⟨by rw [h58]; exact g1, g2, fun j hj => by rw [h _ (by omega), h _ (by omega)]; exact g3 j hj, fun i hi => ?_⟩
  rw [h58] at hi
  rw [h _ (by omega), h _ (by omega), h _ (by omega), h _ (by omega)]
  exact g4 i hi
theorem lawIs_of {A A' : ZI} {t c : Nat} {w : Nat → Int32} (h : lawIs A t w c) (g : ∀ o, (t ≤ o ∧ o ≤ t + 3) ∨ (t + 5 ≤ o ∧ o ≤ t + 8) → A' o = A o) : lawIs A' t w c := by
  unfold lawIs at h ⊢
  rw [g t (by omega), g (t + 1) (by omega), g (t + 2) (by omega), g (t + 3) (by omega), g (t + 5) (by omega), g (t + 6) (by omega), g (t + 7) (by omega), g (t + 8) (by omega)]
  exact h
theorem wrkOk_W {w w' : Nat → Int32} {n n' k : Nat} (h52 : w' 52 = w 52) (h : ∀ j, 90 ≤ j → j < 162 → w' j = w j) (hn : n ≤ n') (hk : wrkOk w n k) : wrkOk w' n' k := by
  obtain ⟨k1, k2, k3⟩ := hk
  refine ⟨k1, by rw [h52]; exact k2, fun i hi => ?_⟩
  obtain ⟨⟨o, ho, q1⟩, q2, q3, q4, q5, q6⟩ := k3 i hi
  refine ⟨⟨o, by omega, by rw [h _ (by omega) (by omega)]; exact q1⟩, by rw [h _ (by omega) (by omega)]; exact q2, by rw [h _ (by omega) (by omega)]; exact q3, by rw [h _ (by omega) (by omega)]; exact q4, by rw [h _ (by omega) (by omega)]; exact q5, ?_⟩
  rw [h _ (by omega) (by omega)]
  rcases q6 with q6 | ⟨j, hj, q6, q7⟩
  · exact Or.inl q6
  · exact Or.inr ⟨j, hj, q6, by rw [h _ (by omega) (by omega), h _ (by omega) (by omega)]; exact q7⟩
theorem wrkIs_W {A : ZI} {t k : Nat} {w w' : Nat → Int32} (h52 : w' 52 = w 52) (h : ∀ j, 90 ≤ j → j < 162 → w' j = w j) (hk12 : k ≤ 12) (hk : wrkIs A t w k) : wrkIs A t w' k := by
  obtain ⟨h1, h2⟩ := hk
  refine ⟨by rw [h52]; exact h1, fun i hi => ?_⟩
  rw [h _ (by omega) (by omega), h _ (by omega) (by omega), h _ (by omega) (by omega), h _ (by omega) (by omega), h _ (by omega) (by omega), h _ (by omega) (by omega)]
  exact h2 i hi
theorem cRun_C {S : Nat} {w w' : Nat → Int32} (h : ∀ j, 162 ≤ j → j < 562 → w' j = w j) : ∀ (k i : Nat) (st : List Int32), i + k ≤ 400 → cRun S w' k i st = cRun S w k i st
  | 0, _, _, _ => rfl
  | k + 1, i, st, hi => by
    unfold cRun
    rw [h (162 + i) (by omega) (by omega)]
    congr 1
    funext s
    exact cRun_C h k (i + 1) s (by omega)
theorem ruleOk_C {w w' : Nat → Int32} (h53 : w' 53 = w 53) (h54 : w' 54 = w 54) (h : ∀ j, 162 ≤ j → j < 562 → w' j = w j) (hk : ruleOk w) : ruleOk w' := by
  obtain ⟨rl, r1, r2, r3, r4, r5⟩ := hk
  exact ⟨rl, r1, by rw [h54]; exact r2, by rw [h53]; exact r3, fun j hj => by rw [h _ (by omega) (by omega)]; exact r4 j hj, fun S hS => by rw [cRun_C h rl 0 [] (by omega)]; exact r5 S hS⟩
theorem ruleIs_C {A : ZI} {t : Nat} {w w' : Nat → Int32} (h53 : w' 53 = w 53) (h54 : w' 54 = w 54) (h : ∀ j, 162 ≤ j → j < 562 → w' j = w j) (hok : ruleOk w) (hk : ruleIs A t w) : ruleIs A t w' := by
  obtain ⟨rl, r1, r2, -⟩ := hok
  obtain ⟨i1, i2, i3⟩ := hk
  have zR : zi (w 54) = rl := by rw [r2, zn_zi (by omega)]
  refine ⟨by rw [h53]; exact i1, by rw [h54]; exact i2, fun j hj => ?_⟩
  rw [h54, zR] at hj
  rw [h _ (by omega) (by omega)]
  exact i3 j (by rw [zR]; exact hj)
theorem ruleIs_of {A A' : ZI} {t : Nat} {w : Nat → Int32} (h : ruleIs A t w) (g : ∀ o, t ≤ o → o ≤ t + 3 → A' o = A o) : ruleIs A' t w := by
  unfold ruleIs at h ⊢
  rw [g t (by omega) (by omega), g (t + 1) (by omega) (by omega), g (t + 2) (by omega) (by omega), g (t + 3) (by omega) (by omega)]
  exact h
theorem bidIs_D {A : ZI} {t b : Nat} {w w' : Nat → Int32} (h55 : w' 55 = w 55) (h : ∀ j, 562 ≤ j → j < 578 → w' j = w j) (hb : b ≤ 8) (hk : bidIs A t w b) : bidIs A t w' b := by
  obtain ⟨h1, h2⟩ := hk
  refine ⟨by rw [h55]; exact h1, fun i hi => ?_⟩
  rw [h _ (by omega) (by omega), h _ (by omega) (by omega)]
  exact h2 i hi
theorem bidIs_of {A A' : ZI} {t b : Nat} {w : Nat → Int32} (h : bidIs A t w b) (g : ∀ o, t ≤ o → o ≤ t + 2 → A' o = A o) : bidIs A' t w b := by
  unfold bidIs at h ⊢
  rw [g t (by omega) (by omega), g (t + 1) (by omega) (by omega), g (t + 2) (by omega) (by omega)]
  exact h
theorem pplIs_of {A A' : ZI} {t n : Nat} {w : Nat → Int32} (h : pplIs A t w n) (g : ∀ o, o = t ∨ (t + 36 ≤ o ∧ o ≤ t + 38) → A' o = A o) : pplIs A' t w n := by
  unfold pplIs at h ⊢
  rw [g t (by omega), g (t + 36) (by omega), g (t + 37) (by omega), g (t + 38) (by omega)]
  exact h
theorem voiceN_P {w w' : Nat → Int32} : ∀ n, (∀ p, p < n → w' (80 + p) = w (80 + p)) → voiceN w' n = voiceN w n
  | 0, _ => rfl
  | n + 1, h => by
    unfold voiceN
    rw [voiceN_P n (fun p hp => h p (by omega)), h n (by omega)]
/-- law, works, rule and bids are as they were: what is left to show is that of the PEOPLE -/
theorem fix_rest {A A' : ZI} {w w' : Nat → Int32} {n n' k c b : Nat} (hf : fixIs A 1 w n k c b) (hok : fixOk w n k c b) (hn : n ≤ n') (g : ∀ o, 2 ≤ o → o ≠ 16 → o ≠ 33 → o ≠ 40 → o ≠ 41 → o ≠ 28 → o < 2 ∨ 7 ≤ o → o < 37 ∨ 39 < o → A' o = A o) (h : ∀ j, 48 ≤ j → ¬ (578 ≤ j ∧ j < 1178) → ¬ (60 ≤ j ∧ j < 90) → j ≠ 48 → j ≠ 49 → j ≠ 50 → j ≠ 51 → j ≠ 56 → j ≠ 57 → w' j = w j) (hp : pplIs A' 1 w' n') (hpo : pplOk w' n') : fixIs A' 1 w' n' k c b ∧ fixOk w' n' k c b := by
  obtain ⟨-, f2, f3, f4, f5⟩ := hf
  obtain ⟨-, o2, o3, o4, o5, o6⟩ := hok
  have hk12 := o3.1
  have e : ∀ j, 90 ≤ j → j < 578 → w' j = w j := fun j q1 q2 => h j (by omega) (by omega) (by omega) (by omega) (by omega) (by omega) (by omega) (by omega) (by omega)
  have e2 : ∀ j, 1178 ≤ j → w' j = w j := fun j q1 => h j (by omega) (by omega) (by omega) (by omega) (by omega) (by omega) (by omega) (by omega) (by omega)
  have e3 : ∀ j, j = 52 ∨ j = 53 ∨ j = 54 ∨ j = 55 ∨ j = 58 → w' j = w j := fun j q1 => h j (by omega) (by omega) (by omega) (by omega) (by omega) (by omega) (by omega) (by omega) (by omega)
  refine ⟨⟨hp, ?_, ?_, ?_, ?_⟩, ⟨hpo, ?_, ?_, ?_, o5, ?_⟩⟩
  · exact lawIs_L (e3 58 (by omega)) e2 (lawIs_of f2 (fun o ho => g o (by omega) (by omega) (by omega) (by omega) (by omega) (by omega) (by omega) (by omega)))
  · exact wrkIs_W (e3 52 (by omega)) (fun j q1 q2 => e j (by omega) (by omega)) hk12 (wrkIs_of f3 (by rw [g 21 (by decide) (by decide) (by decide) (by decide) (by decide) (by decide) (by omega) (by omega)]) (fun o q1 q2 => g o (by omega) (by omega) (by omega) (by omega) (by omega) (by omega) (by omega) (by omega)))
  · exact ruleIs_C (e3 53 (by omega)) (e3 54 (by omega)) (fun j q1 q2 => e j (by omega) (by omega)) o4 (ruleIs_of f4 (fun o q1 q2 => g o (by omega) (by omega) (by omega) (by omega) (by omega) (by omega) (by omega) (by omega)))
  · exact bidIs_D (e3 55 (by omega)) (fun j q1 q2 => e j (by omega) (by omega)) o5 (bidIs_of f5 (fun o q1 q2 => g o (by omega) (by omega) (by omega) (by omega) (by omega) (by omega) (by omega) (by omega)))
  · exact lawOk_L (e3 58 (by omega)) e2 o2
  · exact wrkOk_W (e3 52 (by omega)) (fun j q1 q2 => e j (by omega) (by omega)) hn o3
  · exact ruleOk_C (e3 53 (by omega)) (e3 54 (by omega)) (fun j q1 q2 => e j (by omega) (by omega)) o4
  · rw [e3 55 (by omega)]; exact o6
