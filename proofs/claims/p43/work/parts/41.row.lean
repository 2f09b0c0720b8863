-- ===== rows that agree where no YEAR changes them =====
def rowF (w w' : Nat → Int32) : Prop := ∀ j, 48 ≤ j → ¬ (578 ≤ j ∧ j < 1178) → w' j = w j
theorem rowF_symm {w w' : Nat → Int32} (h : rowF w w') : rowF w' w := fun j a b => (h j a b).symm
theorem rowF_trans {w w' w'' : Nat → Int32} (h : rowF w w') (h2 : rowF w' w'') : rowF w w'' := fun j a b => (h2 j a b).trans (h j a b)
theorem sRun_row {F w w' : Nat → Int32} (h : rowF w w') : ∀ (k i : Nat) (st : List Int32), sRun F w' k i st = sRun F w k i st
  | 0, _, _ => rfl
  | k + 1, i, st => by
    unfold sRun
    rw [h (1244 + 2 * i) (by omega) (by omega), h (1245 + 2 * i) (by omega) (by omega)]
    congr 1
    funext s
    exact sRun_row h k (i + 1) s
theorem cRun_row {S : Nat} {w w' : Nat → Int32} (h : rowF w w') : ∀ (k i : Nat) (st : List Int32), i + k ≤ 400 → cRun S w' k i st = cRun S w k i st
  | 0, _, _, _ => rfl
  | k + 1, i, st, hi => by
    unfold cRun
    rw [h (162 + i) (by omega) (by omega)]
    congr 1
    funext s
    exact cRun_row h k (i + 1) s (by omega)
theorem voiceN_row {w w' : Nat → Int32} (h : rowF w w') : ∀ n, n ≤ 10 → voiceN w' n = voiceN w n
  | 0, _ => rfl
  | n + 1, hn => by
    unfold voiceN
    rw [voiceN_row h n (by omega), h (80 + n) (by omega) (by omega)]
theorem fixOk_row {w w' : Nat → Int32} {n k c b : Nat} (h : rowF w w') (hok : fixOk w n k c b) : fixOk w' n k c b := by
  obtain ⟨⟨p1, p2, p3, p4, p5, p6, p7, p8⟩, ⟨l1, L, l2, l3, l4⟩, ⟨k1, k2, k3⟩, ⟨rl, r1, r2, r3, r4, r5⟩, b1, b2⟩ := hok
  have e : ∀ j, 48 ≤ j → j < 578 → w' j = w j := fun j a b => h j a (by omega)
  have e2 : ∀ j, 1178 ≤ j → w' j = w j := fun j a => h j (by omega) (by omega)
  refine ⟨⟨p1, by rw [e _ (by omega) (by omega)]; exact p2, by rw [e _ (by omega) (by omega)]; exact p3, by rw [e _ (by omega) (by omega)]; exact p4, by rw [e _ (by omega) (by omega)]; exact p5, by rw [e _ (by omega) (by omega)]; exact p6, by rw [e _ (by omega) (by omega), voiceN_row h n p1]; exact p7, fun p hp => by rw [e _ (by omega) (by omega), e _ (by omega) (by omega), e _ (by omega) (by omega)]; exact p8 p hp⟩, ⟨l1, L, l2, by rw [e _ (by omega) (by omega)]; exact l3, fun i hi => ?_⟩, ⟨k1, by rw [e _ (by omega) (by omega)]; exact k2, fun i hi => ?_⟩, ⟨rl, r1, by rw [e _ (by omega) (by omega)]; exact r2, by rw [e _ (by omega) (by omega)]; exact r3, fun j hj => by rw [e _ (by omega) (by omega)]; exact r4 j hj, fun S hS => by rw [cRun_row h rl 0 [] (by omega)]; exact r5 S hS⟩, b1, by rw [e _ (by omega) (by omega)]; exact b2⟩
  · obtain ⟨f, m, t, q1, q2, q3, q4, q5, q6, q7, q8, q9⟩ := l4 i hi
    refine ⟨f, m, t, q1, q2, q3, by rw [e2 _ (by omega)]; exact q4, by rw [e2 _ (by omega)]; exact q5, by rw [e2 _ (by omega)]; exact q6, by rw [e2 _ (by omega)]; exact q7, fun F => ?_, ?_⟩
    · rw [sRun_row h]; exact q8 F
    · rcases q9 with q9 | q9
      · exact Or.inl q9
      · exact Or.inr fun F => by rw [sRun_row h]; exact q9 F
  · obtain ⟨q1, q2, q3, q4, q5, q6⟩ := k3 i hi
    refine ⟨by rw [e _ (by omega) (by omega)]; exact q1, by rw [e _ (by omega) (by omega)]; exact q2, by rw [e _ (by omega) (by omega)]; exact q3, by rw [e _ (by omega) (by omega)]; exact q4, by rw [e _ (by omega) (by omega)]; exact q5, ?_⟩
    rw [e _ (by omega) (by omega)]
    rcases q6 with q6 | ⟨j, hj, q6, q7⟩
    · exact Or.inl q6
    · exact Or.inr ⟨j, hj, q6, by rw [e _ (by omega) (by omega), e _ (by omega) (by omega)]; exact q7⟩
theorem fixIs_row {A : ZI} {t : Nat} {w w' : Nat → Int32} {n k c b : Nat} (h : rowF w w') (hok : fixOk w n k c b) (hf : fixIs A t w n k c b) : fixIs A t w' n k c b := by
  obtain ⟨⟨p1, -⟩, ⟨l1, L, l2, l3, -⟩, ⟨k1, -⟩, ⟨rl, r1, r2, -⟩, b1, -⟩ := hok
  obtain ⟨⟨⟨f1, f2, f3, f4, f5⟩, f6⟩, ⟨g1, g2, g3, g4⟩, ⟨h1, h2⟩, ⟨i1, i2, i3⟩, ⟨j1, j2⟩⟩ := hf
  have e : ∀ j, 48 ≤ j → j < 578 → w' j = w j := fun j a b => h j a (by omega)
  have e2 : ∀ j, 1178 ≤ j → w' j = w j := fun j a => h j (by omega) (by omega)
  have zL : zi (w 58) = L := by rw [l3, zn_zi (by omega)]
  have zR : zi (w 54) = rl := by rw [r2, zn_zi (by omega)]
  refine ⟨⟨⟨by rw [e _ (by omega) (by omega)]; exact f1, by rw [e _ (by omega) (by omega)]; exact f2, by rw [e _ (by omega) (by omega)]; exact f3, by rw [e _ (by omega) (by omega)]; exact f4, by rw [e _ (by omega) (by omega)]; exact f5⟩, fun p hp => by rw [e _ (by omega) (by omega), e _ (by omega) (by omega), e _ (by omega) (by omega)]; exact f6 p hp⟩, ⟨by rw [e _ (by omega) (by omega)]; exact g1, g2, fun j hj => by rw [e2 _ (by omega), e2 _ (by omega)]; exact g3 j hj, fun i hi => ?_⟩, ⟨by rw [e _ (by omega) (by omega)]; exact h1, fun i hi => ?_⟩, ⟨by rw [e _ (by omega) (by omega)]; exact i1, by rw [e _ (by omega) (by omega)]; exact i2, fun j hj => ?_⟩, ⟨by rw [e _ (by omega) (by omega)]; exact j1, fun i hi => ?_⟩⟩
  · rw [e _ (by omega) (by omega), zL] at hi
    rw [e2 _ (by omega), e2 _ (by omega), e2 _ (by omega), e2 _ (by omega)]
    exact g4 i (by rw [zL]; exact hi)
  · rw [e _ (by omega) (by omega), e _ (by omega) (by omega), e _ (by omega) (by omega), e _ (by omega) (by omega), e _ (by omega) (by omega), e _ (by omega) (by omega)]
    exact h2 i hi
  · rw [e _ (by omega) (by omega), zR] at hj
    rw [e _ (by omega) (by omega)]
    exact i3 j (by rw [zR]; exact hj)
  · rw [e _ (by omega) (by omega), e _ (by omega) (by omega)]
    exact j2 i hi
theorem wSum_row {w w' : Nat → Int32} {f s : Nat} (hr : rowF w w') {m : Nat} (hm : m ≤ 12) (hf : f < 6) : wSum w' f s m = wSum w f s m := by
  induction m with
  | zero => rfl
  | succ m ih =>
    unfold wSum
    rw [ih (by omega), hr (90 + f + 6 * m) (by omega) (by omega)]
theorem pBest_row {w w' : Nat → Int32} {n k p h d : Nat} (hr : rowF w w') (hk : wrkOk w n k) : ∀ {m x : Nat}, pBest w k p h d m x → pBest w' k p h d m x := by
  have hk12 := hk.1
  have e : ∀ j, 48 ≤ j → j < 578 → w' j = w j := fun j a b => hr j a (by omega)
  have hsum : ∀ f, f < 6 → ∀ s m, m ≤ 12 → wSum w' f s m = wSum w f s m := by
    intro f hf s m
    induction m with
    | zero => intro _; rfl
    | succ m ih =>
      intro hm
      unfold wSum
      rw [ih (by omega), e _ (by omega) (by omega)]
  have haft : ∀ s i, i < k → (wAft w' s d i ↔ wAft w s d i) := by
    intro s i hi
    unfold wAft
    rw [e _ (by omega) (by omega)]
  have hq : ∀ s, pQual w' k p h d s ↔ pQual w k p h d s := by
    intro s
    unfold pQual wTog
    rw [hsum 1 (by decide) s k hk12]
    constructor
    · rintro ⟨a, b, c⟩
      exact ⟨a, b, fun i hi hs => by
        have := c i hi hs
        rw [e _ (by omega) (by omega), haft s i hi] at this
        exact this⟩
    · rintro ⟨a, b, c⟩
      exact ⟨a, b, fun i hi hs => by
        have := c i hi hs
        rw [e _ (by omega) (by omega), haft s i hi]
        exact this⟩
  have hb : ∀ s y, pBet w' k s y ↔ pBet w k s y := by
    intro s y
    unfold pBet
    rw [hsum 1 (by decide) s k hk12, hsum 1 (by decide) y k hk12, hsum 2 (by decide) s k hk12, hsum 2 (by decide) y k hk12]
  intro m
  induction m with
  | zero => intro x hx; exact hx
  | succ m ih =>
    rintro x ⟨y, hy, hx⟩
    refine ⟨y, ih hy, ?_⟩
    rw [hq, hb]
    exact hx
