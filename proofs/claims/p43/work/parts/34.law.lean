-- ===== what THE LAW tells, on both sides =====
def sF (w : Nat → Int32) (p : Nat) (used : Int32) : Nat → Int32
  | 0 => znn p
  | 1 => w (17 + p)
  | 2 => w (60 + p)
  | 3 => w (27 + p)
  | 4 => w (37 + p)
  | 5 => w 1
  | 6 => w 0
  | 7 => znn (pop (zi (w (7 + p))))
  | _ => used
def sVal (F w : Nat → Int32) (a b : Nat) : Int32 := match sRun F w (b - a) a [] with
  | some (x :: _) => x
  | _ => 0
def sSo (F w : Nat → Int32) (i : Nat) : Bool := decide (w (1210 + i) = w (1194 + i)) || decide (sVal F w (zi (w (1194 + i))) (zi (w (1210 + i))) = 1)
def sFind (F w : Nat → Int32) (word : Int32) : Nat → Nat → Option Nat
  | 0, _ => none
  | d + 1, i => if w (1226 + i) = word ∧ sSo F w i = true then some i else sFind F w word d (i + 1)
def sLine (F w : Nat → Int32) (i : Nat) : Int32 := sVal F w (zi (w (1178 + i))) (zi (w (1194 + i)))
def sSays (w : Nat → Int32) (word : Int32) (p : Nat) (used without most : Int32) : Int32 :=
  match sFind (sF w p used) w word (zi (w 58)) 0 with
  | some i => zmax 0 (zmin most (sLine (sF w p used) w i))
  | none => without
def lineOk (w : Nat → Int32) (c i : Nat) : Prop := ∃ f m e, f ≤ m ∧ m ≤ e ∧ e ≤ c ∧ w (1178 + i) = znn f ∧ w (1194 + i) = znn m ∧ w (1210 + i) = znn e ∧ (w (1226 + i) = 20 ∨ w (1226 + i) = 21 ∨ w (1226 + i) = 22) ∧ (∀ F, ∃ x, sRun F w (m - f) f [] = some [x]) ∧ (m = e ∨ ∀ F, ∃ x, (x = 0 ∨ x = 1) ∧ sRun F w (e - m) m [] = some [x])
def lawOk (w : Nat → Int32) (c : Nat) : Prop := c ≤ 400 ∧ ∃ L, L ≤ 16 ∧ w 58 = znn L ∧ ∀ i, i < L → lineOk w c i
def wordRel (a b : Int32) : Prop := (a = 256 ∧ b = 20) ∨ (a = 257 ∧ b = 21) ∨ (a = 258 ∧ b = 22)
/-- the class has THE LAW of the row w, its steps being c; t is the place of the class's law -/
def lawIs (M : ZI) (t : Nat) (w : Nat → Int32) (c : Nat) : Prop := M t 5 = w 58 ∧ M (t + 1) 3 = znn c ∧ (∀ j, j < c → opRel (M (t + 2) j) (M (t + 3) j) (w (1244 + 2 * j)) (w (1245 + 2 * j))) ∧ ∀ i, i < zi (w 58) → wordRel (M (t + 5) i) (w (1226 + i)) ∧ M (t + 6) i = w (1178 + i) ∧ M (t + 7) i = w (1194 + i) ∧ M (t + 8) i = w (1210 + i)
theorem word_eq {a b c d : Int32} (h1 : wordRel a b) (h2 : wordRel c d) : (a = c ↔ b = d) := by
  rcases h1 with ⟨rfl, rfl⟩ | ⟨rfl, rfl⟩ | ⟨rfl, rfl⟩ <;> rcases h2 with ⟨rfl, rfl⟩ | ⟨rfl, rfl⟩ | ⟨rfl, rfl⟩ <;> decide
theorem sVal_of {F w : Nat → Int32} {a b : Nat} {x : Int32} (h : sRun F w (b - a) a [] = some [x]) : sVal F w a b = x := by
  rw [sVal, h]
theorem tells_cls {F w : Nat → Int32} {c L : Nat} {W W' : Int32} (hw : lawOk w c) (hL : w 58 = znn L) (hL16 : L ≤ 16) (hW : wordRel W W') : ∀ (d i : Nat) (M : ZI) (fuel : Nat), i + d = L → d < fuel → lawIs M 12 w c → (∀ j, j < 9 → M 41 j = F j) →
    ∃ M', f29_l2 12 W 41 fuel (znn i) M = some ((match sFind F w W' d i with
      | some j => sLine F w j
      | none => if W = 256 then 1 else if W = 257 then F 8 / 8 else 100), M') ∧ ∀ o, o ≠ 16 → M' o = M o := by
  obtain ⟨hc, L', hL16', hL', hlines⟩ := hw
  have hzL : zi (w 58) = L := by rw [hL, zn_zi (by omega)]
  have hLL : L' = L := by rw [← hzL, hL', zn_zi (by omega)]
  subst hLL
  intro d
  induction d with
  | zero =>
    intro i M fuel hi hf hM hF
    obtain ⟨n, rfl⟩ : ∃ n, fuel = n + 1 := ⟨fuel - 1, by omega⟩
    refine ⟨M, ?_, fun _ _ => rfl⟩
    rw [f29_l2, hM.1, hL, if_neg (by rw [zn_lt (by omega) (by omega)]; omega)]
    simp only [sFind]
    have h8 := hF 8 (by decide)
    rcases hW with ⟨rfl, rfl⟩ | ⟨rfl, rfl⟩ | ⟨rfl, rfl⟩
    · rfl
    · rw [if_neg (by decide), if_pos rfl, if_pos (by decide), if_neg (by decide), if_pos rfl, show zi 8 = 8 from rfl, h8]
    · rfl
  | succ d ih =>
    intro i M fuel hi hf hM hF
    obtain ⟨n, rfl⟩ : ∃ n, fuel = n + 1 := ⟨fuel - 1, by omega⟩
    obtain ⟨hM1, hM2, hM3, hM4⟩ := hM
    have hz : zin (znn i) 16 = true := (zn_zin (by omega)).mpr (by omega)
    have zz : zi (znn i) = i := zn_zi (by omega)
    have e1 : znn i + 1 = znn (i + 1) := zn_add i 1
    obtain ⟨f, m, e, hfm, hme, hec, q1, q2, q3, q4, q5, q6⟩ := hlines i (by omega)
    obtain ⟨r1, r2, r3, r4⟩ := hM4 i (by rw [hzL]; omega)
    have next : ∀ M1 : ZI, (∀ o, o ≠ 16 → M1 o = M o) → ∃ M', f29_l2 12 W 41 n (znn (i + 1)) M1 = some ((match sFind F w W' d (i + 1) with
      | some j => sLine F w j
      | none => if W = 256 then 1 else if W = 257 then F 8 / 8 else 100), M') ∧ ∀ o, o ≠ 16 → M' o = M o := by
      intro M1 h
      have g : ∀ o, o ≠ 16 → M1 o = M o := h
      obtain ⟨M', a1, a2⟩ := ih (i + 1) M1 n (by omega) (by omega) ⟨by rw [g 12 (by decide)]; exact hM1, by rw [g 13 (by decide)]; exact hM2, fun j hj => by rw [g 14 (by decide), g 15 (by decide)]; exact hM3 j hj, fun j hj => by rw [g 17 (by decide), g 18 (by decide), g 19 (by decide), g 20 (by decide)]; exact hM4 j hj⟩ (fun j hj => by rw [g 41 (by decide)]; exact hF j hj)
      exact ⟨M', a1, fun o ho => (a2 o ho).trans (h o ho)⟩
    have line : ∀ M1 : ZI, (∀ o, o ≠ 16 → M1 o = M o) → ∃ M', f30_run 13 (M1 18 i) (M1 19 i) 41 0 M1 = some (sLine F w i, M') ∧ ∀ o, o ≠ 16 → M' o = M o := by
      intro M1 g
      obtain ⟨x, hx⟩ := q5 F
      obtain ⟨M', a1, a2⟩ := run_both (M := M1) hc hx hfm (by omega) (by rw [g 13 (by decide)]; exact hM2) (fun j hj => by rw [g 14 (by decide), g 15 (by decide)]; exact hM3 j hj) (fun j hj => by rw [g 41 (by decide)]; exact hF j hj)
      refine ⟨M', ?_, fun o ho => (a2 o ho).trans (g o ho)⟩
      rw [g 18 (by decide), g 19 (by decide), show M 18 i = znn f from r2.trans q1, show M 19 i = znn m from r3.trans q2, a1, sLine, q1, q2, zn_zi (by omega), zn_zi (by omega), sVal_of hx]
    rw [f29_l2, hM1, hL, if_pos ((zn_lt (by omega) (by omega)).mpr (by omega)), if_pos hz, if_pos hz, zz, e1]
    simp only [Nat.reduceAdd] at *
    have hd : ((if M 19 i = M 20 i then some (1 : Int32) else some 0) : Option Int32) = some (if m = e then 1 else 0) := by
      rw [r3, r4, q2, q3]
      by_cases h : m = e
      · rw [h, if_pos rfl, if_pos rfl]
      · rw [if_neg (by rw [zn_eq (by omega) (by omega)]; exact h), if_neg h]
    rw [hd]
    simp only [Option.bind_some]
    rw [if_pos hz]
    unfold sFind
    by_cases hword : M 17 i = W
    · have hword' : w (1226 + i) = W' := (word_eq r1 hW).mp hword
      rw [if_pos hword]
      simp only [zlet]
      by_cases h : m = e
      · have hso : sSo F w i = true := by rw [sSo, q2, q3, h]; simp
        rw [if_pos h, if_neg (by decide), if_pos hz, if_pos hz, zz, if_pos ⟨hword', hso⟩]
        obtain ⟨M', a1, a2⟩ := line M (fun _ _ => rfl)
        rw [a1]
        exact ⟨M', rfl, a2⟩
      · rw [if_neg h, if_pos rfl, if_pos hz, if_pos hz]
        obtain ⟨x, hx01, hx⟩ := (q6.resolve_left h) F
        obtain ⟨M1, a1, a2⟩ := run_both (M := M) hc hx hme hec hM2 hM3 hF
        rw [show M 19 i = znn m from r3.trans q2, show M 20 i = znn e from r4.trans q3, a1]
        simp only [Option.bind_some]
        have hsv : sVal F w (zi (w (1194 + i))) (zi (w (1210 + i))) = x := by rw [q2, q3, zn_zi (by omega), zn_zi (by omega), sVal_of hx]
        rcases hx01 with rfl | rfl
        · have hso : ¬ sSo F w i = true := by
            rw [sSo, hsv, q2, q3]
            simp [zn_eq (show e < 2147483648 by omega) (show m < 2147483648 by omega)]
            omega
          rw [if_pos rfl, if_neg (fun h => hso h.2)]
          exact next M1 a2
        · have hso : sSo F w i = true := by rw [sSo, hsv]; simp
          rw [if_neg (by decide), if_pos hz, if_pos hz, zz, if_pos ⟨hword', hso⟩]
          obtain ⟨M', b1, b2⟩ := line M1 a2
          rw [b1]
          exact ⟨M', rfl, b2⟩
    · have hword' : ¬ w (1226 + i) = W' := fun h => hword ((word_eq r1 hW).mpr h)
      rw [if_neg hword, if_neg (fun h => hword' h.1)]
      exact next M (fun _ _ => rfl)
theorem les_eq (a b : Int32) : f202_lesser a b = some (zmin a b) := by
  unfold f202_lesser zmin
  by_cases h : a < b
  · rw [if_pos h, if_neg (by grind)]
  · rw [if_neg h]
    by_cases h2 : b < a
    · rw [if_pos h2]
    · rw [if_neg h2]; congr 1; grind
theorem gre_eq (a b : Int32) : f213_greater a b = some (zmax a b) := by
  unfold f213_greater zmax
  by_cases h : b < a
  · rw [if_pos h, if_neg (by grind)]
  · rw [if_neg h]
    by_cases h2 : a < b
    · rw [if_pos h2]
    · rw [if_neg h2]; congr 1; grind
theorem says_ref {F w : Nat → Int32} {c L : Nat} {W' dflt most : Int32} (hw : lawOk w c) (hL : w 58 = znn L) (hL16 : L ≤ 16) : ∀ (d i : Nat) (M : ZI) (fuel : Nat), i + d = L → d < fuel → M 149 = w → (∀ j, j < 9 → M 160 (j + 1) = F j) →
    ∃ M', f208_l123 W' dflt most fuel (znn i) M = some ((match sFind F w W' d i with
      | some j => zmax 0 (zmin most (sLine F w j))
      | none => dflt), M') ∧ ∀ o, o ≠ 159 → M' o = M o := by
  obtain ⟨hc, L', hL16', hL', hlines⟩ := hw
  have hzL : zi (w 58) = L := by rw [hL, zn_zi (by omega)]
  have hLL : L' = L := by rw [← hzL, hL', zn_zi (by omega)]
  subst hLL
  intro d
  induction d with
  | zero =>
    intro i M fuel hi hf hM hF
    obtain ⟨n, rfl⟩ : ∃ n, fuel = n + 1 := ⟨fuel - 1, by omega⟩
    refine ⟨M, ?_, fun _ _ => rfl⟩
    rw [f208_l123, hM, hL, if_neg (by rw [zn_lt (by omega) (by omega)]; omega)]
    rfl
  | succ d ih =>
    intro i M fuel hi hf hM hF
    obtain ⟨n, rfl⟩ : ∃ n, fuel = n + 1 := ⟨fuel - 1, by omega⟩
    have e1 : znn i + 1 = znn (i + 1) := zn_add i 1
    obtain ⟨f, m, e, hfm, hme, hec, q1, q2, q3, q4, q5, q6⟩ := hlines i (by omega)
    have z1 : (1226 : Int32) + znn i = znn (1226 + i) := zn_add 1226 i
    have z2 : (1210 : Int32) + znn i = znn (1210 + i) := zn_add 1210 i
    have z3 : (1194 : Int32) + znn i = znn (1194 + i) := zn_add 1194 i
    have z4 : (1178 : Int32) + znn i = znn (1178 + i) := zn_add 1178 i
    have y1 : zi (znn (1226 + i)) = 1226 + i := zn_zi (by omega)
    have y2 : zi (znn (1210 + i)) = 1210 + i := zn_zi (by omega)
    have y3 : zi (znn (1194 + i)) = 1194 + i := zn_zi (by omega)
    have y4 : zi (znn (1178 + i)) = 1178 + i := zn_zi (by omega)
    have x1 : zin (znn (1226 + i)) 2064 = true := (zn_zin (by omega)).mpr (by omega)
    have x2 : zin (znn (1210 + i)) 2064 = true := (zn_zin (by omega)).mpr (by omega)
    have x3 : zin (znn (1194 + i)) 2064 = true := (zn_zin (by omega)).mpr (by omega)
    have x4 : zin (znn (1178 + i)) 2064 = true := (zn_zin (by omega)).mpr (by omega)
    have next : ∀ M1 : ZI, (∀ o, o ≠ 159 → M1 o = M o) → ∃ M', f208_l123 W' dflt most n (znn (i + 1)) M1 = some ((match sFind F w W' d (i + 1) with
      | some j => zmax 0 (zmin most (sLine F w j))
      | none => dflt), M') ∧ ∀ o, o ≠ 159 → M' o = M o := by
      intro M1 g
      obtain ⟨M', a1, a2⟩ := ih (i + 1) M1 n (by omega) (by omega) ((g 149 (by decide)).trans hM) (fun j hj => by rw [g 160 (by decide)]; exact hF j hj)
      exact ⟨M', a1, fun o ho => (a2 o ho).trans (g o ho)⟩
    have line : ∀ M1 : ZI, (∀ o, o ≠ 159 → M1 o = M o) → ∃ M', f211_comesTo 0 (M1 149 (1178 + i)) (M1 149 (1194 + i)) M1 = some (sLine F w i, M') ∧ ∀ o, o ≠ 159 → M' o = M o := by
      intro M1 g
      obtain ⟨x, hx⟩ := q5 F
      obtain ⟨M', a1, a2⟩ := run_ref (M := M1) hx hfm (by omega) ((g 149 (by decide)).trans hM) (fun j hj => by rw [g 160 (by decide)]; exact hF j hj)
      refine ⟨M', ?_, fun o ho => (a2 o ho).trans (g o ho)⟩
      rw [g 149 (by decide), hM, q1, q2, a1, sLine, q1, q2, zn_zi (by omega), zn_zi (by omega), sVal_of hx]
    rw [f208_l123, hM, hL, if_pos ((zn_lt (by omega) (by omega)).mpr (by omega)), z1, if_pos x1, y1, e1]
    unfold sFind
    by_cases hword : w (1226 + i) = W'
    · rw [if_pos hword]
      have hso : ∃ M1, f210_isSo (znn i) M = some (if sSo F w i = true then 1 else 0, M1) ∧ ∀ o, o ≠ 159 → M1 o = M o := by
        unfold f210_isSo
        rw [z2, z3, if_pos x2, if_pos x3, y2, y3, hM, q2, q3]
        by_cases h : m = e
        · have hso : sSo F w i = true := by rw [sSo, q2, q3, h]; simp
          rw [h, if_pos rfl, if_pos hso]
          exact ⟨M, rfl, fun _ _ => rfl⟩
        · rw [if_neg (by rw [zn_eq (by omega) (by omega)]; omega), if_pos x3, if_pos x2]
          obtain ⟨x, hx01, hx⟩ := (q6.resolve_left h) F
          obtain ⟨M1, a1, a2⟩ := run_ref (M := M) hx hme (by omega) hM hF
          rw [a1]
          have hsv : sVal F w (zi (w (1194 + i))) (zi (w (1210 + i))) = x := by rw [q2, q3, zn_zi (by omega), zn_zi (by omega), sVal_of hx]
          refine ⟨M1, ?_, a2⟩
          rcases hx01 with rfl | rfl
          · have hso : ¬ sSo F w i = true := by
              rw [sSo, hsv, q2, q3]
              simp [zn_eq (show e < 2147483648 by omega) (show m < 2147483648 by omega)]
              omega
            rw [if_neg hso]; rfl
          · have hso : sSo F w i = true := by rw [sSo, hsv]; simp
            rw [if_pos hso]; rfl
      obtain ⟨M1, a1, a2⟩ := hso
      rw [a1]
      simp only [Option.bind_some]
      by_cases hs : sSo F w i = true
      · rw [if_pos hs, if_neg (by decide), z4, z3, if_pos x4, if_pos x3, y4, y3, if_pos ⟨hword, hs⟩]
        obtain ⟨M', b1, b2⟩ := line M1 a2
        rw [b1]
        simp only [Option.bind_some, les_eq, gre_eq]
        exact ⟨M', rfl, b2⟩
      · rw [if_neg hs, if_pos rfl, if_neg (fun h => hs h.2)]
        exact next M1 a2
    · rw [if_neg hword, if_neg (fun h => hword h.1)]
      exact next M (fun _ _ => rfl)
