-- ===== THE STATE: the row and the class's cells =====
def momIs (M : ZI) (a : Nat) (v : Nat → Int32) (n : Nat) : Prop := (M a 4 = v 1 ∧ M a 5 = v 0 ∧ M a 6 = v 2 ∧ M a 7 = v 3 ∧ M a 8 = v 6 ∧ M a 9 = v 4 ∧ M a 10 = v 5) ∧ ∀ p, p < n → M (a + 1) p = v (17 + p) ∧ M (a + 2) p = v (27 + p) ∧ M (a + 3) p = v (37 + p) ∧ M (a + 4) p = v (7 + p)
def momOk (v : Nat → Int32) (n Y : Nat) : Prop := (∃ k, k ≤ 24 ∧ v 1 = znn k) ∧ (∃ y, y ≤ Y ∧ v 0 = znn y ∧ ∀ p, p < n → ∃ h, h ≤ y ∧ v (27 + p) = znn h) ∧ (∃ b, b ≤ 150 ∧ v 5 = znn b) ∧ (∃ d, d < 4096 ∧ v 6 = znn d) ∧ ∀ p, p < n → (∃ a, a ≤ 99 ∧ v (17 + p) = znn a) ∧ ∃ s, s < 1024 ∧ v (7 + p) = znn s ∧ s.testBit p = false
def pplIs (M : ZI) (t : Nat) (w : Nat → Int32) (n : Nat) : Prop := (M t 11 = w 48 ∧ M t 12 = w 49 ∧ M t 13 = w 50 ∧ M t 14 = w 56 ∧ M t 15 = w 57) ∧ ∀ p, p < n → M (t + 36) p = w (60 + p) ∧ M (t + 37) p = w (70 + p) ∧ M (t + 38) p = w (80 + p)
def voiceN (w : Nat → Int32) : Nat → Nat
  | 0 => 0
  | p + 1 => voiceN w p + (if w (80 + p) = -1 then 0 else 1)
def pplOk (w : Nat → Int32) (n : Nat) : Prop := n ≤ 10 ∧ w 48 = znn n ∧ (∃ r, r ≤ 24 ∧ w 49 = znn r) ∧ (∃ l, 1 ≤ l ∧ l ≤ 24 ∧ w 50 = znn l) ∧ (∃ d, d ≤ 200 ∧ w 56 = znn d) ∧ (∃ d, d ≤ 200 ∧ w 57 = znn d) ∧ w 51 = znn (voiceN w n) ∧ ∀ p, p < n → (∃ k, k ≤ 24 ∧ w (60 + p) = znn k) ∧ (∃ k, k ≤ 999 ∧ w (70 + p) = znn k) ∧ (w (80 + p) = -1 ∨ ∃ q, q < n ∧ w (80 + p) = znn q)
def wrkIs (M : ZI) (t : Nat) (w : Nat → Int32) (k : Nat) : Prop := M t 6 = w 52 ∧ ∀ i, i < k → M (t + 1) i = w (90 + 6 * i) ∧ M (t + 2) i = w (91 + 6 * i) ∧ M (t + 3) i = w (92 + 6 * i) ∧ M (t + 4) i = w (93 + 6 * i) ∧ M (t + 5) i = w (94 + 6 * i) ∧ M (t + 6) i = w (95 + 6 * i)
def wrkOk (w : Nat → Int32) (n k : Nat) : Prop := k ≤ 12 ∧ w 52 = znn k ∧ ∀ i, i < k → (∃ o, o < n ∧ w (90 + 6 * i) = znn o) ∧ (∃ h, 1 ≤ h ∧ h ≤ 24 ∧ w (91 + 6 * i) = znn h) ∧ (∃ h, h ≤ 99 ∧ w (92 + 6 * i) = znn h) ∧ (∃ h, h ≤ 9 ∧ w (93 + 6 * i) = znn h) ∧ (∃ h, h ≤ 9 ∧ w (94 + 6 * i) = znn h) ∧ (w (95 + 6 * i) = -1 ∨ ∃ j, j < i ∧ w (95 + 6 * i) = znn j ∧ w (90 + 6 * j) = w (90 + 6 * i))
def bidIs (M : ZI) (t : Nat) (w : Nat → Int32) (b : Nat) : Prop := M t 2 = w 55 ∧ ∀ i, i < b → M (t + 1) i = w (562 + 2 * i) ∧ M (t + 2) i = w (563 + 2 * i)
def bookIs (M : ZI) (t : Nat) (w : Nat → Int32) : Prop := ∀ i, i < 150 → M (t + 1) i = w (578 + 4 * i) ∧ M (t + 2) i = w (579 + 4 * i) ∧ M (t + 3) i = w (580 + 4 * i) ∧ M (t + 4) i = w (581 + 4 * i)
/-- all of the row that no YEAR changes, THE BOOK aside; t is the place of the class's realm -/
def fixIs (M : ZI) (t : Nat) (w : Nat → Int32) (n k c b : Nat) : Prop := pplIs M t w n ∧ lawIs M (t + 11) w c ∧ wrkIs M (t + 20) w k ∧ ruleIs M (t + 28) w ∧ bidIs M (t + 33) w b
def fixOk (w : Nat → Int32) (n k c b : Nat) : Prop := pplOk w n ∧ lawOk w c ∧ wrkOk w n k ∧ ruleOk w ∧ b ≤ 8 ∧ w 55 = znn b
/-- as much as asking THE LAW and THE COUNCIL needs -/
def askOk (w : Nat → Int32) (n c : Nat) : Prop := n ≤ 10 ∧ w 48 = znn n ∧ lawOk w c ∧ ruleOk w
theorem ask_of {w : Nat → Int32} {n k c b : Nat} (h : fixOk w n k c b) : askOk w n c := ⟨h.1.1, h.1.2.1, h.2.1, h.2.2.2.1⟩
-- ===== what a PERSON is told by THE LAW =====
def sAsk (w : Nat → Int32) (W' : Int32) (p u : Nat) : Int32 := sSays w W' p (znn u) (if W' = 20 then 1 else if W' = 21 then znn u / 8 else 100) (if W' = 22 then 1000 else 24)
theorem zn_div8 {u : Nat} (h : u ≤ 24) : znn u / 8 = znn (u / 8) := by
  have : ∀ u : Fin 25, znn u.val / 8 = znn (u.val / 8) := by decide +kernel
  exact this ⟨u, by omega⟩
theorem held_range (m : Nat) (hm : m < 1000000) (x : Int32) : ∃ k, k ≤ m ∧ zmax 0 (zmin (znn m) x) = znn k := by
  unfold zmin zmax
  by_cases h1 : x < znn m
  · rw [if_pos h1]
    by_cases h2 : 0 < x
    · rw [if_pos h2]
      have h3 : ¬ x < 0 := by grind
      have h4 : zi x < 2147483648 := Int32.toNatClampNeg_lt x
      rw [← zi_zn h3, zn_lt h4 (by omega)] at h1
      exact ⟨zi x, by omega, (zi_zn h3).symm⟩
    · rw [if_neg h2]; exact ⟨0, by omega, rfl⟩
  · rw [if_neg h1]
    split
    · exact ⟨m, Nat.le_refl _, rfl⟩
    · exact ⟨0, by omega, rfl⟩
theorem sAsk_range {w : Nat → Int32} {W' : Int32} {p u : Nat} (hu : u ≤ 24) (hW : W' = 20 ∨ W' = 21) : ∃ k, k ≤ 24 ∧ sAsk w W' p u = znn k := by
  unfold sAsk sSays
  have h22 : W' ≠ 22 := by rcases hW with rfl | rfl <;> decide
  rw [if_neg h22]
  split
  · exact held_range 24 (by decide) _
  · rcases hW with rfl | rfl
    · exact ⟨1, by decide, rfl⟩
    · rw [if_neg (by decide), if_pos rfl, zn_div8 hu]
      exact ⟨u / 8, by omega, rfl⟩
theorem held_def (x : Int32) (W' : Int32) (u : Nat) (hu : u ≤ 24) (hW : W' = 20 ∨ W' = 21 ∨ W' = 22) (hx : x = if W' = 20 then 1 else if W' = 21 then znn u / 8 else 100) : zmax 0 (zmin (if W' = 22 then 1000 else 24) x) = x := by
  subst hx
  rcases hW with rfl | rfl | rfl
  · rfl
  · rw [if_neg (by decide), if_neg (by decide), if_pos rfl]
    have : ∀ u : Fin 25, zmax 0 (zmin 24 (znn u.val / 8)) = znn u.val / 8 := by decide +kernel
    exact this ⟨u, by omega⟩
  · rw [if_pos rfl, if_neg (by decide), if_neg (by decide)]
    decide
def factsAt (M : ZI) (o s : Nat) (F : Nat → Int32) : ZI := zs (zs (zs (zs (zs (zs (zs (zs (zs M o s (F 0)) o (s + 1) (F 1)) o (s + 2) (F 2)) o (s + 3) (F 3)) o (s + 4) (F 4)) o (s + 5) (F 5)) o (s + 6) (F 6)) o (s + 7) (F 7)) o (s + 8) (F 8)
theorem factsAt_ne {M : ZI} {o s o' : Nat} {F : Nat → Int32} (h : o' ≠ o) : factsAt M o s F o' = M o' := by
  simp only [factsAt, zs_ap, if_neg h]
theorem factsAt_at {M : ZI} {o s j : Nat} {F : Nat → Int32} (h : j < 9) : factsAt M o s F o (s + j) = F j := by
  have hj : j = 0 ∨ j = 1 ∨ j = 2 ∨ j = 3 ∨ j = 4 ∨ j = 5 ∨ j = 6 ∨ j = 7 ∨ j = 8 := by omega
  rcases hj with rfl | rfl | rfl | rfl | rfl | rfl | rfl | rfl | rfl <;> simp [factsAt, zs_ap, upd_ap]
theorem asks_cls {M : ZI} {w : Nat → Int32} {a n k c b Y p u : Nat} {W W' : Int32} (ha : a = 2 ∨ a = 114) (hp : p < n) (hu : u ≤ 24) (hW : wordRel W W') (hf : fixIs M 1 w n k c b) (hok : fixOk w n k c b) (hm : momIs M a w n) (hmo : momOk w n Y) :
    ∃ M', f27_asks 1 a W (znn p) (znn u) M = some (sAsk w W' p u, M') ∧ ∀ o, o ≠ 16 → o ≠ 41 → M' o = M o := by
  obtain ⟨⟨-, hf1⟩, hlaw, -⟩ := hf
  obtain ⟨hpo, hlo, -⟩ := hok
  obtain ⟨hn10, -⟩ := hpo
  obtain ⟨⟨m1, m2, -⟩, hm2⟩ := hm
  obtain ⟨q1, q2, q3, q4⟩ := hm2 p hp
  obtain ⟨g1, -⟩ := hf1 p hp
  obtain ⟨-, -, -, -, hmo⟩ := hmo
  obtain ⟨-, s, hs, hs1, -⟩ := hmo p hp
  have hz : zin (znn p) 10 = true := (zn_zin (by omega)).mpr (by omega)
  have zz : zi (znn p) = p := zn_zi (by omega)
  have hb : f28_bitCount (M (a + 4) p) = some (znn (pop (zi (w (7 + p))))) := by
    rw [q4, hs1, zn_zi (by omega)]
    exact bitCount_zn hs
  obtain ⟨Mf, hMf, hMo, hMF⟩ : ∃ Mf : ZI, f27_asks 1 a W (znn p) (znn u) M = ((f29_tells 12 W 41 Mf).bind fun x => ((if W = 258 then some (1000 : Int32) else some 24) : Option Int32).bind fun v13 => (f35_held x.1 0 v13).bind fun v14 => some (v14, x.2)) ∧ (∀ o, o ≠ 41 → Mf o = M o) ∧ ∀ j, j < 9 → Mf 41 j = sF w p (znn u) j := by
    refine ⟨factsAt M 41 0 (sF w p (znn u)), ?_, fun o ho => factsAt_ne ho, fun j hj => by
      have := factsAt_at (M := M) (o := 41) (s := 0) (F := sF w p (znn u)) hj
      rwa [Nat.zero_add] at this⟩
    unfold f27_asks factsAt
    simp only [zlet]
    rw [if_pos hz, if_pos hz, if_pos hz, if_pos hz, if_pos hz, zz]
    rcases ha with rfl | rfl <;> simp only [Nat.reduceAdd] at q1 q2 q3 q4 g1 hb ⊢ <;> simp only [zs_ap, Nat.reduceAdd, Nat.reduceEqDiff, ↓reduceIte, q1, q2, q3, g1, m1, m2, hb] <;> rfl
  have hl := hlaw
  obtain ⟨hc, L, hL16, hL, -⟩ := id hlo
  have hlaw' : lawIs Mf 12 w c := by
    obtain ⟨l1, l2, l3, l4⟩ := hl
    simp only [lawIs, Nat.reduceAdd] at l1 l2 l3 l4 ⊢
    refine ⟨by rw [hMo 12 (by decide)]; exact l1, by rw [hMo 13 (by decide)]; exact l2, fun j hj => by rw [hMo 14 (by decide), hMo 15 (by decide)]; exact l3 j hj, fun j hj => by rw [hMo 17 (by decide), hMo 18 (by decide), hMo 19 (by decide), hMo 20 (by decide)]; exact l4 j hj⟩
  obtain ⟨M', a1, a2⟩ := tells_cls hlo hL hL16 hW L 0 Mf zfu (by omega) (by rw [zfu_eq]; omega) hlaw' hMF
  refine ⟨M', ?_, fun o h1 h2 => (a2 o h1).trans (hMo o h2)⟩
  rw [hMf, f29_tells, show (0 : Int32) = znn 0 from rfl, a1]
  simp only [Option.bind_some, f35_held]
  have hW' : W' = 20 ∨ W' = 21 ∨ W' = 22 := by rcases hW with ⟨-, h⟩ | ⟨-, h⟩ | ⟨-, h⟩ <;> simp [h]
  have hmost : ((if W = 258 then some (1000 : Int32) else some 24) : Option Int32) = some (if W' = 22 then 1000 else 24) := by
    rcases hW with ⟨rfl, rfl⟩ | ⟨rfl, rfl⟩ | ⟨rfl, rfl⟩ <;> rfl
  rw [hmost]
  simp only [Option.bind_some]
  congr 2
  unfold sAsk sSays
  rw [hL, zn_zi (by omega)]
  cases hfi : sFind (sF w p (znn u)) w W' L 0 with
  | some j => rfl
  | none =>
    simp only
    have hd : (if W = 256 then (1 : Int32) else if W = 257 then sF w p (znn u) 8 / 8 else 100) = (if W' = 20 then 1 else if W' = 21 then znn u / 8 else 100) := by
      rcases hW with ⟨rfl, rfl⟩ | ⟨rfl, rfl⟩ | ⟨rfl, rfl⟩ <;> rfl
    rw [hd]
    exact held_def _ W' u hu hW' rfl
theorem says_facts {M : ZI} {w : Nat → Int32} {p s : Nat} {W' dflt most u : Int32} (hw : M 149 = w) (hp : p < 10) (hs : s < 1024) (hs1 : w (7 + p) = znn s) : f208_says W' (znn p) u dflt most M = f208_l123 W' dflt most zfu 0 (factsAt M 160 1 (sF w p u)) := by
  have z1 : (17 : Int32) + znn p = znn (17 + p) := zn_add 17 p
  have z2 : (60 : Int32) + znn p = znn (60 + p) := zn_add 60 p
  have z3 : (27 : Int32) + znn p = znn (27 + p) := zn_add 27 p
  have z4 : (37 : Int32) + znn p = znn (37 + p) := zn_add 37 p
  have z5 : (7 : Int32) + znn p = znn (7 + p) := zn_add 7 p
  have y1 : zi (znn (17 + p)) = 17 + p := zn_zi (by omega)
  have y2 : zi (znn (60 + p)) = 60 + p := zn_zi (by omega)
  have y3 : zi (znn (27 + p)) = 27 + p := zn_zi (by omega)
  have y4 : zi (znn (37 + p)) = 37 + p := zn_zi (by omega)
  have y5 : zi (znn (7 + p)) = 7 + p := zn_zi (by omega)
  have x1 : zin (znn (17 + p)) 2064 = true := (zn_zin (by omega)).mpr (by omega)
  have x2 : zin (znn (60 + p)) 2064 = true := (zn_zin (by omega)).mpr (by omega)
  have x3 : zin (znn (27 + p)) 2064 = true := (zn_zin (by omega)).mpr (by omega)
  have x4 : zin (znn (37 + p)) 2064 = true := (zn_zin (by omega)).mpr (by omega)
  have x5 : zin (znn (7 + p)) 2064 = true := (zn_zin (by omega)).mpr (by omega)
  have hb : f209_count (w (7 + p)) = some (znn (pop (zi (w (7 + p))))) := by
    rw [hs1, zn_zi (by omega)]
    exact count_zn hs
  subst hw
  unfold f208_says
  simp only [zlet]
  rw [z1, z2, z3, z4, z5, if_pos x1, if_pos x2, if_pos x3, if_pos x4, if_pos x5, y1, y2, y3, y4, y5]
  show ((f209_count (M 149 (7 + p))).bind fun v8 => f208_l123 W' dflt most zfu 0 (zs (zs (zs (zs (zs (zs (zs (zs (zs M 160 1 (znn p)) 160 2 (M 149 (17 + p))) 160 3 (M 149 (60 + p))) 160 4 (M 149 (27 + p))) 160 5 (M 149 (37 + p))) 160 6 (M 149 1)) 160 7 (M 149 0)) 160 8 v8) 160 9 u)) = _
  rw [hb, Option.bind_some]
  rfl
theorem says_eq {M : ZI} {w : Nat → Int32} {n c Y p u : Nat} {W' dflt most : Int32} (hw : M 149 = w) (hp : p < n) (hok : askOk w n c) (hmo : momOk w n Y) :
    ∃ M', f208_says W' (znn p) (znn u) dflt most M = some (sSays w W' p (znn u) dflt most, M') ∧ ∀ o, o ≠ 159 → o ≠ 160 → M' o = M o := by
  obtain ⟨hn10, -, hlo, -⟩ := hok
  obtain ⟨-, -, -, -, hmo⟩ := hmo
  obtain ⟨-, s, hs, hs1, -⟩ := hmo p hp
  have hMf := says_facts (W' := W') (dflt := dflt) (most := most) (u := znn u) hw (show p < 10 by omega) hs hs1
  have hMo : ∀ o, o ≠ 160 → factsAt M 160 1 (sF w p (znn u)) o = M o := fun o ho => factsAt_ne ho
  have hMF : ∀ j, j < 9 → factsAt M 160 1 (sF w p (znn u)) 160 (j + 1) = sF w p (znn u) j := fun j hj => by
    have := factsAt_at (M := M) (o := 160) (s := 1) (F := sF w p (znn u)) hj
    rwa [Nat.add_comm] at this
  generalize factsAt M 160 1 (sF w p (znn u)) = Mf at *
  obtain ⟨hc, L, hL16, hL, -⟩ := id hlo
  obtain ⟨M', a1, a2⟩ := says_ref (W' := W') (dflt := dflt) (most := most) hlo hL hL16 L 0 Mf zfu (by omega) (by rw [zfu_eq]; omega) ((hMo 149 (by decide)).trans hw) hMF
  refine ⟨M', ?_, fun o h1 h2 => (a2 o h1).trans (hMo o h2)⟩
  rw [hMf]
  refine a1.trans ?_
  rw [sSays, hL, zn_zi (by omega)]
theorem weight_ref {M : ZI} {w : Nat → Int32} {n c Y p : Nat} (hw : M 149 = w) (hp : p < n) (hok : askOk w n c) (hmo : momOk w n Y) :
    ∃ M', f207_weightOf (znn p) M = some (sAsk w 20 p 0, M') ∧ ∀ o, o ≠ 159 → o ≠ 160 → M' o = M o := by
  obtain ⟨M', a1, a2⟩ := says_eq (W' := 20) (dflt := 1) (most := 24) (u := 0) hw hp hok hmo
  refine ⟨M', ?_, a2⟩
  unfold f207_weightOf
  rw [show (0 : Int32) = znn 0 from rfl, a1]
  rfl
theorem wear_ref {M : ZI} {w : Nat → Int32} {n k c b Y p u : Nat} (hw : M 149 = w) (hp : p < n) (hok : fixOk w n k c b) (hmo : momOk w n Y) :
    ∃ M', f225_wearOf (znn p) (znn u) M = some (sAsk w 21 p u, M') ∧ ∀ o, o ≠ 159 → o ≠ 160 → M' o = M o := by
  obtain ⟨M', a1, a2⟩ := says_eq (W' := 21) (dflt := znn u / 8) (most := 24) (u := u) hw hp (ask_of hok) hmo
  refine ⟨M', ?_, a2⟩
  unfold f225_wearOf
  rw [a1]
  rfl
theorem notice_ref {M : ZI} {w : Nat → Int32} {n k c b Y p u : Nat} (hw : M 149 = w) (hp : p < n) (hok : fixOk w n k c b) (hmo : momOk w n Y) :
    ∃ M', f226_noticeOf (znn p) (znn u) M = some (sAsk w 22 p u, M') ∧ ∀ o, o ≠ 159 → o ≠ 160 → M' o = M o := by
  obtain ⟨M', a1, a2⟩ := says_eq (W' := 22) (dflt := 100) (most := 1000) (u := u) hw hp (ask_of hok) hmo
  refine ⟨M', ?_, a2⟩
  unfold f226_noticeOf
  rw [a1]
  rfl
theorem momIs_of {M M' : ZI} {a n : Nat} {v : Nat → Int32} (h : momIs M a v n) (g : ∀ o, a ≤ o → o ≤ a + 4 → M' o = M o) : momIs M' a v n := by
  unfold momIs at h ⊢
  rw [g a (by omega) (by omega), g (a + 1) (by omega) (by omega), g (a + 2) (by omega) (by omega), g (a + 3) (by omega) (by omega), g (a + 4) (by omega) (by omega)]
  exact h
theorem fixIs_of {M M' : ZI} {t n k c b : Nat} {w : Nat → Int32} (h : fixIs M t w n k c b) (g : ∀ o, t ≤ o ∧ (o = t ∨ o = t + 11 ∨ o = t + 12 ∨ o = t + 13 ∨ o = t + 14 ∨ o = t + 16 ∨ o = t + 17 ∨ o = t + 18 ∨ o = t + 19 ∨ (t + 20 ≤ o ∧ o ≤ t + 26) ∨ (t + 28 ≤ o ∧ o ≤ t + 31) ∨ (t + 33 ≤ o ∧ o ≤ t + 38)) → M' o = M o) : fixIs M' t w n k c b := by
  unfold fixIs pplIs lawIs wrkIs ruleIs bidIs at h ⊢
  rw [g t (by omega), g (t + 36) (by omega), g (t + 37) (by omega), g (t + 38) (by omega), g (t + 11) (by omega), g (t + 11 + 1) (by omega), g (t + 11 + 2) (by omega), g (t + 11 + 3) (by omega), g (t + 11 + 5) (by omega), g (t + 11 + 6) (by omega), g (t + 11 + 7) (by omega), g (t + 11 + 8) (by omega), g (t + 20) (by omega), g (t + 20 + 1) (by omega), g (t + 20 + 2) (by omega), g (t + 20 + 3) (by omega), g (t + 20 + 4) (by omega), g (t + 20 + 5) (by omega), g (t + 20 + 6) (by omega), g (t + 28) (by omega), g (t + 28 + 1) (by omega), g (t + 28 + 2) (by omega), g (t + 28 + 3) (by omega), g (t + 33) (by omega), g (t + 33 + 1) (by omega), g (t + 33 + 2) (by omega)]
  exact h
