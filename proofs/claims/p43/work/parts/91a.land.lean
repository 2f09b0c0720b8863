-- ===== A LAND in the heap, and what it is of =====
theorem gob_of {L : ZY} {t c n : Nat} (h : L[t]? = some (c + 3, n)) (ht : t < 1000000) : gob L t c = true := by
  simp [gob, h, ht]
theorem gak_of {L : ZY} {t kd n : Nat} (h : L[t]? = some (kd, n)) (ht : t < 1000000) : gak L t kd = true := by
  simp [gak, h, ht]
theorem gek_of {L : ZY} {t kd n : Nat} (h : L[t]? = some (kd, n)) : gek L t kd = true := by
  simp [gek, h]
theorem gln_of {L : ZY} {t kd n : Nat} (h : L[t]? = some (kd, n)) : gln L t = n := by
  simp [gln, List.getD_eq_getElem?_getD, h]
theorem gar_of {L : ZY} {t kd n i : Nat} (h : L[t]? = some (kd, n)) (ht : t < 1000000) (hi : i < n) (hn : n < 2147483648) : gar L t kd (znn i) = true := by
  simp [gar, h, ht]
  exact (zn_zin (by omega)).mpr hi
theorem lay_lt {L : ZY} {t : Nat} {q : Nat × Nat} (h : L[t]? = some q) (hL : L.length ≤ 900000) : t < 1000000 := by
  have := (List.getElem?_eq_some_iff.mp h).1
  omega
/-- what the law with drawn numbers says, whatever the principality's state -/
def lawBody (w : Nat → Int32) (d : Nat → Int32) : Prop := ∀ p u, p < 10 → u ≤ 24 →
  sAsk w 20 p 0 = (if d 0 < w (17 + p) then (if d 1 < w (27 + p) then zmax 0 (zmin 24 (w (37 + p) - w (27 + p) * d 3)) else if 9 < w 1 then zmax 0 (zmin 24 (w (37 + p) - w (27 + p) * d 3)) else zmax 0 (zmin 24 (w (60 + p) / 4 + d 2))) else zmax 0 (zmin 24 (w (37 + p) - w (27 + p) * d 3))) ∧
  sAsk w 21 p u = (if d 4 < znn u then zmax 0 (zmin 24 (znn u / 3 + znn (pop (zi (w (7 + p)))))) else if w (60 + p) < 3 then zmax 0 (zmin 24 (znn u / 3 + znn (pop (zi (w (7 + p)))))) else zmax 0 (zmin 24 (d 5))) ∧
  sAsk w 22 p u = zmax 0 (zmin 1000 (znn u * d 6 + zrem (w 0) 3 * 50))
def lawTells (w : Nat → Int32) (d : Nat → Int32) : Prop := ∀ v : Nat → Int32, (∀ x, 1178 ≤ x → v x = w x) → v 58 = w 58 → (∃ y, y ≤ 999 ∧ v 0 = znn y) → lawBody v d
def lndO (R : ZF) (L : ZY) (t : Nat) : Prop := L[t]? = some (13, 15) ∧ L[t + 1]? = some (51, 10) ∧ L[t + 3]? = some (51, 150) ∧ R t 10 = some (t + 1) ∧ R t 12 = some (t + 3) ∧ 148 ≤ t
def lndF (M : ZI) (t : Nat) (w : Nat → Int32) : Prop := M t 0 = w 4 ∧ M t 1 = w 0 ∧ M t 2 = w 1 ∧ M t 3 = w 49 ∧ M t 4 = w 50 ∧ M t 5 = w 2 ∧ M t 6 = w 3 ∧ M t 7 = w 48 ∧ M t 8 = w 5 ∧ M t 9 = w 6
def lndQ (M : ZI) (q : Nat) (w : Nat → Int32) (p : Nat) : Prop := M q 0 = w (17 + p) ∧ M q 1 = w (60 + p) ∧ M q 2 = w (70 + p) ∧ M q 3 = w (27 + p) ∧ M q 4 = w (37 + p) ∧ M q 5 = w (80 + p) ∧ M q 6 = w (7 + p)
def lndP (M : ZI) (R : ZF) (L : ZY) (t b : Nat) (w : Nat → Int32) (n : Nat) : Prop := 148 ≤ b ∧ ∀ p, p < n → R (t + 1) p = some (b + p) ∧ L[b + p]? = some (0, 7) ∧ lndQ M (b + p) w p
def lndW (M : ZI) (R : ZF) (L : ZY) (t : Nat) (w : Nat → Int32) (k : Nat) : Prop := ∃ (a : Nat) (q : Nat → Nat), 148 ≤ a ∧ R t 11 = some a ∧ L[a]? = some (51, k) ∧ ∀ i, i < k → 148 ≤ q i ∧ R a i = some (q i) ∧ L[q i]? = some (0, 6) ∧ ∀ f, f < 6 → M (q i) f = w (90 + 6 * i + f)
def lndB (M : ZI) (R : ZF) (L : ZY) (t : Nat) (w : Nat → Int32) : Prop := ∀ i, i < zi (w 5) → ∃ r, 148 ≤ r ∧ R (t + 3) i = some r ∧ L[r]? = some (0, 4) ∧ ∀ f, f < 4 → M r f = w (578 + 4 * i + f)
def lndC (M : ZI) (R : ZF) (L : ZY) (t : Nat) (w : Nat → Int32) : Prop := match R t 13 with
  | none => ∀ S, S < 1024 → sSat w S = 1
  | some r => gob L r 13 = true ∧ 148 ≤ r ∧ ∀ S, S < 1024 → g106_does zgr r (znn S) M R L = some (sSat w S)
def lndL (M : ZI) (R : ZF) (L : ZY) (t b n : Nat) (w : Nat → Int32) : Prop := match R t 14 with
  | none => w 58 = 0
  | some d => L[d]? = some (0, 7) ∧ 148 ≤ d ∧ (d < b ∨ b + n ≤ d) ∧ lawTells w (M d)
def landIs (M : ZI) (R : ZF) (L : ZY) (t b : Nat) (w : Nat → Int32) (n k : Nat) : Prop :=
  lndO R L t ∧ lndF M t w ∧ lndP M R L t b w n ∧ lndW M R L t w k ∧ lndB M R L t w ∧ lndC M R L t w ∧ lndL M R L t b n w
theorem zi_l0 : zi (0 : Int32) = 0 := rfl
theorem zi_l1 : zi (1 : Int32) = 1 := rfl
theorem zi_l2 : zi (2 : Int32) = 2 := rfl
theorem zi_l3 : zi (3 : Int32) = 3 := rfl
theorem zi_l4 : zi (4 : Int32) = 4 := rfl
theorem zi_l5 : zi (5 : Int32) = 5 := rfl
theorem zi_l6 : zi (6 : Int32) = 6 := rfl
theorem gar7 {L : ZY} {q j : Nat} (h : L[q]? = some (0, 7)) (hL : L.length ≤ 900000) (hj : j < 7) : gar L q 0 (znn j) = true := gar_of h (lay_lt h hL) hj (by decide)
theorem gar6 {L : ZY} {q j : Nat} (h : L[q]? = some (0, 6)) (hL : L.length ≤ 900000) (hj : j < 6) : gar L q 0 (znn j) = true := gar_of h (lay_lt h hL) hj (by decide)
theorem gar10 {L : ZY} {q j : Nat} (h : L[q]? = some (51, 10)) (hL : L.length ≤ 900000) (hj : j < 10) : gar L q 51 (znn j) = true := gar_of h (lay_lt h hL) hj (by decide)
theorem sAsk_nolaw {w : Nat → Int32} (h : w 58 = 0) (W' : Int32) (p u : Nat) : sAsk w W' p u = (if W' = 20 then 1 else if W' = 21 then znn u / 8 else 100) := by
  unfold sAsk sSays
  rw [h]
  rfl
theorem land_weight {M : ZI} {R : ZF} {L : ZY} {t b n k p Y : Nat} {w : Nat → Int32} (h : landIs M R L t b w n k) (hL : L.length ≤ 900000) (hn : n ≤ 10) (hp : p < n) (hy : Y ≤ 999) (hmo : momOk w n Y) : g102_weight t (znn p) M R L = some (sAsk w 20 p 0) := by
  obtain ⟨⟨o1, o2, o3, o4, o5, o6⟩, ⟨f0, f1, f2, f3, f4, f5, f6, f7, f8, f9⟩, ⟨hb, hP⟩, -, -, -, hl⟩ := h
  obtain ⟨p1, p2, q0, q1, q2, q3, q4, q5, q6⟩ := hP p hp
  unfold g102_weight
  rw [if_pos (gob_of o1 (lay_lt o1 hL)), o4]
  simp only [Option.bind_some]
  rw [if_pos (gar10 o2 hL (by omega)), zn_zi (by omega), p1]
  simp only [Option.bind_some]
  unfold lndL at hl
  cases hd : R t 14 with
  | none =>
    rw [hd] at hl
    simp only [zopt]
    rw [sAsk_nolaw hl]
    rfl
  | some d =>
    rw [hd] at hl
    obtain ⟨l1, l2, l3, l4⟩ := hl
    have hB := ((l4 w (fun _ _ => rfl) rfl (by obtain ⟨y, h1, h2, -⟩ := hmo.2.1; exact ⟨y, by omega, h2⟩)) p 0 (by omega) (by decide)).1
    simp only [zopt]
    have g0 : gar L (b + p) 0 0 = true := gar7 p2 hL (j := 0) (by decide)
    have g1 : gar L (b + p) 0 1 = true := gar7 p2 hL (j := 1) (by decide)
    have g3 : gar L (b + p) 0 3 = true := gar7 p2 hL (j := 3) (by decide)
    have g4 : gar L (b + p) 0 4 = true := gar7 p2 hL (j := 4) (by decide)
    have d0 : gar L d 0 0 = true := gar7 l1 hL (j := 0) (by decide)
    have d1 : gar L d 0 1 = true := gar7 l1 hL (j := 1) (by decide)
    have d2 : gar L d 0 2 = true := gar7 l1 hL (j := 2) (by decide)
    have d3 : gar L d 0 3 = true := gar7 l1 hL (j := 3) (by decide)
    simp only [zlet, g0, g1, g3, g4, d0, d1, d2, d3, if_true, zi_l0, zi_l1, zi_l2, zi_l3, zi_l4, q0, q1, q2, q3, q4, f2, g103_held, Option.bind_some]
    rw [hB]
    repeat' split
    all_goals rfl
theorem bitCount_w {x : Int32} {d : Nat} (hd : d < 1024) (h : x = znn d) : f28_bitCount x = some (znn (pop (zi x))) := by
  rw [h, bitCount_zn hd, zn_zi (by omega)]
theorem land_wear {M : ZI} {R : ZF} {L : ZY} {t b n k p u Y : Nat} {w : Nat → Int32} (h : landIs M R L t b w n k) (hL : L.length ≤ 900000) (hn : n ≤ 10) (hp : p < n) (hu : u ≤ 24) (hy : Y ≤ 999) (hmo : momOk w n Y) (ht : ∃ d, d < 1024 ∧ w (7 + p) = znn d) (hg : zgood R L = true) : g110_wear t (znn p) (znn u) M R L = some (sAsk w 21 p u) := by
  obtain ⟨⟨o1, o2, o3, o4, o5, o6⟩, ⟨f0, f1, f2, f3, f4, f5, f6, f7, f8, f9⟩, ⟨hb, hP⟩, -, -, -, hl⟩ := h
  obtain ⟨p1, p2, q0, q1, q2, q3, q4, q5, q6⟩ := hP p hp
  unfold g110_wear
  rw [if_pos (gob_of o1 (lay_lt o1 hL))]
  unfold lndL at hl
  cases hd : R t 14 with
  | none =>
    rw [hd] at hl
    simp only [zopt]
    rw [sAsk_nolaw hl]
    rfl
  | some d =>
    rw [hd] at hl
    obtain ⟨l1, l2, l3, l4⟩ := hl
    have hB := ((l4 w (fun _ _ => rfl) rfl (by obtain ⟨y, h1, h2, -⟩ := hmo.2.1; exact ⟨y, by omega, h2⟩)) p u (by omega) hu).2.1
    obtain ⟨dd, hdd, hdt⟩ := ht
    have g1 : gar L (b + p) 0 1 = true := gar7 p2 hL (j := 1) (by decide)
    have g6 : gar L (b + p) 0 6 = true := gar7 p2 hL (j := 6) (by decide)
    have d4 : gar L d 0 4 = true := gar7 l1 hL (j := 4) (by decide)
    have d5 : gar L d 0 5 = true := gar7 l1 hL (j := 5) (by decide)
    have gp : gar L (t + 1) 51 (znn p) = true := gar10 o2 hL (by omega)
    have zp : zi (znn p) = p := zn_zi (by omega)
    simp only [zopt, zlet, d4, d5, g1, g6, gp, zp, hg, o4, p1, if_true, Option.bind_some, zi_l1, zi_l5, zi_l6, zi_l4, q1, q6]
    rw [bitCount_w hdd hdt]
    simp only [g103_held, Option.bind_some]
    rw [hB]
    repeat' split
    all_goals rfl
theorem land_notice {M : ZI} {R : ZF} {L : ZY} {t b n k p u Y : Nat} {w : Nat → Int32} (h : landIs M R L t b w n k) (hL : L.length ≤ 900000) (hn : n ≤ 10) (hp : p < n) (hu : u ≤ 24) (hy : Y ≤ 999) (hmo : momOk w n Y) : g111_notice t (znn p) (znn u) M R L = some (sAsk w 22 p u) := by
  obtain ⟨⟨o1, o2, o3, o4, o5, o6⟩, ⟨f0, f1, f2, f3, f4, f5, f6, f7, f8, f9⟩, -, -, -, -, hl⟩ := h
  unfold g111_notice
  rw [if_pos (gob_of o1 (lay_lt o1 hL))]
  unfold lndL at hl
  cases hd : R t 14 with
  | none =>
    rw [hd] at hl
    simp only [zopt]
    rw [sAsk_nolaw hl]
    rfl
  | some d =>
    rw [hd] at hl
    obtain ⟨l1, l2, l3, l4⟩ := hl
    have hB := ((l4 w (fun _ _ => rfl) rfl (by obtain ⟨y, h1, h2, -⟩ := hmo.2.1; exact ⟨y, by omega, h2⟩)) p u (by omega) hu).2.2
    simp only [zopt, Option.bind_some]
    rw [if_pos (show gar L d 0 6 = true from gar7 l1 hL (by decide))]
    simp only [g103_held, Option.bind_some, zi_l6, f1]
    rw [hB]
theorem land_does {M : ZI} {R : ZF} {L : ZY} {t b n k S : Nat} {w : Nat → Int32} (h : landIs M R L t b w n k) (hL : L.length ≤ 900000) (hS : S < 1024) (hr : ruleOk w) : g105_does t (znn S) M R L = some (sSat w S) := by
  obtain ⟨⟨o1, o2, o3, o4, o5, o6⟩, -, -, -, -, hc, -⟩ := h
  unfold g105_does
  rw [if_pos (gob_of o1 (lay_lt o1 hL))]
  unfold lndC at hc
  cases hd : R t 13 with
  | none =>
    rw [hd] at hc
    simp only [zopt]
    rw [hc S hS]
  | some r =>
    rw [hd] at hc
    simp only [zopt, Option.bind_some]
    rw [if_pos hc.1, hc.2.2 S hS]
    simp only [Option.bind_some]
    rcases sSat_01 hr hS with h | h
    · rw [h]; rfl
    · rw [h]; rfl
theorem land_voices {M : ZI} {R : ZF} {L : ZY} {t b n k p : Nat} {w : Nat → Int32} (h : landIs M R L t b w n k) (hL : L.length ≤ 900000) (hn : n ≤ 10) (h48 : w 48 = znn n) : g104_voices t (znn p) M R L = some (znn (sNam (fun v => w (80 + v)) p n)) := by
  obtain ⟨⟨o1, o2, o3, o4, o5, o6⟩, ⟨f0, f1, f2, f3, f4, f5, f6, f7, f8, f9⟩, ⟨hb, hP⟩, -, -, -, -⟩ := h
  obtain ⟨r, h1, h2⟩ := zloop (fun f (a : Int32) c => g104_l4 t (znn p) M R L f a c) n (fun i a => a = znn (sNam (fun v => w (80 + v)) p i))
    (fun r : Int32 => r = znn (sNam (fun v => w (80 + v)) p n)) (fun f i a hi ha => by
      subst ha
      left
      obtain ⟨p1, p2, q0, q1, q2, q3, q4, q5, q6⟩ := hP i hi
      refine ⟨_, rfl, ?_⟩
      simp only [g104_l4]
      rw [if_pos (gob_of o1 (lay_lt o1 hL)), f7, h48, if_pos ((zn_lt (by omega) (by omega)).mpr hi), o4]
      simp only [Option.bind_some]
      rw [if_pos (gar10 o2 hL (by omega)), zn_zi (by omega), p1]
      simp only [Option.bind_some]
      rw [if_pos (show gar L (b + i) 0 5 = true from gar7 p2 hL (by decide))]
      simp only [zi_l5, q5, zlet, sNam]
      by_cases hv : w (80 + i) = znn p
      · rw [if_pos hv, if_pos hv, show (1 : Int32) = znn 1 from rfl, zn_shl (by omega), zn_or, zn_add]
      · rw [if_neg hv, if_neg hv, zadd1]) (fun f a ha => by
      refine ⟨a, ha, ?_⟩
      simp only [g104_l4]
      rw [if_pos (gob_of o1 (lay_lt o1 hL)), f7, h48, if_neg (by rw [zn_lt (by omega) (by omega)]; omega)]) zfu 0 0 (by omega) (by rw [zfu_eq]; omega) rfl
  have h1 : g104_l4 t (znn p) M R L zfu 0 0 = some r := h1
  rw [g104_voices, h1, h2]
  rfl
theorem land_sum {M : ZI} {R : ZF} {L : ZY} {t b n k p Y : Nat} {w : Nat → Int32} (h : landIs M R L t b w n k) (hL : L.length ≤ 900000) (hn : n ≤ 10) (h48 : w 48 = znn n) (hy : Y ≤ 999) (hmo : momOk w n Y) : g101_sum t (znn p) M R L = some (znn (sSum w (fun v => w (80 + v)) p n)) := by
  obtain ⟨r, h1, h2⟩ := zloop (fun f (a : Int32) c => g101_l4 t (znn p) M R L f a c) n (fun i a => a = znn (sSum w (fun v => w (80 + v)) p i))
    (fun r : Int32 => r = znn (sSum w (fun v => w (80 + v)) p n)) (fun f i a hi ha => by
      subst ha
      left
      have hw := land_weight h hL hn hi hy hmo
      obtain ⟨⟨o1, o2, o3, o4, o5, o6⟩, ⟨f0, f1, f2, f3, f4, f5, f6, f7, f8, f9⟩, ⟨hb, hP⟩, -, -, -, -⟩ := id h
      obtain ⟨p1, p2, q0, q1, q2, q3, q4, q5, q6⟩ := hP i hi
      refine ⟨_, rfl, ?_⟩
      simp only [g101_l4]
      rw [if_pos (gob_of o1 (lay_lt o1 hL)), f7, h48, if_pos ((zn_lt (by omega) (by omega)).mpr hi), o4]
      simp only [Option.bind_some]
      rw [if_pos (gar10 o2 hL (by omega)), zn_zi (by omega), p1]
      simp only [Option.bind_some]
      rw [if_pos (show gar L (b + i) 0 5 = true from gar7 p2 hL (by decide)), hw]
      simp only [zi_l5, q5, zlet, sSum, Option.bind_some]
      by_cases hv : w (80 + i) = znn p
      · obtain ⟨q, hq, e1, e2⟩ := ask20 w i
        rw [if_pos hv, if_pos hv, e1, zn_add, zn_zi (by omega), zadd1]
      · rw [if_neg hv, if_neg hv, Nat.add_zero, zadd1]) (fun f a ha => by
      obtain ⟨⟨o1, o2, o3, o4, o5, o6⟩, ⟨f0, f1, f2, f3, f4, f5, f6, f7, f8, f9⟩, -, -, -, -, -⟩ := id h
      refine ⟨a, ha, ?_⟩
      simp only [g101_l4]
      rw [if_pos (gob_of o1 (lay_lt o1 hL)), f7, h48, if_neg (by rw [zn_lt (by omega) (by omega)]; omega)]) zfu 0 0 (by omega) (by rw [zfu_eq]; omega) rfl
  have h1 : g101_l4 t (znn p) M R L zfu 0 0 = some r := h1
  rw [g101_sum, h1, h2]
  rfl
