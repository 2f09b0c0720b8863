-- ===== what the law asks of the class, and what the reference says to it =====
theorem landIs_cls {M M' : ZI} {R : ZF} {L : ZY} {t b n k : Nat} {w : Nat → Int32} (h : landIs M R L t b w n k) (hM : ∀ o, 148 ≤ o → M' o = M o) (hz : zgood R L = true) : landIs M' R L t b w n k := by
  obtain ⟨⟨o1, o2, o3, o4, o5, o6⟩, ⟨f0, f1, f2, f3, f4, f5, f6, f7, f8, f9⟩, ⟨hb, hP⟩, ⟨a, q, a1, a2, a3, a4⟩, hB, hC, hL⟩ := id h
  refine ⟨⟨o1, o2, o3, o4, o5, o6⟩, ?_, ⟨hb, fun p hp => ?_⟩, ⟨a, q, a1, a2, a3, fun i hi => ?_⟩, fun i hi => ?_, ?_, ?_⟩
  · unfold lndF
    rw [hM t o6]
    exact ⟨f0, f1, f2, f3, f4, f5, f6, f7, f8, f9⟩
  · obtain ⟨p1, p2, p3⟩ := hP p hp
    refine ⟨p1, p2, ?_⟩
    unfold lndQ
    rw [hM (b + p) (by omega)]
    exact p3
  · obtain ⟨g1, g2, g3, g4⟩ := a4 i hi
    exact ⟨g1, g2, g3, fun f hf => by rw [hM _ g1]; exact g4 f hf⟩
  · obtain ⟨r, r1, r2, r3, r4⟩ := hB i hi
    exact ⟨r, r1, r2, r3, fun f hf => by rw [hM _ r1]; exact r4 f hf⟩
  · unfold lndC at hC ⊢
    cases hd : R t 13 with
    | none => rw [hd] at hC; exact hC
    | some r =>
      rw [hd] at hC
      refine ⟨hC.1, hC.2.1, fun S hS => rule_fr ⟨[], by simp⟩ (fun c nn hc => ⟨hM c ?_, rfl⟩) (fun h => h) _ _ _ _ (hC.2.2 S hS)⟩
      apply Classical.byContradiction
      intro hlt
      have h1 : zHc[c]? = some (16, nn) := by
        simp only [zgood, Bool.and_eq_true, decide_eq_true_eq] at hz
        rw [← hz.1, List.getElem?_take_of_lt (by omega)]
        exact hc
      have h2 : ∀ q ∈ zHc, q.1 ≠ 16 := by decide +kernel
      exact h2 _ (List.mem_of_getElem? h1) rfl
  · unfold lndL at hL ⊢
    cases hd : R t 14 with
    | none => rw [hd] at hL; exact hL
    | some d =>
      rw [hd] at hL
      obtain ⟨l1, l2, l3, l4⟩ := hL
      exact ⟨l1, l2, l3, by rw [hM d l2]; exact l4⟩
/-- a loop with what follows it: F f i a, from i by steps of s up to N -/
theorem kloop {α β : Type} (F : Nat → Int32 → α → β) (N s : Nat) (hs : 0 < s) (P : α → Prop) (Q : β → Prop) (h1 : ∀ f i a, i < N → P a → (∃ a', P a' ∧ F (f + 1) (znn i) a = F f (znn (i + s)) a')) (h2 : ∀ f i a, N ≤ i → i < N + s → P a → Q (F (f + 1) (znn i) a)) :
    ∀ (fuel i : Nat) (a : α), i < N + s → N - i < fuel → P a → Q (F fuel (znn i) a) := by
  intro fuel
  induction fuel with
  | zero => intro i a _ h _; omega
  | succ f ih =>
    intro i a hi hf ha
    by_cases hlt : i < N
    · obtain ⟨a', ha', e⟩ := h1 f i a hlt ha
      rw [e]
      exact ih (i + s) a' (by omega) (by omega) ha'
    · exact h2 f i a (by omega) hi ha
def bSame (B0 B : ZI) : Prop := ∀ o, o ≠ 159 → o ≠ 160 → B o = B0 o
theorem bSame_refl (B : ZI) : bSame B B := fun _ _ _ => rfl
theorem bSame_trans {A B C : ZI} (h1 : bSame A B) (h2 : bSame B C) : bSame A C := fun o q1 q2 => (h2 o q1 q2).trans (h1 o q1 q2)
/-- while the law only asks -/
def SQ (M0 B0 M : ZI) : Prop := ∃ B, Inv2 M B ∧ bSame B0 B ∧ ∀ o, 148 ≤ o → M o = M0 o
theorem ask_m {fC fR : ZI → Option (Int32 × ZI)} (hs : sync fC fR) {M0 B0 M : ZI} {v : Int32} (h : SQ M0 B0 M) (hR : ∀ B, bSame B0 B → ∃ B', fR B = some (v, B') ∧ bSame B B') : ∃ M', fC M = some (v, M') ∧ SQ M0 B0 M' := by
  obtain ⟨B, h1, h2, h3⟩ := h
  obtain ⟨v', A', B', a1, a2, a3, a4, a5⟩ := hs M B h1
  obtain ⟨B'', b1, b2⟩ := hR B h2
  rw [a2] at b1
  cases b1
  exact ⟨A', a1, B', a3, bSame_trans h2 b2, fun o ho => (a4 o ho).trans (h3 o ho)⟩
theorem ask_i {fC fR : ZI → Option Int32} (hs : syncP fC fR) {M0 B0 M : ZI} {v : Int32} (h : SQ M0 B0 M) (hR : ∀ B, bSame B0 B → fR B = some v) : fC M = some v := by
  obtain ⟨B, h1, h2, h3⟩ := h
  obtain ⟨v', a1, a2⟩ := hs M B h1
  rw [hR B h2] at a2
  cases a2
  exact a1
theorem isIn_e2 (a b c : Int32) : f149_isIn a b c = some (if a < b then 0 else if c < a then 0 else 1) := by
  unfold f149_isIn
  split
  · rfl
  · split <;> rfl
theorem in_yes {x lo hi : Nat} (h1 : lo ≤ x) (h2 : x ≤ hi) (h3 : hi < 1000000) : f149_isIn (znn x) (znn lo) (znn hi) = some 1 := by
  rw [isIn_e2, if_neg (by rw [zn_lt (by omega) (by omega)]; omega), if_neg (by rw [zn_lt (by omega) (by omega)]; omega)]
theorem in_low {a b c : Int32} (h : a < b) : f149_isIn a b c = some 0 := by rw [isIn_e2, if_pos h]
theorem in_high {a b c : Int32} (h : c < a) : f149_isIn a b c = some 0 := by
  by_cases hab : a < b
  · exact in_low hab
  · rw [isIn_e2, if_neg hab, if_pos h]
theorem pre1 (n : Nat) (hn : n ≤ 100000) : znn n - 1 < znn n := by
  cases n with
  | zero => decide
  | succ m => rw [zl1, zn_sub (by omega), zn_lt (by omega) (by omega)]; omega
theorem per_yes {B : ZI} {n p : Nat} (hn : n ≤ 10) (h48 : B 149 48 = znn n) (hp : p < n) : f152_isPerson (znn p) B = some 1 := by
  unfold f152_isPerson
  rw [h48, zl1, zn_sub (by omega), zl0, in_yes (by omega) (by omega) (by omega)]
  rfl
theorem per_no {B : ZI} {n : Nat} (hn : n ≤ 10) (h48 : B 149 48 = znn n) : f152_isPerson (znn n) B = some 0 := by
  unfold f152_isPerson
  rw [h48, in_high (pre1 n (by omega))]
  rfl
theorem of_r {B : ZI} {n k c b Y p i : Nat} (hok : fixOk (B 149) n k c b) (hmo : momOk (B 149) n Y) (hp : p < n) (hi : i < 7) : f229_of (znn p) (znn i) B = some (B 149 ((if i = 0 then 17 else if i = 1 then 60 else if i = 2 then 70 else if i = 3 then 27 else if i = 4 then 37 else if i = 5 then 80 else 7) + p), B) := by
  have hn : n ≤ 10 := hok.1.1
  unfold f229_of
  rw [per_yes hn hok.1.2.1 hp]
  simp only [Option.bind_some]
  have hz : ∀ d, d ≤ 80 → zin (znn d + znn p) 2064 = true := fun d hd => by rw [zn_add]; exact (zn_zin (by omega)).mpr (by omega)
  have hy : ∀ d, d ≤ 80 → zi (znn d + znn p) = d + p := fun d hd => by rw [zn_add, zn_zi (by omega)]
  rw [if_neg (by decide)]
  have hi7 : i = 0 ∨ i = 1 ∨ i = 2 ∨ i = 3 ∨ i = 4 ∨ i = 5 ∨ i = 6 := by omega
  rcases hi7 with rfl | rfl | rfl | rfl | rfl | rfl | rfl
  · rw [if_pos (show znn 0 = 0 by decide), if_pos (show zin (17 + znn p) 2064 = true from hz 17 (by decide)), show zi (17 + znn p) = 17 + p from hy 17 (by decide)]
    rfl
  · rw [if_neg (show ¬ znn 1 = 0 by decide), if_pos (show znn 1 = 1 by decide), if_pos (show zin (60 + znn p) 2064 = true from hz 60 (by decide)), show zi (60 + znn p) = 60 + p from hy 60 (by decide)]
    rfl
  · rw [if_neg (show ¬ znn 2 = 0 by decide), if_neg (show ¬ znn 2 = 1 by decide), if_pos (show znn 2 = 2 by decide), if_pos (show zin (70 + znn p) 2064 = true from hz 70 (by decide)), show zi (70 + znn p) = 70 + p from hy 70 (by decide)]
    rfl
  · rw [if_neg (show ¬ znn 3 = 0 by decide), if_neg (show ¬ znn 3 = 1 by decide), if_neg (show ¬ znn 3 = 2 by decide), if_pos (show znn 3 = 3 by decide), if_pos (show zin (27 + znn p) 2064 = true from hz 27 (by decide)), show zi (27 + znn p) = 27 + p from hy 27 (by decide)]
    rfl
  · rw [if_neg (show ¬ znn 4 = 0 by decide), if_neg (show ¬ znn 4 = 1 by decide), if_neg (show ¬ znn 4 = 2 by decide), if_neg (show ¬ znn 4 = 3 by decide), if_pos (show znn 4 = 4 by decide), if_pos (show zin (37 + znn p) 2064 = true from hz 37 (by decide)), show zi (37 + znn p) = 37 + p from hy 37 (by decide)]
    rfl
  · rw [if_neg (show ¬ znn 5 = 0 by decide), if_neg (show ¬ znn 5 = 1 by decide), if_neg (show ¬ znn 5 = 2 by decide), if_neg (show ¬ znn 5 = 3 by decide), if_neg (show ¬ znn 5 = 4 by decide), if_pos (show znn 5 = 5 by decide), if_pos (show zin (80 + znn p) 2064 = true from hz 80 (by decide)), show zi (80 + znn p) = 80 + p from hy 80 (by decide)]
    rfl
  · rw [if_neg (show ¬ znn 6 = 0 by decide), if_neg (show ¬ znn 6 = 1 by decide), if_neg (show ¬ znn 6 = 2 by decide), if_neg (show ¬ znn 6 = 3 by decide), if_neg (show ¬ znn 6 = 4 by decide), if_neg (show ¬ znn 6 = 5 by decide), if_pos (show znn 6 = 6 by decide), if_pos (show zin (7 + znn p) 2064 = true from hz 7 (by decide)), show zi (7 + znn p) = 7 + p from hy 7 (by decide)]
    rfl
theorem of_r7 {B : ZI} {n k c b Y p : Nat} (hok : fixOk (B 149) n k c b) (hmo : momOk (B 149) n Y) (hp : p < n) : ∃ B', f229_of (znn p) 7 B = some (sAsk (B 149) 20 p 0, B') ∧ bSame B B' := by
  obtain ⟨B', b1, b2⟩ := weight_ref (M := B) rfl hp (ask_of hok) hmo
  refine ⟨B', ?_, b2⟩
  unfold f229_of
  rw [per_yes hok.1.1 hok.1.2.1 hp]
  simp only [Option.bind_some]
  rw [if_neg (by decide), if_neg (by decide), if_neg (by decide), if_neg (by decide), if_neg (by decide), if_neg (by decide), if_neg (by decide), if_neg (by decide), if_pos (by decide), b1]
  rfl
theorem of_r8 {B : ZI} {n k c b Y p : Nat} (hok : fixOk (B 149) n k c b) (hmo : momOk (B 149) n Y) (hp : p < n) : ∃ B', f229_of (znn p) 8 B = some (znn (sSum (B 149) (fun v => B 149 (80 + v)) p n), B') ∧ bSame B B' := by
  obtain ⟨B', b1, b2⟩ := sum_ref (M := B) (p := p) rfl (ask_of hok) hmo
  refine ⟨B', ?_, b2⟩
  unfold f229_of
  rw [per_yes hok.1.1 hok.1.2.1 hp]
  simp only [Option.bind_some]
  rw [if_neg (by decide), if_neg (by decide), if_neg (by decide), if_neg (by decide), if_neg (by decide), if_neg (by decide), if_neg (by decide), if_neg (by decide), if_neg (by decide), if_pos (by decide), b1]
  rfl
theorem of_r9 {B : ZI} {n k c b Y p : Nat} (hok : fixOk (B 149) n k c b) (hmo : momOk (B 149) n Y) (hp : p < n) : f229_of (znn p) 9 B = some (-2, B) := by
  unfold f229_of
  rw [per_yes hok.1.1 hok.1.2.1 hp]
  simp only [Option.bind_some]
  rw [if_neg (by decide), if_neg (by decide), if_neg (by decide), if_neg (by decide), if_neg (by decide), if_neg (by decide), if_neg (by decide), if_neg (by decide), if_neg (by decide), if_neg (by decide)]
theorem of_rn {B : ZI} {n k c b : Nat} {x : Int32} (hok : fixOk (B 149) n k c b) : f229_of (znn n) x B = some (-2, B) := by
  unfold f229_of
  rw [per_no hok.1.1 hok.1.2.1]
  rfl
theorem after_r {B : ZI} {n k c b Y p u : Nat} (hok : fixOk (B 149) n k c b) (hmo : momOk (B 149) n Y) (hp : p < n) (hu : u ≤ 24) : ∃ B', f230_after (znn p) (znn u) 0 B = some (sAsk (B 149) 21 p u, B') ∧ bSame B B' := by
  obtain ⟨B', b1, b2⟩ := wear_ref (M := B) (u := u) rfl hp hok hmo
  refine ⟨B', ?_, b2⟩
  unfold f230_after
  rw [per_yes hok.1.1 hok.1.2.1 hp]
  simp only [Option.bind_some]
  rw [if_neg (by decide), show f149_isIn (znn u) 0 24 = some 1 from in_yes (lo := 0) (hi := 24) (by omega) hu (by decide)]
  simp only [Option.bind_some]
  rw [if_neg (by decide), if_pos trivial, b1]
  rfl
theorem after_r1 {B : ZI} {n k c b Y p u : Nat} (hok : fixOk (B 149) n k c b) (hmo : momOk (B 149) n Y) (hp : p < n) (hu : u ≤ 24) : ∃ B', f230_after (znn p) (znn u) 1 B = some (sAsk (B 149) 22 p u, B') ∧ bSame B B' := by
  obtain ⟨B', b1, b2⟩ := notice_ref (M := B) (u := u) rfl hp hok hmo
  refine ⟨B', ?_, b2⟩
  unfold f230_after
  rw [per_yes hok.1.1 hok.1.2.1 hp]
  simp only [Option.bind_some]
  rw [if_neg (by decide), show f149_isIn (znn u) 0 24 = some 1 from in_yes (lo := 0) (hi := 24) (by omega) hu (by decide)]
  simp only [Option.bind_some]
  rw [if_neg (by decide), if_neg (by decide), b1]
  rfl
theorem after_rn {B : ZI} {n k c b : Nat} {x y : Int32} (hok : fixOk (B 149) n k c b) : f230_after (znn n) x y B = some (-1, B) := by
  unfold f230_after
  rw [per_no hok.1.1 hok.1.2.1]
  rfl
theorem work_r {B : ZI} {n k c b i f : Nat} (hok : fixOk (B 149) n k c b) (hi : i < k) (hf : f < 6) : f231_work (znn i) (znn f) B = some (B 149 (90 + f + 6 * i)) := by
  have hk : k ≤ 12 := hok.2.2.1.1
  have h52 : B 149 52 = znn k := hok.2.2.1.2.1
  unfold f231_work
  rw [h52, zl1, zn_sub (by omega), zl0, in_yes (by omega) (by omega) (by omega)]
  simp only [Option.bind_some]
  rw [if_neg (by decide), show f149_isIn (znn f) (znn 0) 6 = some 1 from in_yes (lo := 0) (hi := 6) (by omega) (by omega) (by decide)]
  simp only [Option.bind_some]
  rw [if_neg (by decide), if_pos (show znn f < 6 by rw [zl6, zn_lt (by omega) (by omega)]; omega), ofWork_eq (by omega) hf]
  rfl
theorem work_r6 {B : ZI} {n k c b i d : Nat} (hok : fixOk (B 149) n k c b) (hi : i < k) (hd : d < 4096) (h6 : B 149 6 = znn d) : f231_work (znn i) 6 B = some (if d.testBit i = true then 1 else 0) := by
  have hk : k ≤ 12 := hok.2.2.1.1
  have h52 : B 149 52 = znn k := hok.2.2.1.2.1
  unfold f231_work f224_isDone
  rw [h52, zl1, zn_sub (by omega), zl0, in_yes (by omega) (by omega) (by omega)]
  simp only [Option.bind_some]
  rw [if_neg (by decide), show f149_isIn 6 (znn 0) 6 = some 1 by decide]
  simp only [Option.bind_some]
  rw [if_neg (by decide), if_neg (by decide), h6, show znn 1 = 1 from rfl, zbit hd (by omega)]
  split <;> rfl
theorem work_r7 {B : ZI} {n k c b i : Nat} (hok : fixOk (B 149) n k c b) (hi : i < k) : f231_work (znn i) 7 B = some (-2) := by
  have hk : k ≤ 12 := hok.2.2.1.1
  have h52 : B 149 52 = znn k := hok.2.2.1.2.1
  unfold f231_work
  rw [h52, zl1, zn_sub (by omega), zl0, in_yes (by omega) (by omega) (by omega)]
  simp only [Option.bind_some]
  rw [if_neg (by decide), show f149_isIn 7 (znn 0) 6 = some 0 by decide]
  rfl
theorem work_rn {B : ZI} {n k c b : Nat} {x : Int32} (hok : fixOk (B 149) n k c b) : f231_work (znn k) x B = some (-2) := by
  have hk : k ≤ 12 := hok.2.2.1.1
  have h52 : B 149 52 = znn k := hok.2.2.1.2.1
  unfold f231_work
  rw [h52, in_high (pre1 k (by omega))]
  rfl
theorem book_r {B : ZI} {l i f : Nat} (hl : l ≤ 150) (h5 : B 149 5 = znn l) (hi : i < l) (hf : f < 4) : f232_book (znn i) (znn f) B = some (B 149 (578 + 4 * i + f)) := by
  unfold f232_book
  rw [h5, zl1, zn_sub (by omega), zl0, in_yes (by omega) (by omega) (by omega)]
  simp only [Option.bind_some]
  rw [if_neg (by decide), show f149_isIn (znn f) (znn 0) 3 = some 1 from in_yes (lo := 0) (hi := 3) (by omega) (by omega) (by decide)]
  simp only [Option.bind_some]
  rw [if_neg (by decide), show (578 : Int32) + 4 * znn i + znn f = znn (578 + 4 * i + f) by rw [show (578 : Int32) = znn 578 from rfl, zl4, zn_mul, zn_add, zn_add], if_pos ((zn_zin (by omega)).mpr (by omega)), zn_zi (by omega)]
theorem book_rn {B : ZI} {l : Nat} {x : Int32} (hl : l ≤ 150) (h5 : B 149 5 = znn l) : f232_book (znn l) x B = some (-2) := by
  unfold f232_book
  rw [h5, in_high (pre1 l (by omega))]
  rfl
theorem look_r {B : ZI} {i : Nat} (hi : i < 9) : f266_look (znn i) B = some (B 149 (if i = 0 then 48 else if i = 1 then 0 else if i = 2 then 1 else if i = 3 then 49 else if i = 4 then 50 else if i = 5 then 2 else if i = 6 then 3 else if i = 7 then 5 else 4), B) := by
  have hi9 : i = 0 ∨ i = 1 ∨ i = 2 ∨ i = 3 ∨ i = 4 ∨ i = 5 ∨ i = 6 ∨ i = 7 ∨ i = 8 := by omega
  rcases hi9 with rfl | rfl | rfl | rfl | rfl | rfl | rfl | rfl | rfl <;> rfl
theorem look_r11 {B : ZI} : f266_look 11 B = some (B 149 52, B) := rfl
theorem look_r14 {B : ZI} : f266_look 14 B = some (B 148 4, B) := rfl
theorem look_r18 {B : ZI} : f266_look 18 B = some (-1, B) := rfl
theorem look_r15 {B : ZI} {n k c b Y : Nat} (hok : fixOk (B 149) n k c b) (hmo : momOk (B 149) n Y) : ∃ B', f266_look 15 B = some (optI (sGiv (B 149) (fun v => B 149 (80 + v)) n n), B') ∧ bSame B B' := by
  obtain ⟨B', b1, b2⟩ := giv_ref (M := B) rfl (ask_of hok) hmo
  refine ⟨B', ?_, b2⟩
  show (f205_givenNow B).bind _ = _
  rw [b1]
  rfl
