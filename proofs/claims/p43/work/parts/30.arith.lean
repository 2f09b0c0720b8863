-- ===== ARITH: small ints as naturals; loops; memory =====
def znn (k : Nat) : Int32 := Int32.ofNat k
theorem zl0 : (0 : Int32) = znn 0 := id rfl
theorem zl1 : (1 : Int32) = znn 1 := id rfl
theorem zl2 : (2 : Int32) = znn 2 := id rfl
theorem zl3 : (3 : Int32) = znn 3 := id rfl
theorem zl4 : (4 : Int32) = znn 4 := id rfl
theorem zl5 : (5 : Int32) = znn 5 := id rfl
theorem zl6 : (6 : Int32) = znn 6 := id rfl
theorem zl7 : (7 : Int32) = znn 7 := id rfl
theorem zl8 : (8 : Int32) = znn 8 := id rfl
theorem zl9 : (9 : Int32) = znn 9 := id rfl
theorem zl10 : (10 : Int32) = znn 10 := id rfl
theorem zl11 : (11 : Int32) = znn 11 := id rfl
theorem zl12 : (12 : Int32) = znn 12 := id rfl
theorem zl13 : (13 : Int32) = znn 13 := id rfl
theorem zl14 : (14 : Int32) = znn 14 := id rfl
theorem zl15 : (15 : Int32) = znn 15 := id rfl
theorem zl16 : (16 : Int32) = znn 16 := id rfl
theorem zl17 : (17 : Int32) = znn 17 := id rfl
theorem zl18 : (18 : Int32) = znn 18 := id rfl
theorem zl19 : (19 : Int32) = znn 19 := id rfl
theorem zl20 : (20 : Int32) = znn 20 := id rfl
theorem zl21 : (21 : Int32) = znn 21 := id rfl
theorem zl22 : (22 : Int32) = znn 22 := id rfl
theorem zl23 : (23 : Int32) = znn 23 := id rfl
theorem zl24 : (24 : Int32) = znn 24 := id rfl
theorem zl25 : (25 : Int32) = znn 25 := id rfl
theorem zl26 : (26 : Int32) = znn 26 := id rfl
theorem zl27 : (27 : Int32) = znn 27 := id rfl
theorem zl28 : (28 : Int32) = znn 28 := id rfl
theorem zl29 : (29 : Int32) = znn 29 := id rfl
theorem zl30 : (30 : Int32) = znn 30 := id rfl
theorem zl31 : (31 : Int32) = znn 31 := id rfl
theorem zl32 : (32 : Int32) = znn 32 := id rfl
theorem zl33 : (33 : Int32) = znn 33 := id rfl
theorem zl34 : (34 : Int32) = znn 34 := id rfl
theorem zl35 : (35 : Int32) = znn 35 := id rfl
theorem zl36 : (36 : Int32) = znn 36 := id rfl
theorem zl37 : (37 : Int32) = znn 37 := id rfl
theorem zl38 : (38 : Int32) = znn 38 := id rfl
theorem zl39 : (39 : Int32) = znn 39 := id rfl
theorem zl40 : (40 : Int32) = znn 40 := id rfl
theorem zl41 : (41 : Int32) = znn 41 := id rfl
theorem zl42 : (42 : Int32) = znn 42 := id rfl
theorem zl43 : (43 : Int32) = znn 43 := id rfl
theorem zl44 : (44 : Int32) = znn 44 := id rfl
theorem zl45 : (45 : Int32) = znn 45 := id rfl
theorem zl46 : (46 : Int32) = znn 46 := id rfl
theorem zl47 : (47 : Int32) = znn 47 := id rfl
theorem zl48 : (48 : Int32) = znn 48 := id rfl
theorem zl49 : (49 : Int32) = znn 49 := id rfl
theorem zl50 : (50 : Int32) = znn 50 := id rfl
theorem zl52 : (52 : Int32) = znn 52 := id rfl
theorem zl53 : (53 : Int32) = znn 53 := id rfl
theorem zl54 : (54 : Int32) = znn 54 := id rfl
theorem zl55 : (55 : Int32) = znn 55 := id rfl
theorem zl56 : (56 : Int32) = znn 56 := id rfl
theorem zl57 : (57 : Int32) = znn 57 := id rfl
theorem zl58 : (58 : Int32) = znn 58 := id rfl
theorem zl59 : (59 : Int32) = znn 59 := id rfl
theorem zl60 : (60 : Int32) = znn 60 := id rfl
theorem zl61 : (61 : Int32) = znn 61 := id rfl
theorem zl62 : (62 : Int32) = znn 62 := id rfl
theorem zl63 : (63 : Int32) = znn 63 := id rfl
theorem zl64 : (64 : Int32) = znn 64 := id rfl
theorem zl65 : (65 : Int32) = znn 65 := id rfl
theorem zl69 : (69 : Int32) = znn 69 := id rfl
theorem zl70 : (70 : Int32) = znn 70 := id rfl
theorem zl72 : (72 : Int32) = znn 72 := id rfl
theorem zl79 : (79 : Int32) = znn 79 := id rfl
theorem zl80 : (80 : Int32) = znn 80 := id rfl
theorem zl90 : (90 : Int32) = znn 90 := id rfl
theorem zl97 : (97 : Int32) = znn 97 := id rfl
theorem zl99 : (99 : Int32) = znn 99 := id rfl
theorem zl100 : (100 : Int32) = znn 100 := id rfl
theorem zl122 : (122 : Int32) = znn 122 := id rfl
theorem zl140 : (140 : Int32) = znn 140 := id rfl
theorem zl141 : (141 : Int32) = znn 141 := id rfl
theorem zl142 : (142 : Int32) = znn 142 := id rfl
theorem zl143 : (143 : Int32) = znn 143 := id rfl
theorem zl145 : (145 : Int32) = znn 145 := id rfl
theorem zl147 : (147 : Int32) = znn 147 := id rfl
theorem zl150 : (150 : Int32) = znn 150 := id rfl
theorem zl159 : (159 : Int32) = znn 159 := id rfl
theorem zl160 : (160 : Int32) = znn 160 := id rfl
theorem zl161 : (161 : Int32) = znn 161 := id rfl
theorem zl162 : (162 : Int32) = znn 162 := id rfl
theorem zl200 : (200 : Int32) = znn 200 := id rfl
theorem zl240 : (240 : Int32) = znn 240 := id rfl
theorem zl255 : (255 : Int32) = znn 255 := id rfl
theorem zl256 : (256 : Int32) = znn 256 := id rfl
theorem zl257 : (257 : Int32) = znn 257 := id rfl
theorem zl258 : (258 : Int32) = znn 258 := id rfl
theorem zl259 : (259 : Int32) = znn 259 := id rfl
theorem zl260 : (260 : Int32) = znn 260 := id rfl
theorem zl261 : (261 : Int32) = znn 261 := id rfl
theorem zl262 : (262 : Int32) = znn 262 := id rfl
theorem zl263 : (263 : Int32) = znn 263 := id rfl
theorem zl271 : (271 : Int32) = znn 271 := id rfl
theorem zl272 : (272 : Int32) = znn 272 := id rfl
theorem zl273 : (273 : Int32) = znn 273 := id rfl
theorem zl274 : (274 : Int32) = znn 274 := id rfl
theorem zl275 : (275 : Int32) = znn 275 := id rfl
theorem zl276 : (276 : Int32) = znn 276 := id rfl
theorem zl277 : (277 : Int32) = znn 277 := id rfl
theorem zl278 : (278 : Int32) = znn 278 := id rfl
theorem zl279 : (279 : Int32) = znn 279 := id rfl
theorem zl288 : (288 : Int32) = znn 288 := id rfl
theorem zl300 : (300 : Int32) = znn 300 := id rfl
theorem zl301 : (301 : Int32) = znn 301 := id rfl
theorem zl364 : (364 : Int32) = znn 364 := id rfl
theorem zl365 : (365 : Int32) = znn 365 := id rfl
theorem zl400 : (400 : Int32) = znn 400 := id rfl
theorem zl401 : (401 : Int32) = znn 401 := id rfl
theorem zl420 : (420 : Int32) = znn 420 := id rfl
theorem zl562 : (562 : Int32) = znn 562 := id rfl
theorem zl578 : (578 : Int32) = znn 578 := id rfl
theorem zl820 : (820 : Int32) = znn 820 := id rfl
theorem zl999 : (999 : Int32) = znn 999 := id rfl
theorem zl1000 : (1000 : Int32) = znn 1000 := id rfl
theorem zl1024 : (1024 : Int32) = znn 1024 := id rfl
theorem zl1178 : (1178 : Int32) = znn 1178 := id rfl
theorem zl1194 : (1194 : Int32) = znn 1194 := id rfl
theorem zl1210 : (1210 : Int32) = znn 1210 := id rfl
theorem zl1226 : (1226 : Int32) = znn 1226 := id rfl
theorem zl1244 : (1244 : Int32) = znn 1244 := id rfl
theorem zl2064 : (2064 : Int32) = znn 2064 := id rfl
theorem zl4096 : (4096 : Int32) = znn 4096 := id rfl
theorem zl9999 : (9999 : Int32) = znn 9999 := id rfl
theorem zl11264 : (11264 : Int32) = znn 11264 := id rfl
theorem zl100000 : (100000 : Int32) = znn 100000 := id rfl
theorem zn_toInt {k : Nat} (h : k < 2147483648) : (znn k).toInt = k := Int32.toInt_ofNat_of_lt h
theorem zn_lt {i j : Nat} (hi : i < 2147483648) (hj : j < 2147483648) : znn i < znn j ↔ i < j := Int32.ofNat_lt_iff_lt hi hj
theorem zn_eq {i j : Nat} (hi : i < 2147483648) (hj : j < 2147483648) : znn i = znn j ↔ i = j := by
  constructor
  · intro h
    have := congrArg Int32.toInt h
    rw [zn_toInt hi, zn_toInt hj] at this
    omega
  · rintro rfl; rfl
theorem zn_zi {k : Nat} (h : k < 2147483648) : zi (znn k) = k := Int32.toNatClampNeg_ofNat_of_lt h
theorem zi_zn {x : Int32} (h : ¬ x < 0) : znn (zi x) = x := Int32.ofNat_toNatClampNeg x (by simpa using h)
theorem zn_add (i j : Nat) : znn i + znn j = znn (i + j) := (Int32.ofNat_add i j).symm
theorem zn_mul (i j : Nat) : znn i * znn j = znn (i * j) := (Int32.ofNat_mul i j).symm
theorem zn_sub {i j : Nat} (h : j ≤ i) : znn i - znn j = znn (i - j) := (Int32.ofNat_sub i j h).symm
theorem zn_nneg {k : Nat} (h : k < 2147483648) : ¬ znn k < 0 := by
  rw [zl0, zn_lt h (by decide)]; omega
theorem zn_zin {i n : Nat} (h : i < 2147483648) : zin (znn i) n = true ↔ i < n := by
  have h1 := zn_nneg h
  have h2 : (znn i).toNatClampNeg = i := zn_zi h
  simp only [zin, decide_eq_true_eq, h2]
  constructor
  · intro h3; omega
  · intro h3 h4
    rcases h4 with h4 | h4
    · exact h1 h4
    · omega
theorem zin_ex {x : Int32} {n : Nat} (h : zin x n = true) : ∃ i, i < n ∧ i < 2147483648 ∧ x = znn i := by
  have h := of_decide_eq_true h
  have h1 : ¬ x < 0 := fun h1 => h (Or.inl h1)
  refine ⟨zi x, ?_, ?_, (zi_zn h1).symm⟩
  · exact Nat.lt_of_not_le fun h2 => h (Or.inr h2)
  · exact Int32.toNatClampNeg_lt x
theorem zn_ne_neg {k : Nat} (h : k < 2147483648) : znn k ≠ -1 := by
  intro h1
  have := congrArg Int32.toInt h1
  rw [zn_toInt h] at this
  have h2 : Int32.toInt (-1) = -1 := rfl
  rw [h2] at this
  omega
theorem zn_ne_neg' {k : Nat} (h : k < 2147483648) : ¬ (-1 : Int32) = znn k := fun e => zn_ne_neg h e.symm
theorem neg_lt_zn {k : Nat} (h : k < 2147483648) : (-1 : Int32) < znn k := by
  rw [Int32.lt_iff_toInt_lt, zn_toInt h]
  have h2 : Int32.toInt (-1) = -1 := rfl
  omega
def zm1 : Int32 := -1
def zm2 : Int32 := -2
def zm3 : Int32 := -3
theorem zng1 : -znn 1 = zm1 := id rfl
theorem zng2 : -znn 2 = zm2 := id rfl
theorem zng3 : -znn 3 = zm3 := id rfl
theorem zn_dec {k : Nat} (h : 1 ≤ k) : znn k + zm1 = znn (k - 1) := by
  rw [← zn_sub h, Int32.sub_eq_add_neg, zng1]
theorem zng8 {k : Nat} (h : 8 ≤ k) : znn k + -znn 8 = znn (k - 8) := by
  rw [← zn_sub h, Int32.sub_eq_add_neg]
theorem zn_shl {k : Nat} (h : k < 31) : zshl (znn 1) (znn k) = znn (2 ^ k) := by
  have : ∀ k : Fin 31, zshl (znn 1) (znn k.val) = znn (2 ^ k.val) := by decide +kernel
  exact this ⟨k, h⟩
theorem zs_ap (M : ZI) (o k : Nat) (v : Int32) (o' : Nat) : (zs M o k v) o' = if o' = o then upd (M o) k v else M o' := rfl
theorem upd_ap (f : Nat → Int32) (k : Nat) (x : Int32) (j : Nat) : upd f k x j = if j = k then x else f j := rfl
theorem zc_ap (M : ZI) (a b s d n o' : Nat) : (zc M a b s d n) o' = if o' = a then va_cpy (M b) (M a) s d n else M o' := rfl
theorem cpy_ap (f g : Nat → Int32) (n k : Nat) : va_cpy f g 0 0 n k = if k < n then f k else g k := by
  unfold va_cpy
  by_cases h : k < n
  · simp [h]
  · simp [h]
theorem zloop {α β : Type} (F : Nat → α → Int32 → Option β) (N : Nat) (P : Nat → α → Prop) (Q : β → Prop)
    (h1 : ∀ n i a, i < N → P i a → (∃ a', P (i + 1) a' ∧ F (n + 1) a (znn i) = F n a' (znn (i + 1))) ∨ (∃ b, Q b ∧ F (n + 1) a (znn i) = some b))
    (h2 : ∀ n a, P N a → ∃ b, Q b ∧ F (n + 1) a (znn N) = some b) :
    ∀ (fuel i : Nat) (a : α), i ≤ N → N - i < fuel → P i a → ∃ b, F fuel a (znn i) = some b ∧ Q b := by
  intro fuel
  induction fuel with
  | zero => intro i a _ h _; omega
  | succ n ih =>
    intro i a hi hf hP
    by_cases h : i < N
    · rcases h1 n i a h hP with ⟨a', hP', he⟩ | ⟨b, hQ, he⟩
      · rw [he]
        exact ih (i + 1) a' (by omega) (by omega) hP'
      · exact ⟨b, he, hQ⟩
    · obtain rfl : i = N := by omega
      obtain ⟨b, hQ, he⟩ := h2 n a hP
      exact ⟨b, he, hQ⟩
/-- n steps of a counted loop -/
def zit {α : Type} (step : Nat → α → α) (a : α) : Nat → α
  | 0 => a
  | n + 1 => step n (zit step a n)
/-- a loop without a way out -/
theorem zfor {α β : Type} (F : Nat → α → Int32 → Option β) (N : Nat) (step : Nat → α → α) (fin : α → β) (a0 : α)
    (h1 : ∀ n i, i < N → F (n + 1) (zit step a0 i) (znn i) = F n (step i (zit step a0 i)) (znn (i + 1)))
    (h2 : ∀ n, F (n + 1) (zit step a0 N) (znn N) = some (fin (zit step a0 N)))
    (fuel : Nat) (hf : N < fuel) : F fuel a0 (znn 0) = some (fin (zit step a0 N)) := by
  obtain ⟨b, hb, hQ⟩ := zloop F N (fun i a => a = zit step a0 i) (fun b => b = fin (zit step a0 N)) (fun n i a hi ha => by
    subst ha
    exact Or.inl ⟨_, rfl, h1 n i hi⟩) (fun n a ha => by
    subst ha
    exact ⟨_, rfl, h2 n⟩) fuel 0 a0 (Nat.zero_le _) (by omega) rfl
  rw [hb, hQ]
theorem zfu_eq : zfu = 100000 := rfl
def zle (x : Int32) (m : Nat) : Prop := ∃ k, k ≤ m ∧ x = znn k
theorem zle_of {x : Int32} {m : Nat} (h1 : ¬ x < 0) (h2 : ¬ znn m < x) (hm : m < 2147483648) : zle x m := by
  refine ⟨zi x, ?_, (zi_zn h1).symm⟩
  have h3 : zi x < 2147483648 := Int32.toNatClampNeg_lt x
  rw [← zi_zn h1, zn_lt hm h3] at h2
  omega
theorem within_eq (a b c : Int32) : f13_within a b c = some (if a < b ∨ c < a then 0 else 1) := by
  unfold f13_within
  by_cases h1 : a < b
  · simp [h1]
  · by_cases h2 : c < a
    · simp [h1, h2]
    · simp [h1, h2]
theorem isIn_eq (a b c : Int32) : f149_isIn a b c = some (if a < b ∨ c < a then 0 else 1) := within_eq a b c
theorem zbl_0 : zbl 0 = true := rfl
theorem zbl_1 : zbl 1 = true := rfl
theorem zpair {α γ β δ : Type} (F : Nat → α → Int32 → Option β) (G : Nat → γ → Int32 → Option δ) (N : Nat) (P : Nat → α → γ → Prop) (R : β → δ → Prop)
    (h1 : ∀ n i a c, i < N → P i a c → (∃ a' c', P (i + 1) a' c' ∧ F (n + 1) a (znn i) = F n a' (znn (i + 1)) ∧ G (n + 1) c (znn i) = G n c' (znn (i + 1))) ∨ (∃ b d, R b d ∧ F (n + 1) a (znn i) = some b ∧ G (n + 1) c (znn i) = some d))
    (h2 : ∀ n a c, P N a c → ∃ b d, R b d ∧ F (n + 1) a (znn N) = some b ∧ G (n + 1) c (znn N) = some d) :
    ∀ (fuel i : Nat) (a : α) (c : γ), i ≤ N → N - i < fuel → P i a c → ∃ b d, F fuel a (znn i) = some b ∧ G fuel c (znn i) = some d ∧ R b d := by
  intro fuel
  induction fuel with
  | zero => intro i a c _ h _; omega
  | succ n ih =>
    intro i a c hi hf hP
    by_cases h : i < N
    · rcases h1 n i a c h hP with ⟨a', c', hP', e1, e2⟩ | ⟨b, d, hR, e1, e2⟩
      · rw [e1, e2]
        exact ih (i + 1) a' c' (by omega) (by omega) hP'
      · exact ⟨b, d, e1, e2, hR⟩
    · obtain rfl : i = N := by omega
      obtain ⟨b, d, hR, e1, e2⟩ := h2 n a c hP
      exact ⟨b, d, e1, e2, hR⟩
theorem zlt0 {k : Nat} (h : 0 < k) (h2 : k < 2147483648) : (0 : Int32) < znn k := (zn_lt (by decide) h2).mpr h
theorem zlt1 {k : Nat} (h : 1 < k) (h2 : k < 2147483648) : (1 : Int32) < znn k := (zn_lt (by decide) h2).mpr h
