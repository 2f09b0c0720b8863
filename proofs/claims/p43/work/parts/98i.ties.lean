-- ===== the law's loop over the ties =====
theorem or_xor {s i : Nat} (h : s.testBit i = false) : s ||| 2 ^ i = s ^^^ 2 ^ i := by
  apply Nat.eq_of_testBit_eq
  intro j
  rw [Nat.testBit_or, Nat.testBit_xor, Nat.testBit_two_pow]
  by_cases hij : i = j
  · subst hij
    rw [h, decide_eq_true rfl]
    rfl
  · rw [decide_eq_false hij]
    cases s.testBit j <;> rfl
theorem or_same {s i : Nat} (h : s.testBit i = true) : s ||| 2 ^ i = s := by
  apply Nat.eq_of_testBit_eq
  intro j
  rw [Nat.testBit_or, Nat.testBit_two_pow]
  by_cases hij : i = j
  · subst hij
    rw [h]
    rfl
  · rw [decide_eq_false hij, Bool.or_false]
theorem shl_one {i : Nat} (h : i < 10) : zshl 1 (znn i) = znn (2 ^ i) := by
  have : ∀ q : Fin 10, zshl 1 (znn q.val) = znn (2 ^ q.val) := by decide +kernel
  exact this ⟨i, h⟩
theorem Inv2_n {M B : ZI} {n : Nat} (h : Inv2 M B) (h48 : B 149 48 = znn n) (hn : n ≤ 10) : ∃ k c b, Inv5 M B n k c b ∧ pastIs M B n := by
  obtain ⟨n', k, c, b, h0, h1, -⟩ := h
  have h10 := h0.2.1.1.1
  have e := h0.2.1.1.2.1
  have : n' = n := by
    rw [h48] at e
    exact ((zn_eq (by omega) (by omega)).mp e).symm
  subst this
  exact ⟨k, c, b, h0, h1⟩
theorem Inv2_ties {M B : ZI} {n : Nat} (h : Inv2 M B) (h48 : B 149 48 = znn n) (hn : n ≤ 10) {p : Nat} (hp : p < n) : ∃ s, s < 1024 ∧ B 149 (7 + p) = znn s ∧ s.testBit p = false := by
  obtain ⟨k, c, b, h0, -⟩ := Inv2_n h h48 hn
  exact (h0.2.2.2.1.2.2.2.2 p hp).2
theorem Inv2_kept {M B : ZI} (h : Inv2 M B) : ∃ m, m ≤ 6 ∧ B 148 4 = znn m := by
  obtain ⟨n, k, c, b, h0, h1, -⟩ := h
  obtain ⟨o, m, -, hm, -, -, h4, -⟩ := h1
  exact ⟨m, hm, h4⟩
theorem landIs_ties {M M' : ZI} {R : ZF} {L : ZY} {t b n k : Nat} {w w' : Nat → Int32} (h : landIs M R L t b w n k) (hn : n ≤ 10) (hk : k ≤ 9) (hz : zgood R L = true) (hr : ruleOk w) (hM : ∀ c, 148 ≤ c → ¬ ownR b n c → M' c = M c) (hrow : ∀ p j, p < n → M' (b + p) j = if j = 6 then w' (7 + p) else M (b + p) j) (hw : ∀ j, ¬ (7 ≤ j ∧ j < 7 + n) → w' j = w j) : landIs M' R L t b w' n k := by
  obtain ⟨hO, hF, ⟨hb, hP⟩, hW, -, hC, -⟩ := id h
  have hP7 : ∀ p, p < n → L[b + p]? = some (0, 7) := fun p hp => (hP p hp).2.1
  have hg : gF (own2 t b n) M R L M' R L := ⟨⟨[], by simp⟩, fun c q1 _ hh => ⟨hM c q1 (fun h => hh (Or.inr h)), rfl⟩, fun _ _ => rfl⟩
  have htR : ¬ ownR b n t := fun hh => by
    have := hP7 (t - b) (by unfold ownR at hh; omega)
    rw [show b + (t - b) = t by unfold ownR at hh; omega, hO.1] at this
    cases this
  refine landIs_upd h hn hg (fun _ _ => rfl) ?_ (fun p hp => ?_) (lndW_keep hW hO hP7 hg rfl (fun i f hi hf => hw _ (by omega))) (lndC_keep hC hO hP7 hg hz rfl (fun S _ => sSat_on hr (hw 54 (by omega)) (fun i hi => hw _ (by omega)) S)) (hw 5 (by omega)) (fun i f hi hf => hw _ (by omega)) (hw 58 (by omega)) (fun x hx => hw x (by omega))
  · unfold lndF at hF ⊢
    rw [hM t hO.2.2.2.2.2 htR, hw 4 (by omega), hw 0 (by omega), hw 1 (by omega), hw 49 (by omega), hw 50 (by omega), hw 2 (by omega), hw 3 (by omega), hw 48 (by omega), hw 5 (by omega), hw 6 (by omega)]
    exact hF
  · obtain ⟨q0, q1, q2, q3, q4, q5, q6⟩ := (hP p hp).2.2
    unfold lndQ
    rw [hrow p 0 hp, hrow p 1 hp, hrow p 2 hp, hrow p 3 hp, hrow p 4 hp, hrow p 5 hp, hrow p 6 hp, if_neg (by decide), if_neg (by decide), if_neg (by decide), if_neg (by decide), if_neg (by decide), if_neg (by decide), if_pos rfl, hw (17 + p) (by omega), hw (60 + p) (by omega), hw (70 + p) (by omega), hw (27 + p) (by omega), hw (37 + p) (by omega), hw (80 + p) (by omega)]
    exact ⟨q0, q1, q2, q3, q4, q5, rfl⟩
def symT (w : Nat → Int32) (n : Nat) : Prop := ∀ p q, p < n → q < n → (zi (w (7 + p))).testBit q = (zi (w (7 + q))).testBit p
