-- ===== text: the tokens, one after another =====
theorem zn_ne_neg2 {k : Nat} (h : k < 2147483648) : znn k ≠ -2 := by
  intro h1
  have := congrArg Int32.toInt h1
  rw [zn_toInt h] at this
  rw [show (-2 : Int32).toInt = -2 by decide] at this
  omega
theorem zn_ne_neg3 {k : Nat} (h : k < 2147483648) : znn k ≠ -3 := by
  intro h1
  have := congrArg Int32.toInt h1
  rw [zn_toInt h] at this
  rw [show (-3 : Int32).toInt = -3 by decide] at this
  omega
def skB (b : Nat → Nat) (t i : Nat) : Nat := runEnd isBlk b t (t - i) i
/-- where the m-th token begins -/
def tkS (b : Nat → Nat) (t : Nat) : Nat → Nat
  | 0 => skB b t 0
  | m + 1 => skB b t (lexEnd b t (tkS b t m))
theorem runEnd_step {P : Nat → Bool} {b : Nat → Nat} {t i : Nat} (hi : i < t) (hp : P (b i) = true) : runEnd P b t (t - i) i = runEnd P b t (t - (i + 1)) (i + 1) := by
  rw [show t - i = (t - (i + 1)) + 1 by omega, runEnd, if_pos ⟨hi, hp⟩]
theorem runEnd_stop {P : Nat → Bool} {b : Nat → Nat} {t i : Nat} (hp : ¬ (i < t ∧ P (b i) = true)) : ∀ d, runEnd P b t d i = i
  | 0 => rfl
  | d + 1 => by rw [runEnd, if_neg hp]
theorem runEnd_all {P : Nat → Bool} {b : Nat → Nat} {t : Nat} : ∀ d i j, i ≤ j → j < runEnd P b t d i → P (b j) = true
  | 0, i, j, h1, h2 => by unfold runEnd at h2; omega
  | d + 1, i, j, h1, h2 => by
    unfold runEnd at h2
    by_cases hc : i < t ∧ P (b i) = true
    · rw [if_pos hc] at h2
      by_cases hij : j = i
      · rw [hij]; exact hc.2
      · exact runEnd_all d (i + 1) j (by omega) h2
    · rw [if_neg hc] at h2; omega
theorem skB_bd {b : Nat → Nat} {t i : Nat} (h : i ≤ t) : i ≤ skB b t i ∧ skB b t i ≤ t := runEnd_bd _ _ h
theorem lexEnd_bd {b : Nat → Nat} {t s : Nat} (h : s ≤ t) : s ≤ lexEnd b t s ∧ lexEnd b t s ≤ t ∧ (s < t → s < lexEnd b t s) := by
  unfold lexEnd
  by_cases hs : s < t
  · rw [if_pos hs]
    by_cases hl : isLet (b s) = true
    · rw [if_pos hl, runEnd_step hs hl]
      have := runEnd_bd (P := isLet) (b := b) (t := t) (t - (s + 1)) (s + 1) (by omega)
      omega
    · rw [if_neg hl]
      by_cases hd : isDig (b s) = true
      · rw [if_pos hd, runEnd_step hs hd]
        have := runEnd_bd (P := isDig) (b := b) (t := t) (t - (s + 1)) (s + 1) (by omega)
        omega
      · rw [if_neg hd]; omega
  · rw [if_neg hs]; omega
theorem tkS_le {b : Nat → Nat} {t : Nat} : ∀ m, tkS b t m ≤ t
  | 0 => (skB_bd (Nat.zero_le t)).2
  | m + 1 => (skB_bd (lexEnd_bd (tkS_le m)).2.1).2
def lexVal (b : Nat → Nat) (t s : Nat) : Nat := valN b s (lexEnd b t s - s)
def tkK (b : Nat → Nat) (t m : Nat) : Int32 := lexKind b t (tkS b t m)
def tkT (a : Nat) (b : Nat → Nat) (t m : Nat) : Int32 := lexTok a b t (tkS b t m)
def tkV (b : Nat → Nat) (t m : Nat) : Nat := lexVal b t (tkS b t m)
/-- the class has laid its m-th token -/
def laid (b : Nat → Nat) (t : Nat) (A : ZI) (m : Nat) : Prop := A 121 m = tkK b t m ∧ (tkK b t m = -2 → A 122 m = znn (tkV b t m)) ∧ A 123 m = znn (tkS b t m)
theorem laid_of {b : Nat → Nat} {t m : Nat} {A A' : ZI} (h : laid b t A m) (g : A' 121 m = A 121 m ∧ A' 122 m = A 122 m ∧ A' 123 m = A 123 m) : laid b t A' m := by
  unfold laid
  rw [g.1, g.2.1, g.2.2]
  exact h
/-- one more token is laid -/
theorem lay_tok {b : Nat → Nat} {t m : Nat} {A : ZI} {a v s : Int32} (h5 : A 119 5 = znn m) (hm : m ≤ 400) (ha : a = tkK b t m) (hv : tkK b t m = -2 → v = znn (tkV b t m)) (hs : s = znn (tkS b t m)) (hq : ∀ q, q < m → laid b t A q) :
    ∃ A', f64_addToken 119 a v s A = some A' ∧ A' 119 5 = znn (m + 1) ∧ (∀ q, q < m + 1 → laid b t A' q) ∧ (∀ o, o ≠ 119 → o ≠ 121 → o ≠ 122 → o ≠ 123 → A' o = A o) ∧ ∀ j, j ≠ 5 → A' 119 j = A 119 j := by
  refine ⟨_, add_tok h5 hm, by rw [zs_sm, if_pos rfl], fun q hqm => ?_, fun o h1 h2 h3 h4 => by rw [zs_df h1, zs_df h4, zs_df h3, zs_df h2], fun j hj => by rw [zs_sm, if_neg hj, zs_df (by decide), zs_df (by decide), zs_df (by decide)]⟩
  have e1 : (zs (zs (zs (zs A 121 m a) 122 m v) 123 m s) 119 5 (znn (m + 1))) 121 q = if q = m then a else A 121 q := by rw [zs_df (by decide), zs_df (by decide), zs_df (by decide), zs_sm]
  have e2 : (zs (zs (zs (zs A 121 m a) 122 m v) 123 m s) 119 5 (znn (m + 1))) 122 q = if q = m then v else A 122 q := by rw [zs_df (by decide), zs_df (by decide), zs_sm, zs_df (by decide)]
  have e3 : (zs (zs (zs (zs A 121 m a) 122 m v) 123 m s) 119 5 (znn (m + 1))) 123 q = if q = m then s else A 123 q := by rw [zs_df (by decide), zs_sm, zs_df (by decide), zs_df (by decide)]
  by_cases hqq : q = m
  · subst hqq
    unfold laid
    rw [e1, e2, e3, if_pos rfl, if_pos rfl, if_pos rfl]
    exact ⟨ha, hv, hs⟩
  · exact laid_of (hq q (by omega)) ⟨by rw [e1, if_neg hqq], by rw [e2, if_neg hqq], by rw [e3, if_neg hqq]⟩
theorem num_any {M : ZI} {s e : Nat} (hse : s ≤ e) (he : e ≤ 400) : ∃ v, f66_numberAt 119 (znn s) (znn e) M = some v := by
  obtain ⟨r, g1, -⟩ := zloop (fun f (a : Int32) c => f66_l5 119 (znn e) M f a c) e (fun _ _ => True) (fun _ => True) (fun f i a hi _ => by
    left
    (try dsimp only)
    rw [f66_l5, if_pos ((zn_lt (by omega) (by omega)).mpr hi), if_pos (show znn i < 400 by rw [zl400, zn_lt (by omega) (by decide)]; omega), if_pos ((zn_zin (by omega)).mpr (by omega)), zlet_e, zadd1]
    exact ⟨_, trivial, rfl⟩) (fun f a _ => by
    refine ⟨a, trivial, ?_⟩
    (try dsimp only)
    rw [f66_l5, if_neg (by rw [zn_lt (by omega) (by omega)]; omega)]) zfu s 0 hse (by rw [zfu_eq]; omega) trivial
  have g1 : f66_l5 119 (znn e) M zfu 0 (znn s) = some r := g1
  refine ⟨r, ?_⟩
  unfold f66_numberAt
  rw [g1]
  rfl
theorem toks_cls {b : Nat → Nat} {t : Nat} (hb : tapB b t) : ∀ f i cnt A, i ≤ t → t - i < f → onA A b t → A 119 5 = znn cnt → cnt ≤ i → skB b t i = tkS b t cnt → (∀ q, q < cnt → laid b t A q ∧ tkS b t q < t) →
    ∃ A' N, f54_l7 119 f (znn i) A = some A' ∧ N ≤ t ∧ tkS b t N = t ∧ (∀ q, q < N → laid b t A' q ∧ tkS b t q < t) ∧ A' 119 5 = znn N ∧ (∀ o, o ≠ 119 → o ≠ 121 → o ≠ 122 → o ≠ 123 → A' o = A o) ∧ ∀ j, j ≠ 5 → A' 119 j = A 119 j
  | 0, i, cnt, A, _, h, _, _, _, _, _ => by omega
  | f + 1, i, cnt, A, hi, hf, hA, h5, hci, hsk, hq => by
    have ht := hb.1
    by_cases hit : i < t
    case neg =>
      obtain rfl : i = t := by omega
      have e : skB b i i = i := by unfold skB; exact runEnd_stop (by omega) _
      rw [f54_l7, hA.1, if_neg (by rw [zn_lt (by omega) (by omega)]; omega)]
      exact ⟨A, cnt, rfl, hci, by rw [← hsk]; exact e, hq, h5, fun _ _ _ _ _ => rfl, fun _ _ => rfl⟩
    have hx := hb.2 i hit
    rw [f54_l7, hA.1, if_pos ((zn_lt (by omega) (by omega)).mpr hit), if_pos ((zn_zin (by omega)).mpr (by omega)), zlet_e, zlet_e, zn_zi (by omega), show A (119 + 1) i = znn (b i) from hA.2 i hit, zadd1, (letter_eq hx).1, Option.bind_some]
    have blank : isBlk (b i) = true → ∃ A' N, f54_l7 119 f (znn (i + 1)) A = some A' ∧ N ≤ t ∧ tkS b t N = t ∧ (∀ q, q < N → laid b t A' q ∧ tkS b t q < t) ∧ A' 119 5 = znn N ∧ (∀ o, o ≠ 119 → o ≠ 121 → o ≠ 122 → o ≠ 123 → A' o = A o) ∧ ∀ j, j ≠ 5 → A' 119 j = A 119 j := fun hbl => toks_cls hb f (i + 1) cnt A (by omega) (by omega) hA h5 (by omega) (by rw [← hsk]; unfold skB; exact (runEnd_step hit hbl).symm) hq
    have go : ∀ kd v, isBlk (b i) = false → kd = lexKind b t i → (lexKind b t i = -2 → v = znn (lexVal b t i)) → ∃ A' N, ((f64_addToken 119 kd v (znn i) A).bind fun M11 => f54_l7 119 f (znn (lexEnd b t i)) M11) = some A' ∧ N ≤ t ∧ tkS b t N = t ∧ (∀ q, q < N → laid b t A' q ∧ tkS b t q < t) ∧ A' 119 5 = znn N ∧ (∀ o, o ≠ 119 → o ≠ 121 → o ≠ 122 → o ≠ 123 → A' o = A o) ∧ ∀ j, j ≠ 5 → A' 119 j = A 119 j := by
      intro kd v hbl hk hv
      have e : tkS b t cnt = i := by
        rw [← hsk]
        unfold skB
        exact runEnd_stop (fun hc => by rw [hbl] at hc; exact Bool.false_ne_true hc.2) _
      obtain ⟨l1, l2, l3⟩ := lexEnd_bd (b := b) hi
      have l3 := l3 hit
      obtain ⟨A1, g1, g2, g3, g4, g5⟩ := lay_tok (b := b) (t := t) (a := kd) (v := v) (s := znn i) h5 (by omega) (by unfold tkK; rw [e]; exact hk) (by unfold tkK tkV; rw [e]; exact hv) (by rw [e]) (fun q hqc => (hq q hqc).1)
      obtain ⟨A', N, k1, k2, k3, k4, k5, k6, k7⟩ := toks_cls hb f (lexEnd b t i) (cnt + 1) A1 l2 (by omega) ⟨by rw [g5 1 (by decide)]; exact hA.1, fun j hj => by rw [g4 120 (by decide) (by decide) (by decide) (by decide)]; exact hA.2 j hj⟩ g2 (by omega) (by rw [tkS, e]) (fun q hqc => ⟨g3 q hqc, by
        by_cases hqq : q = cnt
        · rw [hqq, e]; exact hit
        · exact (hq q (by omega)).2⟩)
      refine ⟨A', N, by rw [g1]; exact k1, k2, k3, k4, k5, fun o o1 o2 o3 o4 => (k6 o o1 o2 o3 o4).trans (g4 o o1 o2 o3 o4), fun j hj => (k7 j hj).trans (g5 j hj)⟩
    by_cases hl : isLet (b i) = true
    · rw [if_pos hl, if_neg (show ¬ (1 : Int32) = 0 by decide), letters_cls hb hA (t - (i + 1)) (i + 1) zfu (by omega) (by rw [zfu_eq]; omega), Option.bind_some, ← runEnd_step hit hl]
      obtain ⟨p1, p2⟩ := runEnd_bd (P := isLet) (b := b) (t := t) (t - i) i hi
      rw [word_cls hb hA p1 p2, Option.bind_some]
      have e0 : lexEnd b t i = runEnd isLet b t (t - i) i := by unfold lexEnd; rw [if_pos hit, if_pos hl]
      have e1 : lexKind b t i = kindOf b i (runEnd isLet b t (t - i) i) 24 0 := by unfold lexKind; rw [if_pos hit, if_pos hl]
      rw [← e0]
      refine go _ _ ?_ (by rw [e1, e0]) ?_
      · unfold isLet at hl
        unfold isBlk
        simp only [Bool.and_eq_true, Bool.or_eq_true, decide_eq_true_eq] at hl
        simp only [Bool.or_eq_false_iff, decide_eq_false_iff_not]
        omega
      · rw [e1]
        intro hc
        have : ∀ d k, k + d ≤ 24 → kindOf b i (runEnd isLet b t (t - i) i) d k ≠ -2 := by
          intro d
          induction d with
          | zero => intro k _; unfold kindOf; decide
          | succ d ih =>
            intro k hk
            unfold kindOf
            split
            · exact zn_ne_neg2 (by omega)
            · exact ih (k + 1) (by omega)
        exact absurd hc (this 24 0 (by omega))
    · rw [if_neg hl, if_pos rfl, (digit_eq hx).1, Option.bind_some]
      by_cases hd : isDig (b i) = true
      · rw [if_pos hd, if_neg (show ¬ (1 : Int32) = 0 by decide), digits_cls hb hA (t - (i + 1)) (i + 1) zfu (by omega) (by rw [zfu_eq]; omega), Option.bind_some, ← runEnd_step hit hd]
        obtain ⟨p1, p2⟩ := runEnd_bd (P := isDig) (b := b) (t := t) (t - i) i hi
        have e0 : lexEnd b t i = runEnd isDig b t (t - i) i := by unfold lexEnd; rw [if_pos hit, if_neg hl, if_pos hd]
        have e1 : lexKind b t i = (if 4 < runEnd isDig b t (t - i) i - i then -3 else -2) := by unfold lexKind; rw [if_pos hit, if_neg hl, if_pos hd]
        have nbl : isBlk (b i) = false := by
          unfold isDig at hd
          unfold isBlk
          simp only [Bool.and_eq_true, decide_eq_true_eq] at hd
          simp only [Bool.or_eq_false_iff, decide_eq_false_iff_not]
          omega
        rw [← e0] at p1 p2 e1 ⊢
        rw [zn_sub p1]
        by_cases h4 : 4 < lexEnd b t i - i
        · rw [if_pos h4] at e1
          obtain ⟨v, hv⟩ := num_any (M := A) p1 (show lexEnd b t i ≤ 400 by omega)
          rw [if_pos (show (4 : Int32) < znn (lexEnd b t i - i) by rw [zl4, zn_lt (by decide) (by omega)]; exact h4), Option.bind_some, hv, Option.bind_some]
          exact go _ _ nbl e1.symm (fun hc => by rw [e1] at hc; exact absurd hc (by decide))
        · rw [if_neg h4] at e1
          rw [if_neg (show ¬ (4 : Int32) < znn (lexEnd b t i - i) by rw [zl4, zn_lt (by decide) (by omega)]; exact h4), Option.bind_some, num_cls hb hA p1 p2 (by omega) (fun j j1 j2 => runEnd_all (P := isDig) (t - i) i j j1 (by rw [e0] at j2; exact j2)), Option.bind_some]
          exact go _ _ nbl e1.symm (fun _ => rfl)
      · rw [if_neg hd, if_pos rfl]
        have e0 : lexEnd b t i = i + 1 := by unfold lexEnd; rw [if_pos hit, if_neg hl, if_neg hd]
        have e1 : lexKind b t i = (if signB (b i) = true then znn (b i) else -3) := by unfold lexKind; rw [if_pos hit, if_neg hl, if_neg hd]
        by_cases h32 : b i = 32
        · rw [if_pos (show znn (b i) = 32 by rw [h32]; rfl)]
          exact blank (by rw [h32]; rfl)
        · rw [if_neg (show ¬ znn (b i) = 32 by rw [zl32, zn_eq (by omega) (by decide)]; exact h32)]
          by_cases h10 : b i = 10
          · rw [if_pos (show znn (b i) = 10 by rw [h10]; rfl)]
            exact blank (by rw [h10]; rfl)
          · rw [if_neg (show ¬ znn (b i) = 10 by rw [zl10, zn_eq (by omega) (by decide)]; exact h10), sign_kind hx, Option.bind_some, ← e0]
            refine go _ _ ?_ e1.symm (fun hc => ?_)
            · unfold isBlk
              rw [decide_eq_false h32, decide_eq_false h10]
              rfl
            · rw [e1] at hc
              split at hc
              · exact absurd hc (zn_ne_neg2 (by omega))
              · exact absurd hc (by decide)
