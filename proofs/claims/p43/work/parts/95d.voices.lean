-- ===== VOICES told, read forward =====
theorem text_gen {a t : Nat} {B : ZI} {b : Nat → Nat} {l : List (Int32 × Nat)} (ha : a ≤ 3) (hb : tapB b t) (hB : onB B b t) (hne : l ≠ []) (hst : stream a b t l 0) : ∃ B7, pT a b t B7 l ∧ (∀ o, o ≠ 148 → B7 o = B o) ∧ (∀ j, j ≠ 14 → j ≠ 20 → j ≠ 21 → j ≠ 22 → j ≠ 23 → j ≠ 24 → j ≠ 26 → j ≠ 28 → B7 148 j = B 148 j) ∧ ∀ B9 r B', f167_reads (znn a) B7 = some (1, B9) → f192_putsText (znn a) (zs B9 148 19 0) = some (r, B') → f156_text (znn a) B = some (r, B') := by
  cases l with
  | nil => exact absurd rfl hne
  | cons q l =>
    obtain ⟨s, e, hx, hrest⟩ := hst
    have hB6 : onB (zs (zs (zs (zs (zs B 148 26 0) 148 28 (-1)) 148 24 0) 148 20 0) 148 14 (znn a)) b t := ⟨by simp only [zs_sm]; exact hB.1, fun i hi => by simp only [zs_df (show (158 : Nat) ≠ 148 by decide)]; exact hB.2 i hi⟩
    obtain ⟨B7, n1, n2, n3, n4, n5, n6, n7⟩ := next_tok hb hB6 (a := a) (by rw [zs_sm, if_pos rfl]) ha (i := 0) (by simp only [zs_sm]; rfl) (by omega) hx
    refine ⟨B7, ⟨⟨by rw [n7 19 (by decide) (by decide) (by decide) (by decide)]; exact hB6.1, fun i hi => by rw [n6 158 (by decide)]; exact hB6.2 i hi⟩, by rw [n7 14 (by decide) (by decide) (by decide) (by decide), zs_sm, if_pos rfl], n3, n5, e, hx.2.1, n2, hrest⟩, fun o ho => ?_, fun j q1 q2 q3 q4 q5 q6 q7 q8 => ?_, fun B9 r B' h1 h2 => ?_⟩
    · rw [n6 o ho]
      simp only [zs_df ho]
    · rw [n7 j q2 q3 q4 q5]
      simp only [zs_sm]
      rw [if_neg q1, if_neg q2, if_neg q6, if_neg q8, if_neg q7]
    · unfold f156_text
      simp only [zlet]
      rw [show f149_isIn (znn a) 0 3 = some 1 from in_yes (lo := 0) (hi := 3) (by omega) ha (by decide)]
      simp only [Option.bind_some]
      rw [if_neg (by decide), n1]
      simp only [Option.bind_some]
      rw [h1]
      simp only [Option.bind_some]
      rw [if_neg (by decide), h2]
      rfl
def vTk (vv : Nat → Option Nat) : Nat → List (Int32 × Nat)
  | 0 => [(0, 0)]
  | m + 1 => match vv m with
    | none => vTk vv m
    | some q => (2, m) :: (7, 0) :: (2, q) :: (159, 0) :: vTk vv m
def vTx (vv : Nat → Option Nat) : Nat → List Nat
  | 0 => []
  | m + 1 => match vv m with
    | none => vTx vv m
    | some q => digN m ++ ([32, 110, 97, 109, 101, 115, 32] ++ (digN q ++ ([59] ++ vTx vv m)))
def vCt (vv : Nat → Option Nat) : Nat → Nat
  | 0 => 0
  | m + 1 => match vv m with
    | none => vCt vv m
    | some _ => vCt vv m + 1
def vOf (vv : Nat → Option Nat) (j : Nat) : Int32 := match vv j with
  | none => -1
  | some q => znn q
theorem vCt_le (vv : Nat → Option Nat) : ∀ m, vCt vv m ≤ m
  | 0 => Nat.le_refl _
  | m + 1 => by
    have := vCt_le vv m
    unfold vCt
    cases vv m with
    | none => exact Nat.le_succ_of_le this
    | some q => exact Nat.succ_le_succ this
theorem vTk_ne (vv : Nat → Option Nat) : ∀ m, ∃ y l, vTk vv m = y :: l
  | 0 => ⟨_, _, rfl⟩
  | m + 1 => by
    unfold vTk
    cases vv m with
    | none => exact vTk_ne vv m
    | some q => exact ⟨_, _, rfl⟩
theorem v_stream {t : Nat} {b : Nat → Nat} {vv : Nat → Option Nat} : ∀ m i, m ≤ 100 → (∀ p q, p < m → vv p = some q → q < 100) → restAt b t i (vTx vv m) → stream 1 b t (vTk vv m) i
  | 0, i, _, _, h => st_end h
  | m + 1, i, hm, hv, h => by
    unfold vTx at h
    unfold vTk
    cases hvm : vv m with
    | none =>
      rw [hvm] at h
      exact v_stream m i (by omega) (fun p q h1 h2 => hv p q (by omega) h2) h
    | some q =>
      rw [hvm] at h
      have hq := hv m q (by omega) hvm
      refine st_num (sp := 0) h (by omega) rfl (fun e h => ?_)
      refine st_word (sp := 1) (w := [110, 97, 109, 101, 115]) h (by decide) (by decide) rfl (by decide) (by decide) (fun e h => ?_)
      refine st_num (sp := 1) h hq rfl (fun e h => ?_)
      refine st_sign (sp := 0) (x := 59) h (by decide) (by decide) (by decide) (fun e h => ?_)
      exact v_stream m e (by omega) (fun p q h1 h2 => hv p q (by omega) h2) h
theorem voices_loop {t n : Nat} {b : Nat → Nat} {vv : Nat → Option Nat} (hb : tapB b t) (hn : n ≤ 10) : ∀ m fu r (B : ZI), m ≤ n → (∀ p q, p < m → vv p = some q → q < n ∧ q ≠ p) → m < fu → r + m ≤ 50 → B 149 48 = znn n → (∀ j, j < m → B 155 j = -1) → B 148 17 = znn r → pT 1 b t B (vTk vv m) → ∃ B', f180_l28 fu 1 B = some (1, B') ∧ B' 148 17 = znn (r + vCt vv m) ∧ (∀ o, o ≠ 148 → o ≠ 155 → B' o = B o) ∧ (∀ j, B' 155 j = if j < m then vOf vv j else B 155 j) ∧ ∀ j, j ≠ 17 → j ≠ 20 → j ≠ 21 → j ≠ 22 → j ≠ 23 → j ≠ 29 → B' 148 j = B 148 j := by
  intro m
  induction m with
  | zero =>
    intro fu r B _ _ hf _ _ _ h17 hP
    obtain ⟨fu, rfl⟩ : ∃ k, fu = k + 1 := ⟨fu - 1, by omega⟩
    refine ⟨B, ?_, h17, fun _ _ _ => rfl, fun j => by rw [if_neg (by omega)], fun _ _ _ _ _ _ _ => rfl⟩
    rw [f180_l28, if_neg (by decide), if_pos (show B 148 21 = 0 from hP.2.2.1)]
  | succ m ih =>
    intro fu r B hm hv hf hr h48 hneg h17 hP
    unfold vTk at hP
    unfold vCt
    cases hvm : vv m with
    | none =>
      rw [hvm] at hP
      obtain ⟨B', e1, e2, e3, e4, e5⟩ := ih fu r B (by omega) (fun p q q1 q2 => hv p q (by omega) q2) (by omega) (by omega) h48 (fun j hj => hneg j (by omega)) h17 hP
      refine ⟨B', e1, e2, e3, fun j => ?_, e5⟩
      rw [e4]
      by_cases hj : j < m
      · rw [if_pos hj, if_pos (by omega)]
      · rw [if_neg hj]
        by_cases hjm : j = m
        · subst hjm
          rw [if_pos (by omega), hneg j (by omega)]
          unfold vOf
          rw [hvm]
        · rw [if_neg (by omega)]
    | some q =>
      rw [hvm] at hP
      obtain ⟨hqn, hqm⟩ := hv m q (by omega) hvm
      obtain ⟨fu, rfl⟩ : ∃ k, fu = k + 1 := ⟨fu - 1, by omega⟩
      obtain ⟨z, l, hz⟩ := vTk_ne vv m
      simp only [hz] at hP
      obtain ⟨B1, a1, a2, a3, a4, a5, a6⟩ := voice_run hb (by decide) hn h48 (by omega) hqn hqm (hneg m (by omega)) h17 (by omega) hP
      rw [← hz] at a2
      obtain ⟨B', e1, e2, e3, e4, e5⟩ := ih fu (r + 1) B1 (by omega) (fun p q q1 q2 => hv p q (by omega) q2) (by omega) (by omega) (by rw [a4 149 (by decide) (by decide)]; exact h48) (fun j hj => by rw [a5, if_neg (by omega)]; exact hneg j (by omega)) a3 a2
      refine ⟨B', ?_, by rw [e2]; congr 1; dsimp only; omega, fun o q1 q2 => (e3 o q1 q2).trans (a4 o q1 q2), fun j => ?_, fun j q1 q2 q3 q4 q5 q6 => (e5 j q1 q2 q3 q4 q5 q6).trans (a6 j q1 q2 q3 q4 q5 q6)⟩
      · rw [f180_l28, if_neg (by decide), if_neg (show ¬ B 148 21 = 0 by rw [show B 148 21 = 2 from hP.2.2.1]; decide), a1]
        exact e1
      · rw [e4, a5]
        by_cases hj : j < m
        · rw [if_pos hj, if_pos (by omega)]
        · rw [if_neg hj]
          by_cases hjm : j = m
          · subst hjm
            rw [if_pos rfl, if_pos (by omega)]
            unfold vOf
            rw [hvm]
          · rw [if_neg hjm, if_neg (by omega)]
theorem text_voices {B : ZI} {b : Nat → Nat} {t n : Nat} {vv : Nat → Option Nat} (hb : tapB b t) (hB : onB B b t) (hn : n ≤ 10) (h48 : B 149 48 = znn n) (hv : ∀ p q, p < n → vv p = some q → q < n ∧ q ≠ p) (hr : restAt b t 0 (vTx vv n)) : ∃ B', f156_text 1 B = some (znn (vCt vv n), B') ∧ (∀ o, o ≠ 148 → o ≠ 149 → o ≠ 155 → B' o = B o) ∧ (∀ i, i < 10 → B' 149 (80 + i) = if i < n then vOf vv i else -1) ∧ B' 149 51 = znn (vCt vv n) ∧ (∀ j, j ≠ 51 → ¬ (80 ≤ j ∧ j < 90) → B' 149 j = B 149 j) ∧ B' 148 19 = 0 ∧ B' 148 4 = 0 := by
  have hst := v_stream (vv := vv) n 0 (by omega) (fun p q h1 h2 => by have := (hv p q h1 h2).1; omega) hr
  obtain ⟨y, l, hyl⟩ := vTk_ne vv n
  obtain ⟨B7, n1, n2, n3, n4⟩ := text_gen (by decide) hb hB (by rw [hyl]; exact List.cons_ne_nil _ _) hst
  obtain ⟨B2, l1, l3, l4⟩ := zloop (fun fu (M : ZI) x => f180_l7 fu x M) 10 (fun i M => (∀ o, o ≠ 155 → M o = (zs B7 148 17 0) o) ∧ ∀ j, j < i → M 155 j = -1) (fun M => (∀ o, o ≠ 155 → M o = (zs B7 148 17 0) o) ∧ ∀ j, j < 10 → M 155 j = -1) (fun fu i M hi hM => by
    left
    refine ⟨zs M 155 i (-1), ⟨fun o ho => by rw [zs_df ho]; exact hM.1 o ho, fun j hj => ?_⟩, ?_⟩
    · rw [zs_sm]
      by_cases hji : j = i
      · rw [if_pos hji]
      · rw [if_neg hji]; exact hM.2 j (by omega)
    · rw [f180_l7, if_pos (show znn i < 10 by rw [zl10, zn_lt (by omega) (by decide)]; exact hi), if_pos ((zn_zin (by omega)).mpr hi), zlet_e, zn_zi (by omega), zadd1]) (fun fu M hM => ⟨M, hM, by
    rw [f180_l7, if_neg (by decide)]⟩) zfu 0 (zs B7 148 17 0) (by omega) (by rw [zfu_eq]; omega) ⟨fun _ _ => rfl, fun j hj => by omega⟩
  have hP2 : pT 1 b t B2 (vTk vv n) := pT_of n1 (by rw [l3 158 (by decide), zs_df (by decide)]) (fun j hj => by rw [l3 148 (by decide), zs_sm, if_neg (by omega)])
  have e149 : B2 149 = B 149 := by rw [l3 149 (by decide), zs_df (by decide), n2 149 (by decide)]
  obtain ⟨B3, v1, v2, v3, v4, v5⟩ := voices_loop hb hn n zfu 0 B2 (Nat.le_refl _) hv (by rw [zfu_eq]; omega) (by omega) (by rw [e149]; exact h48) (fun j hj => l4 j (by omega)) (by rw [l3 148 (by decide), zs_sm, if_pos rfl]; rfl) hP2
  obtain ⟨B', p1, p2, p3, p4, p5, p6, p7⟩ := puts_voices (M := zs B3 148 19 0) (k := vCt vv n) (by rw [zs_sm, if_neg (by decide), v2, Nat.zero_add])
  refine ⟨B', n4 B3 _ B' ?_ ?_, fun o q1 q2 q3 => ?_, fun i hi => ?_, p5, fun j q1 q2 => ?_, ?_, p4⟩
  · show f167_reads 1 B7 = _
    unfold f167_reads
    rw [if_neg (by decide), if_pos rfl]
    unfold f180_readsVoices
    simp only [zlet]
    rw [show f180_l7 zfu 0 (zs B7 148 17 0) = some B2 from l1]
    simp only [Option.bind_some]
    rw [v1]
    rfl
  · show f192_putsText 1 _ = _
    unfold f192_putsText
    rw [if_neg (by decide), if_pos rfl, p1]
    rfl
  · rw [p2 o q2 q1, zs_df q1, v3 o q1 q3, l3 o q3, zs_df q1, n2 o q1]
  · rw [p6 i hi, zs_df (by decide), v4]
    by_cases hin : i < n
    · rw [if_pos hin, if_pos hin]
    · rw [if_neg hin, if_neg hin]; exact l4 i hi
  · rw [p7 j q1 q2, zs_df (by decide), v3 149 (by decide) (by decide), e149]
  · rw [p3 19 (by decide), zs_sm, if_pos rfl]
